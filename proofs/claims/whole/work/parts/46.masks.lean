/-! sets of houses as bits -/
def cnt8 (f : Nat → Bool) : Nat := b2n (f 0) + b2n (f 1) + b2n (f 2) + b2n (f 3) + b2n (f 4) + b2n (f 5) + b2n (f 6) + b2n (f 7)
def c8 (b0 b1 b2 b3 b4 b5 b6 b7 : Bool) : Nat := b2n b0 + b2n b1 + b2n b2 + b2n b3 + b2n b4 + b2n b5 + b2n b6 + b2n b7
theorem cnt8_c {f g : Nat → Bool} (h : ∀ i, i < 8 → f i = g i) : cnt8 f = cnt8 g := by
  unfold cnt8
  rw [h 0 (by decide), h 1 (by decide), h 2 (by decide), h 3 (by decide), h 4 (by decide), h 5 (by decide), h 6 (by decide), h 7 (by decide)]
theorem mk8_lt (f : Nat → Bool) : mk8 f < 256 := by
  have h : ∀ b, b2n b ≤ 1 := by decide
  unfold mk8
  have := h (f 0); have := h (f 1); have := h (f 2); have := h (f 3); have := h (f 4); have := h (f 5); have := h (f 6); have := h (f 7)
  omega
theorem cnt8_le (f : Nat → Bool) : cnt8 f ≤ 8 := by
  have h : ∀ b, b2n b ≤ 1 := by decide
  unfold cnt8
  have := h (f 0); have := h (f 1); have := h (f 2); have := h (f 3); have := h (f 4); have := h (f 5); have := h (f 6); have := h (f 7)
  omega
set_option maxRecDepth 100000 in
theorem m8_set : ∀ b0 b1 b2 b3 b4 b5 b6 b7 : Bool, (nI (m8 b0 b1 b2 b3 b4 b5 b6 b7) ||| ((1 : Int32) <<< (nI 0 &&& 31)) = nI (m8 true b1 b2 b3 b4 b5 b6 b7)) ∧ (nI (m8 b0 b1 b2 b3 b4 b5 b6 b7) ||| ((1 : Int32) <<< (nI 1 &&& 31)) = nI (m8 b0 true b2 b3 b4 b5 b6 b7)) ∧ (nI (m8 b0 b1 b2 b3 b4 b5 b6 b7) ||| ((1 : Int32) <<< (nI 2 &&& 31)) = nI (m8 b0 b1 true b3 b4 b5 b6 b7)) ∧ (nI (m8 b0 b1 b2 b3 b4 b5 b6 b7) ||| ((1 : Int32) <<< (nI 3 &&& 31)) = nI (m8 b0 b1 b2 true b4 b5 b6 b7)) ∧ (nI (m8 b0 b1 b2 b3 b4 b5 b6 b7) ||| ((1 : Int32) <<< (nI 4 &&& 31)) = nI (m8 b0 b1 b2 b3 true b5 b6 b7)) ∧ (nI (m8 b0 b1 b2 b3 b4 b5 b6 b7) ||| ((1 : Int32) <<< (nI 5 &&& 31)) = nI (m8 b0 b1 b2 b3 b4 true b6 b7)) ∧ (nI (m8 b0 b1 b2 b3 b4 b5 b6 b7) ||| ((1 : Int32) <<< (nI 6 &&& 31)) = nI (m8 b0 b1 b2 b3 b4 b5 true b7)) ∧ (nI (m8 b0 b1 b2 b3 b4 b5 b6 b7) ||| ((1 : Int32) <<< (nI 7 &&& 31)) = nI (m8 b0 b1 b2 b3 b4 b5 b6 true)) := by decide +kernel
def fset (f : Nat → Bool) (h : Nat) (b : Bool) : Nat → Bool := fun i => if i = h then b else f i
theorem mk8_set (f : Nat → Bool) {h : Nat} (hh : h < 8) : nI (mk8 f) ||| ((1 : Int32) <<< (nI h &&& 31)) = nI (mk8 (fset f h true)) := by
  obtain ⟨h0, h1, h2, h3, h4, h5, h6, h7⟩ := m8_set (f 0) (f 1) (f 2) (f 3) (f 4) (f 5) (f 6) (f 7)
  rw [mk8_m, mk8_m]
  rcases lt8 hh with rfl | rfl | rfl | rfl | rfl | rfl | rfl | rfl <;> assumption
theorem andM (a b : Nat) : nI a &&& nI b = nI (a &&& b) := by
  apply Int32.toBitVec_inj.mp
  simp [nI, Int32.ofNat, BitVec.ofNat_and]
  rfl
theorem orM (a b : Nat) : nI a ||| nI b = nI (a ||| b) := by
  apply Int32.toBitVec_inj.mp
  simp [nI, Int32.ofNat, BitVec.ofNat_or]
  rfl
theorem xorM (a b : Nat) : nI a ^^^ nI b = nI (a ^^^ b) := by
  apply Int32.toBitVec_inj.mp
  simp [nI, Int32.ofNat, BitVec.ofNat_xor]
  rfl
set_option maxRecDepth 100000 in
theorem m8_and : ∀ a0 a1 a2 a3 a4 a5 a6 a7 b0 b1 b2 b3 b4 b5 b6 b7 : Bool, m8 a0 a1 a2 a3 a4 a5 a6 a7 &&& m8 b0 b1 b2 b3 b4 b5 b6 b7 = m8 (a0 && b0) (a1 && b1) (a2 && b2) (a3 && b3) (a4 && b4) (a5 && b5) (a6 && b6) (a7 && b7) := by decide +kernel
set_option maxRecDepth 100000 in
theorem m8_or : ∀ a0 a1 a2 a3 a4 a5 a6 a7 b0 b1 b2 b3 b4 b5 b6 b7 : Bool, m8 a0 a1 a2 a3 a4 a5 a6 a7 ||| m8 b0 b1 b2 b3 b4 b5 b6 b7 = m8 (a0 || b0) (a1 || b1) (a2 || b2) (a3 || b3) (a4 || b4) (a5 || b5) (a6 || b6) (a7 || b7) := by decide +kernel
theorem mk8_and (f g : Nat → Bool) : nI (mk8 f) &&& nI (mk8 g) = nI (mk8 (fun i => f i && g i)) := by
  rw [andM, mk8_m, mk8_m, m8_and]; rfl
theorem mk8_or (f g : Nat → Bool) : nI (mk8 f) ||| nI (mk8 g) = nI (mk8 (fun i => f i || g i)) := by
  rw [orM, mk8_m, mk8_m, m8_or]; rfl
set_option maxRecDepth 100000 in
theorem m8_not : ∀ a0 a1 a2 a3 a4 a5 a6 a7 : Bool, (nI (m8 a0 a1 a2 a3 a4 a5 a6 a7) ^^^ (-1 : Int32)) &&& 255 = nI (m8 (!a0) (!a1) (!a2) (!a3) (!a4) (!a5) (!a6) (!a7)) := by decide +kernel
/-- f without g -/
theorem mk8_diff (f g : Nat → Bool) : nI (mk8 f) &&& (nI (mk8 g) ^^^ (-1 : Int32)) = nI (mk8 (fun i => f i && !g i)) := by
  have h1 : nI (mk8 f) &&& 255 = nI (mk8 f) := by rw [pk_andN (by have := mk8_lt f; omega) 8 (by decide)]; congr 1; have := mk8_lt f; omega
  have h2 := m8_not (g 0) (g 1) (g 2) (g 3) (g 4) (g 5) (g 6) (g 7)
  rw [← mk8_m] at h2
  rw [← h1, Int32.and_assoc, Int32.and_comm 255 _, h2]
  exact mk8_and f (fun i => !g i)
theorem mk8_0 (f : Nat → Bool) : mk8 f = 0 ↔ ∀ i, i < 8 → f i = false := by
  have hb : ∀ b, b2n b = 0 ↔ b = false := by decide
  constructor
  · intro h i hi
    unfold mk8 at h
    rw [← hb]
    rcases lt8 hi with rfl | rfl | rfl | rfl | rfl | rfl | rfl | rfl <;> omega
  · intro h
    unfold mk8
    rw [h 0 (by decide), h 1 (by decide), h 2 (by decide), h 3 (by decide), h 4 (by decide), h 5 (by decide), h 6 (by decide), h 7 (by decide)]
    rfl
theorem mk8_z (f : Nat → Bool) : nI (mk8 f) = 0 ↔ ∀ i, i < 8 → f i = false := by
  rw [← mk8_0]
  exact nI_eq (b := 0) (by have := mk8_lt f; omega) (by omega)
theorem fX6_bit_v (f : Nat → Bool) {h : Nat} (hh : h < 8) (σ : Sg) : fX6_bit (nI (mk8 f)) (nI h) σ = some (nI (b2n (f h)), σ) := by
  unfold fX6_bit
  rw [mk8_bit f hh]
def bcv (p0 : Int32) : Int32 :=
  let x0_1 := (p0 - ((ius p0 (1 : Int32)) &&& (1431655765 : Int32))); let x0_2 := ((x0_1 &&& (858993459 : Int32)) + ((ius x0_1 (2 : Int32)) &&& (858993459 : Int32))); let x0_3 := ((x0_2 + (ius x0_2 (4 : Int32))) &&& (252645135 : Int32)); let x0_4 := (x0_3 + (ius x0_3 (8 : Int32))); let x0_5 := (x0_4 + (ius x0_4 (16 : Int32))); x0_5 &&& (63 : Int32)
set_option maxRecDepth 100000 in
theorem m8_cnt : ∀ a0 a1 a2 a3 a4 a5 a6 a7 : Bool, bcv (nI (m8 a0 a1 a2 a3 a4 a5 a6 a7)) = nI (c8 a0 a1 a2 a3 a4 a5 a6 a7) := by decide +kernel
theorem bitCount_v (f : Nat → Bool) (σ : Sg) : fJ6_bitCount_0f7a4 (nI (mk8 f)) σ = some (nI (cnt8 f), σ) := by
  show some (bcv (nI (mk8 f)), σ) = _
  rw [mk8_m, m8_cnt]
  rfl
def bsv (p : Int32) : Int32 := 0 + ((p >>> (nI 0 &&& 31)) &&& 1) + ((p >>> (nI 1 &&& 31)) &&& 1) + ((p >>> (nI 2 &&& 31)) &&& 1) + ((p >>> (nI 3 &&& 31)) &&& 1) + ((p >>> (nI 4 &&& 31)) &&& 1) + ((p >>> (nI 5 &&& 31)) &&& 1) + ((p >>> (nI 6 &&& 31)) &&& 1) + ((p >>> (nI 7 &&& 31)) &&& 1)
set_option maxRecDepth 100000 in
theorem m8_bs : ∀ a0 a1 a2 a3 a4 a5 a6 a7 : Bool, bsv (nI (m8 a0 a1 a2 a3 a4 a5 a6 a7)) = nI (c8 a0 a1 a2 a3 a4 a5 a6 a7) := by decide +kernel
theorem bits_step (p : Int32) (x : Int32) (i : Nat) (hi : i < 8) (σ : Sg) : (fun st : Int32 × Int32 × Sg => bX7_bits_4 p st.1 st.2.1 st.2.2) (x, nI i, σ) = some (.inl (x + ((p >>> (nI i &&& 31)) &&& 1), nI (i + 1), σ)) := by
  show bX7_bits_4 p x (nI i) σ = _
  unfold bX7_bits_4
  rw [if_neg (show ¬ (8 : Int32) ≤ nI i from le_nI (a := 8) (by omega) (by omega) hi)]
  dsimp only
  rw [nI_s]
theorem bits_v (f : Nat → Bool) (σ : Sg) : fX7_bits (nI (mk8 f)) σ = some (nI (cnt8 f), σ) := by
  unfold fX7_bits
  have e : lp (fun st : Int32 × Int32 × Sg => bX7_bits_4 (nI (mk8 f)) st.1 st.2.1 st.2.2) (0, 0, σ) = some (bsv (nI (mk8 f)), σ) := by
    rw [show ((0 : Int32), (0 : Int32), σ) = ((0 : Int32), nI 0, σ) from rfl]
    rw [lp_l (bits_step _ _ 0 (by decide) σ), lp_l (bits_step _ _ 1 (by decide) σ), lp_l (bits_step _ _ 2 (by decide) σ), lp_l (bits_step _ _ 3 (by decide) σ), lp_l (bits_step _ _ 4 (by decide) σ), lp_l (bits_step _ _ 5 (by decide) σ), lp_l (bits_step _ _ 6 (by decide) σ), lp_l (bits_step _ _ 7 (by decide) σ)]
    exact lp_r (by show bX7_bits_4 _ _ (nI 8) σ = _; unfold bX7_bits_4; rw [if_pos (show (8 : Int32) ≤ nI 8 by decide)]; rfl)
  rw [e, mk8_m, m8_bs]
  rfl
