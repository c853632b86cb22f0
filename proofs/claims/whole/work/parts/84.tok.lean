/-! signs and runs -/
def cd (x : Int32) : Nat := (x &&& 255).toNatClampNeg
theorem chr (b : Int8) : b.toInt32 &&& 255 = nI (cd b.toInt32) ∧ cd b.toInt32 < 256 ∧ (cd b.toInt32 < 128 → b.toInt32 = nI (cd b.toInt32)) ∧ (128 ≤ cd b.toInt32 → b.toInt32 < 0) := by
  have h : ∀ n : Fin 256, (fun b : Int8 => b.toInt32 &&& 255 = nI (cd b.toInt32) ∧ cd b.toInt32 < 256 ∧ (cd b.toInt32 < 128 → b.toInt32 = nI (cd b.toInt32)) ∧ (128 ≤ cd b.toInt32 → b.toInt32 < 0)) ⟨⟨⟨n⟩⟩⟩ := by decide +kernel
  obtain ⟨⟨⟨n⟩⟩⟩ := b
  exact h n
def ltC (c : Nat) : Bool := decide (97 ≤ c ∧ c ≤ 122)
def dgC (c : Nat) : Bool := decide (48 ≤ c ∧ c ≤ 57)
def blC (c : Nat) : Bool := decide (c = 9 ∨ c = 10 ∨ c = 13 ∨ c = 32)
/-- a sign of the class's tape -/
def CX (x : Int32) (c : Nat) : Prop := c < 256 ∧ (c < 128 → x = nI c) ∧ (128 ≤ c → x < 0)
section TOK
variable {M L : Nat} {σ τ : Sg} {C : Nat → Nat} {x : Int32} {c : Nat}
theorem m_letter (h : c < 256) : fX7_isLetter (nI c) σ = some (nI (b2n (ltC c)), σ) := by
  unfold fX7_isLetter ltC
  by_cases q1 : c < 97
  · rw [if_pos (Int32.not_le.mp (show ¬ (97 : Int32) ≤ nI c from le_nI (a := 97) (by omega) (by omega) q1)), decide_eq_false (by omega)]; rfl
  · rw [if_neg (Int32.not_lt.mpr (show (97 : Int32) ≤ nI c from nI_le (a := 97) (by omega) (by omega)))]
    by_cases q2 : 122 < c
    · rw [if_pos (Int32.not_le.mp (show ¬ nI c ≤ 122 from le_nI (b := 122) (by omega) (by omega) q2)), decide_eq_false (by omega)]; rfl
    · rw [if_neg (Int32.not_lt.mpr (show nI c ≤ 122 from nI_le (b := 122) (by omega) (by omega))), decide_eq_true (by omega)]; rfl
theorem m_digit (h : c < 256) : fX7_isDigit (nI c) σ = some (nI (b2n (dgC c)), σ) := by
  unfold fX7_isDigit dgC
  by_cases q1 : c < 48
  · rw [if_pos (Int32.not_le.mp (show ¬ (48 : Int32) ≤ nI c from le_nI (a := 48) (by omega) (by omega) q1)), decide_eq_false (by omega)]; rfl
  · rw [if_neg (Int32.not_lt.mpr (show (48 : Int32) ≤ nI c from nI_le (a := 48) (by omega) (by omega)))]
    by_cases q2 : 57 < c
    · rw [if_pos (Int32.not_le.mp (show ¬ nI c ≤ 57 from le_nI (b := 57) (by omega) (by omega) q2)), decide_eq_false (by omega)]; rfl
    · rw [if_neg (Int32.not_lt.mpr (show nI c ≤ 57 from nI_le (b := 57) (by omega) (by omega))), decide_eq_true (by omega)]; rfl
theorem c_letter (h : CX x c) : fX4_isLetter x σ = some (nI (b2n (ltC c)), σ) := by
  by_cases q : c < 128
  · rw [h.2.1 q]; exact m_letter h.1
  · unfold fX4_isLetter ltC
    rw [if_pos (Int32.lt_of_lt_of_le (h.2.2 (by omega)) (show (0 : Int32) ≤ 97 by decide)), decide_eq_false (by omega)]; rfl
theorem c_digit (h : CX x c) : fX4_isDigit x σ = some (nI (b2n (dgC c)), σ) := by
  by_cases q : c < 128
  · rw [h.2.1 q]; exact m_digit h.1
  · unfold fX4_isDigit dgC
    rw [if_pos (Int32.lt_of_lt_of_le (h.2.2 (by omega)) (show (0 : Int32) ≤ 48 by decide)), decide_eq_false (by omega)]; rfl
theorem CX.eq (h : CX x c) {k : Nat} (hk : k < 128) : x = nI k ↔ c = k := by
  by_cases q : c < 128
  · rw [h.2.1 q]; exact nI_eq (by omega) (by omega)
  · constructor
    · intro z
      have h1 := h.2.2 (by omega)
      rw [z] at h1
      exact absurd h1 (Int32.not_lt.mpr (nI_n1 (by omega)))
    · intro z; omega
theorem c_blank (h : CX x c) : fX4_isBlank x σ = some (nI (b2n (blC c)), σ) := by
  have e9 : x = (9 : Int32) ↔ c = 9 := h.eq (k := 9) (by omega)
  have e10 : x = (10 : Int32) ↔ c = 10 := h.eq (k := 10) (by omega)
  have e13 : x = (13 : Int32) ↔ c = 13 := h.eq (k := 13) (by omega)
  have e32 : x = (32 : Int32) ↔ c = 32 := h.eq (k := 32) (by omega)
  unfold fX4_isBlank jX4_isBlank_24 blC
  by_cases q1 : c = 9
  · rw [if_pos (e9.mpr q1), decide_eq_true (Or.inl q1)]; rfl
  · rw [if_neg (fun z => q1 (e9.mp z))]
    by_cases q2 : c = 10
    · rw [if_pos (e10.mpr q2), decide_eq_true (Or.inr (Or.inl q2))]; rfl
    · rw [if_neg (fun z => q2 (e10.mp z))]
      by_cases q3 : c = 13
      · rw [if_pos (e13.mpr q3), decide_eq_true (Or.inr (Or.inr (Or.inl q3)))]; rfl
      · rw [if_neg (fun z => q3 (e13.mp z))]
        by_cases q4 : c = 32
        · rw [if_pos (e32.mpr q4), decide_eq_true (Or.inr (Or.inr (Or.inr q4)))]; rfl
        · rw [if_neg (fun z => q4 (e32.mp z)), decide_eq_false (by omega)]; rfl
/-- where a run ends -/
def rnE (p : Nat → Bool) (C : Nat → Nat) : Nat → Nat → Nat
  | 0, i => i
  | d + 1, i => if p (C i) = true then rnE p C d (i + 1) else i
theorem rnE_in (p : Nat → Bool) (C : Nat → Nat) : ∀ d i, i ≤ rnE p C d i ∧ rnE p C d i ≤ i + d ∧ ∀ j, i ≤ j → j < rnE p C d i → p (C j) = true
  | 0, i => ⟨Nat.le_refl _, Nat.le_refl _, fun j h1 h2 => absurd h2 (by show ¬ j < i; omega)⟩
  | d + 1, i => by
    obtain ⟨h1, h2, h3⟩ := rnE_in p C d (i + 1)
    rw [show rnE p C (d + 1) i = if p (C i) = true then rnE p C d (i + 1) else i from rfl]
    by_cases q : p (C i) = true
    · rw [if_pos q]
      refine ⟨by omega, by omega, fun j a1 a2 => ?_⟩
      by_cases z : j = i
      · rw [z]; exact q
      · exact h3 j (by omega) a2
    · rw [if_neg q]
      exact ⟨by omega, by omega, fun j a1 a2 => by omega⟩
theorem rnE_x (p : Nat → Bool) (C : Nat → Nat) : ∀ d i, rnE p C d i < i + d → p (C (rnE p C d i)) = false
  | 0, i => fun h => by have : rnE p C 0 i = i := rfl; omega
  | d + 1, i => fun h => by
    rw [show rnE p C (d + 1) i = if p (C i) = true then rnE p C d (i + 1) else i from rfl] at h ⊢
    by_cases q : p (C i) = true
    · rw [if_pos q] at h ⊢
      exact rnE_x p C d (i + 1) (by omega)
    · rw [if_neg q]
      simpa using q
/-- the end of what begins at i -/
def enE (C : Nat → Nat) (L i : Nat) : Nat := if ltC (C i) = true then rnE ltC C (L - (i + 1)) (i + 1) else if dgC (C i) = true then rnE dgC C (L - (i + 1)) (i + 1) else i + 1
theorem enE_in {i : Nat} (hi : i < L) : i + 1 ≤ enE C L i ∧ enE C L i ≤ L := by
  have h1 := rnE_in ltC C (L - (i + 1)) (i + 1)
  have h2 := rnE_in dgC C (L - (i + 1)) (i + 1)
  unfold enE
  split
  · omega
  · split <;> omega
def TC (σ : Sg) (L : Nat) (C : Nat → Nat) : Prop := L ≤ 2000 ∧ ∀ i, i < L → CX (σ.1 1 i) (C i)
theorem c_runL (h : TC σ L C) (p1 : Int32) : ∀ d i, i + d = L → lp (fun st : Int32 × Sg => bX4_runEnd_13 1 p1 (nI L) st.1 st.2) (nI i, σ) = some (nI (rnE ltC C d i), σ)
  | 0, i, hi => by
    refine lp_r ?_
    show bX4_runEnd_13 1 p1 (nI L) (nI i) σ = _
    unfold bX4_runEnd_13
    rw [if_pos (nI_le (by omega) (by have := h.1; omega))]
    rfl
  | d + 1, i, hi => by
    have hL := h.1
    have st : bX4_runEnd_13 1 p1 (nI L) (nI i) σ = if ltC (C i) = true then some (Sum.inl (nI (i + 1), σ)) else some (Sum.inr (nI i, σ)) := by
      unfold bX4_runEnd_13
      rw [if_neg (le_nI (by omega) (by omega) (by omega))]
      simp (disch := omega) only [vif, nI_clamp]
      rw [c_letter (h.2 i (by omega)), Option.bind_some]
      dsimp only
      rw [nI_s]
      cases ltC (C i)
      · rw [if_pos (by decide), if_neg (by decide)]
      · rw [if_neg (by decide), if_pos rfl]
    rw [show rnE ltC C (d + 1) i = if ltC (C i) = true then rnE ltC C d (i + 1) else i from rfl]
    by_cases q : ltC (C i) = true
    · rw [if_pos q] at st ⊢
      exact (lp_l st).trans (c_runL h p1 d (i + 1) (by omega))
    · rw [if_neg q] at st ⊢
      exact lp_r st
theorem c_runD (h : TC σ L C) (p1 : Int32) : ∀ d i, i + d = L → lp (fun st : Int32 × Sg => bX4_runEnd_42 1 p1 (nI L) st.1 st.2) (nI i, σ) = some (nI (rnE dgC C d i), σ)
  | 0, i, hi => by
    refine lp_r ?_
    show bX4_runEnd_42 1 p1 (nI L) (nI i) σ = _
    unfold bX4_runEnd_42
    rw [if_pos (nI_le (by omega) (by have := h.1; omega))]
    rfl
  | d + 1, i, hi => by
    have hL := h.1
    have st : bX4_runEnd_42 1 p1 (nI L) (nI i) σ = if dgC (C i) = true then some (Sum.inl (nI (i + 1), σ)) else some (Sum.inr (nI i, σ)) := by
      unfold bX4_runEnd_42
      rw [if_neg (le_nI (by omega) (by omega) (by omega))]
      simp (disch := omega) only [vif, nI_clamp]
      rw [c_digit (h.2 i (by omega)), Option.bind_some]
      dsimp only
      rw [nI_s]
      cases dgC (C i)
      · rw [if_pos (by decide), if_neg (by decide)]
      · rw [if_neg (by decide), if_pos rfl]
    rw [show rnE dgC C (d + 1) i = if dgC (C i) = true then rnE dgC C d (i + 1) else i from rfl]
    by_cases q : dgC (C i) = true
    · rw [if_pos q] at st ⊢
      exact (lp_l st).trans (c_runD h p1 d (i + 1) (by omega))
    · rw [if_neg q] at st ⊢
      exact lp_r st
theorem c_runEnd (h : TC σ L C) {i : Nat} (hi : i < L) : fX4_runEnd 1 (nI i) (nI L) σ = some (nI (enE C L i), σ) := by
  have hL := h.1
  unfold fX4_runEnd enE
  simp (disch := omega) only [vif, nI_clamp]
  rw [c_letter (h.2 i hi), Option.bind_some]
  dsimp only
  rw [c_digit (h.2 i hi), Option.bind_some, nI_s]
  dsimp only
  rw [c_runL h (nI i) (L - (i + 1)) (i + 1) (by omega), c_runD h (nI i) (L - (i + 1)) (i + 1) (by omega)]
  cases ltC (C i)
  · rw [if_pos (show nI (b2n false) = 0 by decide), if_neg (show ¬ false = true by decide)]
    cases dgC (C i)
    · rw [if_pos (show nI (b2n false) = 0 by decide), if_neg (show ¬ false = true by decide)]
    · rw [if_neg (show ¬ nI (b2n true) = 0 by decide), if_pos rfl]; rfl
  · rw [if_neg (show ¬ nI (b2n true) = 0 by decide), if_pos rfl]; rfl
/-- the number that signs make -/
def vlN (b o : Nat) (C : Nat → Nat) (i : Nat) : Nat → Nat
  | 0 => 0
  | k + 1 => b * vlN b o C i k + (C (i + k) - o)
theorem lN_a (a b : Nat) : lN a + lN b = lN (a + b) := (Int64.ofNat_add a b).symm
theorem lN_m (a b : Nat) : lN a * lN b = lN (a * b) := (Int64.ofNat_mul a b).symm
theorem c_valL (h : TC σ L C) (p1 p2 : Int32) {i e : Nat} (he : e ≤ L) (hl : ∀ j, i ≤ j → j < e → ltC (C j) = true) : ∀ d k, i + k + d = e → lp (fun st : Int64 × Int32 × Sg => bX4_valueOf_23 1 p1 p2 1 (nI e) st.1 st.2.1 st.2.2) (lN (vlN 27 96 C i k), nI (i + k), σ) = some (lN (vlN 27 96 C i (k + d)), σ)
  | 0, k, hk => by
    refine lp_r ?_
    show bX4_valueOf_23 1 p1 p2 1 (nI e) _ (nI (i + k)) σ = _
    unfold bX4_valueOf_23
    rw [if_pos (nI_le (by omega) (by have := h.1; omega))]
    rfl
  | d + 1, k, hk => by
    have hL := h.1
    have hc := hl (i + k) (by omega) (by omega)
    have hx := h.2 (i + k) (by omega)
    have hc' : 97 ≤ C (i + k) ∧ C (i + k) ≤ 122 := of_decide_eq_true hc
    have st : (fun st : Int64 × Int32 × Sg => bX4_valueOf_23 1 p1 p2 1 (nI e) st.1 st.2.1 st.2.2) (lN (vlN 27 96 C i k), nI (i + k), σ) = some (Sum.inl (lN (vlN 27 96 C i (k + 1)), nI (i + (k + 1)), σ)) := by
      show bX4_valueOf_23 1 p1 p2 1 (nI e) (lN (vlN 27 96 C i k)) (nI (i + k)) σ = _
      unfold bX4_valueOf_23 jX4_valueOf_68
      rw [if_neg (le_nI (by omega) (by omega) (by omega)), if_neg one0]
      simp (disch := omega) only [vif, nI_clamp]
      rw [hx.2.1 (by omega), show nI (C (i + k)) - 97 = nI (C (i + k) - 97) from pk_sub (b := 97) (by omega), nI_s, nI_l (by omega), show lN (vlN 27 96 C i k) * 27 = lN (vlN 27 96 C i k * 27) from lN_m _ 27, lN_a, nI_s]
      rw [show vlN 27 96 C i (k + 1) = 27 * vlN 27 96 C i k + (C (i + k) - 96) from rfl, show vlN 27 96 C i k * 27 + (C (i + k) - 97 + 1) = 27 * vlN 27 96 C i k + (C (i + k) - 96) by omega]
      rfl
    have := c_valL h p1 p2 he hl d (k + 1) (by omega)
    rw [show k + 1 + d = k + (d + 1) by omega] at this
    exact (lp_l st).trans this
theorem c_valD (h : TC σ L C) (p1 p2 : Int32) {i e : Nat} (he : e ≤ L) (hl : ∀ j, i ≤ j → j < e → dgC (C j) = true) : ∀ d k, i + k + d = e → lp (fun st : Int64 × Int32 × Sg => bX4_valueOf_23 1 p1 p2 0 (nI e) st.1 st.2.1 st.2.2) (lN (vlN 10 48 C i k), nI (i + k), σ) = some (lN (vlN 10 48 C i (k + d)), σ)
  | 0, k, hk => by
    refine lp_r ?_
    show bX4_valueOf_23 1 p1 p2 0 (nI e) _ (nI (i + k)) σ = _
    unfold bX4_valueOf_23
    rw [if_pos (nI_le (by omega) (by have := h.1; omega))]
    rfl
  | d + 1, k, hk => by
    have hL := h.1
    have hc := hl (i + k) (by omega) (by omega)
    have hx := h.2 (i + k) (by omega)
    have hc' : 48 ≤ C (i + k) ∧ C (i + k) ≤ 57 := of_decide_eq_true hc
    have st : (fun st : Int64 × Int32 × Sg => bX4_valueOf_23 1 p1 p2 0 (nI e) st.1 st.2.1 st.2.2) (lN (vlN 10 48 C i k), nI (i + k), σ) = some (Sum.inl (lN (vlN 10 48 C i (k + 1)), nI (i + (k + 1)), σ)) := by
      show bX4_valueOf_23 1 p1 p2 0 (nI e) (lN (vlN 10 48 C i k)) (nI (i + k)) σ = _
      unfold bX4_valueOf_23 jX4_valueOf_68
      rw [if_neg (le_nI (by omega) (by omega) (by omega)), if_pos rfl]
      simp (disch := omega) only [vif, nI_clamp]
      rw [hx.2.1 (by omega), show nI (C (i + k)) - 48 = nI (C (i + k) - 48) from pk_sub (b := 48) (by omega), nI_l (by omega), show lN (vlN 10 48 C i k) * 10 = lN (vlN 10 48 C i k * 10) from lN_m _ 10, lN_a, nI_s]
      rw [show vlN 10 48 C i (k + 1) = 10 * vlN 10 48 C i k + (C (i + k) - 48) from rfl, show vlN 10 48 C i k * 10 = 10 * vlN 10 48 C i k by omega]
      rfl
    have := c_valD h p1 p2 he hl d (k + 1) (by omega)
    rw [show k + 1 + d = k + (d + 1) by omega] at this
    exact (lp_l st).trans this
theorem c_valueOf (h : TC σ L C) {i : Nat} (hi : i < L) : ∃ v, fX4_valueOf 1 (nI i) (nI (enE C L i)) σ = some (v, σ) ∧ (ltC (C i) = true → v = lN (vlN 27 96 C i (min (enE C L i - i) 8))) ∧ (ltC (C i) = false → dgC (C i) = true → v = lN (vlN 10 48 C i (min (enE C L i - i) 8))) := by
  have hL := h.1
  obtain ⟨g1, g2⟩ := enE_in (C := C) hi
  generalize he : enE C L i = e at g1 g2
  have em : imin (nI e) (nI i + 8) = nI (i + min (e - i) 8) := by
    rw [show nI i + 8 = nI (i + 8) from nI_add i 8]
    unfold imin
    by_cases q : i + 8 < e
    · rw [if_pos (Int32.not_le.mp (le_nI (by omega) (by omega) q)), show i + min (e - i) 8 = i + 8 by omega]
    · rw [if_neg (Int32.not_lt.mpr (nI_le (by omega) (by omega))), show i + min (e - i) 8 = e by omega]
  have un : fX4_valueOf 1 (nI i) (nI e) σ = ((lp (fun st : Int64 × Int32 × Sg => bX4_valueOf_23 1 (nI i) (nI e) (nI (b2n (ltC (C i)))) (nI (i + min (e - i) 8)) st.1 st.2.1 st.2.2) ((0 : Int64), nI i, σ)).bind (fun q14 => some (q14.1, q14.2))) := by
    unfold fX4_valueOf
    simp (disch := omega) only [vif, nI_clamp]
    rw [c_letter (h.2 i hi), Option.bind_some]
    dsimp only
    rw [em]
  rw [un]
  cases ql : ltC (C i)
  · cases qd : dgC (C i)
    · have e1 : e = i + 1 := by rw [← he]; unfold enE; rw [ql, qd]; rfl
      have hm1 : min (e - i) 8 = 1 := by omega
      rw [hm1]
      have st : (fun st : Int64 × Int32 × Sg => bX4_valueOf_23 1 (nI i) (nI e) (nI (b2n false)) (nI (i + 1)) st.1 st.2.1 st.2.2) (0, nI i, σ) = some (Sum.inl (0 * 10 + (σ.1 1 i - 48).toInt64, nI (i + 1), σ)) := by
        show bX4_valueOf_23 1 (nI i) (nI e) 0 (nI (i + 1)) 0 (nI i) σ = _
        unfold bX4_valueOf_23 jX4_valueOf_68
        rw [if_neg (le_nI (by omega) (by omega) (by omega)), if_pos rfl]
        simp (disch := omega) only [vif, nI_clamp]
        rw [nI_s]
      have st2 : (fun st : Int64 × Int32 × Sg => bX4_valueOf_23 1 (nI i) (nI e) (nI (b2n false)) (nI (i + 1)) st.1 st.2.1 st.2.2) (0 * 10 + (σ.1 1 i - 48).toInt64, nI (i + 1), σ) = some (Sum.inr (0 * 10 + (σ.1 1 i - 48).toInt64, σ)) := by
        show bX4_valueOf_23 1 (nI i) (nI e) 0 (nI (i + 1)) _ (nI (i + 1)) σ = _
        unfold bX4_valueOf_23
        rw [if_pos (Int32.le_refl _)]
      rw [lp_l st, lp_r st2]
      exact ⟨_, rfl, fun z => (by cases z), fun _ z => (by cases z)⟩
    · have e2 : e = rnE dgC C (L - (i + 1)) (i + 1) := by rw [← he]; unfold enE; rw [ql, qd]; rfl
      have hr := (rnE_in dgC C (L - (i + 1)) (i + 1)).2.2
      rw [← e2] at hr
      have := c_valD h (nI i) (nI e) (i := i) (e := i + min (e - i) 8) (by omega) (fun j a1 a2 => by
        by_cases z : j = i
        · rw [z]; exact qd
        · exact hr j (by omega) (by omega)) (min (e - i) 8) 0 (by omega)
      rw [Nat.zero_add] at this
      have this : lp (fun st : Int64 × Int32 × Sg => bX4_valueOf_23 1 (nI i) (nI e) (nI (b2n false)) (nI (i + min (e - i) 8)) st.1 st.2.1 st.2.2) (0, nI i, σ) = _ := this
      rw [this]
      exact ⟨_, rfl, fun z => (by cases z), fun _ _ => rfl⟩
  · have e2 : e = rnE ltC C (L - (i + 1)) (i + 1) := by rw [← he]; unfold enE; rw [ql]; rfl
    have hr := (rnE_in ltC C (L - (i + 1)) (i + 1)).2.2
    rw [← e2] at hr
    have := c_valL h (nI i) (nI e) (i := i) (e := i + min (e - i) 8) (by omega) (fun j a1 a2 => by
      by_cases z : j = i
      · rw [z]; exact ql
      · exact hr j (by omega) (by omega)) (min (e - i) 8) 0 (by omega)
    rw [Nat.zero_add] at this
    have this : lp (fun st : Int64 × Int32 × Sg => bX4_valueOf_23 1 (nI i) (nI e) (nI (b2n true)) (nI (i + min (e - i) 8)) st.1 st.2.1 st.2.2) (0, nI i, σ) = _ := this
    rw [this]
    exact ⟨_, rfl, fun _ => rfl, fun z => (by cases z)⟩
end TOK
