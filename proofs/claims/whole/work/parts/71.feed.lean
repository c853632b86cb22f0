theorem lowI {i : Nat} (hi : i < 32) : ((((nI i).toUInt32 &&& Int32.toUInt32 31)).toBitVec % 32).toNat = i := by
  have h : ∀ i : Fin 32, ((((nI i.1).toUInt32 &&& Int32.toUInt32 31)).toBitVec % 32).toNat = i.1 := by decide +kernel
  exact h ⟨i, hi⟩
theorem ius_n (x : Int32) {i : Nat} (hi : i < 32) : (ius x (nI i)).toBitVec = x.toBitVec >>> i := by
  apply BitVec.eq_of_toNat_eq
  rw [BitVec.toNat_ushiftRight, Nat.shiftRight_eq_div_pow]
  exact pk_ushr x (nI i) i (lowI hi)
theorem ius_bit (x : Int32) {i : Nat} (hi : i < 32) : ius x (nI i) &&& 1 = nI (b2n (x.toBitVec.getLsbD i)) := by
  apply Int32.toBitVec_inj.mp
  rw [Int32.toBitVec_and, ius_n x hi, show (1 : Int32).toBitVec = 1#32 from rfl, BitVec.and_one_eq_setWidth_ofBool_getLsbD, BitVec.getLsbD_ushiftRight, Nat.add_zero]
  cases x.toBitVec.getLsbD i <;> rfl
theorem one_v {i : Nat} (hi : i < 32) : ((1 : Int32) <<< (nI i &&& 31)).toBitVec = BitVec.twoPow 32 i := by
  have h : ∀ i : Fin 32, ((1 : Int32) <<< (nI i.1 &&& 31)).toBitVec = BitVec.twoPow 32 i.1 := by decide +kernel
  exact h ⟨i, hi⟩
theorem or_one {x : Int32} {k i : Nat} (hk : k < 32) (hi : i < 32) : (x ||| (1 : Int32) <<< (nI k &&& 31)).toBitVec.getLsbD i = if i = k then true else x.toBitVec.getLsbD i := by
  rw [Int32.toBitVec_or, one_v hk, BitVec.getLsbD_or, BitVec.getLsbD_twoPow]
  by_cases q : i = k
  · subst q; simp [hi]
  · have : ¬ k = i := fun z => q z.symm
    simp [q, this]
theorem an_one {x : Int32} {k i : Nat} (hk : k < 32) (hi : i < 32) : (x &&& ((1 : Int32) <<< (nI k &&& 31) ^^^ (-1))).toBitVec.getLsbD i = if i = k then false else x.toBitVec.getLsbD i := by
  rw [Int32.toBitVec_and, Int32.toBitVec_xor, one_v hk, show (-1 : Int32).toBitVec = BitVec.allOnes 32 from by decide, BitVec.getLsbD_and, BitVec.getLsbD_xor, BitVec.getLsbD_twoPow, BitVec.getLsbD_allOnes]
  by_cases q : i = k
  · subst q; simp [hi]
  · have : ¬ k = i := fun z => q z.symm
    simp [q, this, hi]
/-- the byte i of a word, from above -/
def bt (p : Int32) (i : Nat) : Int32 := (ius p (nI (24 - 8 * i))).toInt8.toInt32
theorem bt_m (p : Int32) {i : Nat} (hi : i < 4) : (p >>> (nI (24 - 8 * i) &&& 31)).toInt8.toInt32 = bt p i := by
  unfold bt
  congr 1
  apply Int8.toBitVec_inj.mp
  rw [Int32.toBitVec_toInt8, Int32.toBitVec_toInt8, ius_n p (by omega), Int32.toBitVec_shiftRight]
  have e : ((nI (24 - 8 * i) &&& 31).toBitVec.smod 32).toNat = 24 - 8 * i := by
    rcases (show i = 0 ∨ i = 1 ∨ i = 2 ∨ i = 3 by omega) with rfl | rfl | rfl | rfl <;> decide
  show (p.toBitVec.sshiftRight ((nI (24 - 8 * i) &&& 31).toBitVec.smod 32).toNat).signExtend 8 = _
  rw [e]
  apply BitVec.eq_of_getLsbD_eq
  intro j hj
  rw [BitVec.getLsbD_signExtend, BitVec.getLsbD_signExtend, BitVec.getLsbD_sshiftRight, BitVec.getLsbD_ushiftRight, if_pos (show j < 32 by omega), if_pos (show j < 32 by omega)]
  have : 24 - 8 * i + j < 32 := by omega
  have : ¬ 32 ≤ j := by omega
  simp [*]
def cN : Nat → Int32
  | 0 => 24
  | 1 => 16
  | 2 => 8
  | 3 => 0
  | _ => -8
theorem cN_n {i : Nat} (hi : i < 4) : cN i = nI (24 - 8 * i) ∧ ¬ cN i < 0 ∧ cN i + (-8) = cN (i + 1) := by
  rcases (show i = 0 ∨ i = 1 ∨ i = 2 ∨ i = 3 by omega) with rfl | rfl | rfl | rfl <;> decide
section FEED
variable {M a t t' ℓ n m L : Nat} {bo : Nat → Bool} {dr : Nat → Int32} {lb : Nat → Br} {lf : Nat → Rp} {sd : Int32} {kw : Nat → Int64} {σ τ : Sg} {ρ : Nat → Int32}
def PB (T a s L : Nat) (p : Int32) (i : Nat) (σ τ : Sg) : Prop := τ.1 a s = nI (L + i) ∧ (∀ j, j < i → τ.1 T (L + j) = bt p j) ∧ (∀ j, j < L → τ.1 T j = σ.1 T j) ∧ Fs (fun k j => k = T ∨ k = a ∧ j = s) σ τ
theorem PB.s {T a s L i : Nat} {p : Int32} (h : PB T a s L p i σ τ) (hT : T ≠ a) : PB T a s L p (i + 1) σ (wI (wI τ T (L + i) (bt p i)) a s (nI (L + i) + 1)) := by
  obtain ⟨h1, h2, h3, h4⟩ := h
  refine ⟨by rw [wI_k, upd_k, nI_s]; rfl, fun j hj => ?_, fun j hj => ?_, (h4.wI (Or.inl rfl)).wI (Or.inr ⟨rfl, rfl⟩)⟩
  · rw [wI_n hT, wI_k]
    by_cases q : j = i
    · subst q; rw [upd_k]
    · rw [upd_n (by omega)]; exact h2 j (by omega)
  · rw [wI_n hT, wI_k, upd_n (by omega)]; exact h3 j hj
theorem c_put (p : Int32) (h1 : σ.1 0 1 = nI L) (hL : L + 4 ≤ 2000) : ∃ τ, fX6_putBytes 0 p σ = some τ ∧ PB 1 0 1 L p 4 σ τ := by
  have hh := lp_invG (f := fun st : Int32 × Sg => bX6_putBytes_3 0 p st.1 st.2) 4 (fun i s => s.1 = cN i ∧ PB 1 0 1 L p i σ s.2) (fun τ => PB 1 0 1 L p 4 σ τ) (fun i s hi hs => ?_) (fun s hs => ?_) (s := (24, σ)) ⟨rfl, h1, fun j hj => by omega, fun _ _ => rfl, Fs.rf⟩
  · obtain ⟨τ, g1, g2⟩ := hh
    refine ⟨τ, ?_, g2⟩
    unfold fX6_putBytes
    rw [g1]; rfl
  · obtain ⟨x, υ⟩ := s
    obtain ⟨rfl, hp⟩ := hs
    obtain ⟨c1, c2, c3⟩ := cN_n hi
    refine Or.inl ⟨(cN (i + 1), wI (wI υ 1 (L + i) (bt p i)) 0 1 (nI (L + i) + 1)), ?_, rfl, hp.s (by omega)⟩
    show bX6_putBytes_3 0 p (cN i) υ = _
    have e := hp.1
    dsimp only at e
    unfold bX6_putBytes_3 jX6_putBytes_40
    rw [if_neg c2, e, if_neg (show ¬ (2000 : Int32) ≤ nI (L + i) from le_nI (a := 2000) (by omega) (by omega) (by omega))]
    simp (disch := omega) only [vif, nI_clamp, Nat.zero_add]
    rw [wI_n (by omega), e, c3, c1, pk_vb]
    rfl
  · obtain ⟨x, υ⟩ := s
    obtain ⟨rfl, hp⟩ := hs
    refine ⟨υ, ?_, hp⟩
    show bX6_putBytes_3 0 p (-8) υ = _
    unfold bX6_putBytes_3
    rw [if_pos (by decide)]
theorem m_put (p : Int32) (h1 : σ.1 M 2 = nI L) (hL : L + 4 ≤ 2000) : ∃ τ, fX7_put M p σ = some τ ∧ PB (M + 1) M 2 L p 4 σ τ := by
  have hh := lp_invG (f := fun st : Int32 × Sg => bX7_put_3 M p st.1 st.2) 4 (fun i s => s.1 = cN i ∧ PB (M + 1) M 2 L p i σ s.2) (fun τ => PB (M + 1) M 2 L p 4 σ τ) (fun i s hi hs => ?_) (fun s hs => ?_) (s := (24, σ)) ⟨rfl, h1, fun j hj => by omega, fun _ _ => rfl, Fs.rf⟩
  · obtain ⟨τ, g1, g2⟩ := hh
    refine ⟨τ, ?_, g2⟩
    unfold fX7_put
    rw [g1]; rfl
  · obtain ⟨x, υ⟩ := s
    obtain ⟨rfl, hp⟩ := hs
    obtain ⟨c1, c2, c3⟩ := cN_n hi
    refine Or.inl ⟨(cN (i + 1), wI (wI υ (M + 1) (L + i) (bt p i)) M 2 (nI (L + i) + 1)), ?_, rfl, hp.s (by omega)⟩
    show bX7_put_3 M p (cN i) υ = _
    have e := hp.1
    dsimp only at e
    unfold bX7_put_3
    rw [if_neg c2, e]
    simp (disch := omega) only [vif, nI_clamp]
    rw [wI_n (by omega), e, c3, c1, pk_vb, bt_m p hi]
  · obtain ⟨x, υ⟩ := s
    obtain ⟨rfl, hp⟩ := hs
    refine ⟨υ, ?_, hp⟩
    show bX7_put_3 M p (-8) υ = _
    unfold bX7_put_3
    rw [if_pos (by decide)]
def p5 (p1 p2 p3 p4 p5 : Int32) (i : Nat) : Int32 := if i < 4 then bt p1 i else if i < 8 then bt p2 (i - 4) else if i < 12 then bt p3 (i - 8) else if i < 16 then bt p4 (i - 12) else bt p5 (i - 16)
def PQ (T a s L : Nat) (v : Nat → Int32) (i : Nat) (σ τ : Sg) : Prop := τ.1 a s = nI (L + i) ∧ (∀ j, j < i → τ.1 T (L + j) = v j) ∧ (∀ j, j < L → τ.1 T j = σ.1 T j) ∧ Fs (fun k j => k = T ∨ k = a ∧ j = s) σ τ
theorem PQ.s {T a s L i : Nat} {v : Nat → Int32} {p : Int32} {υ : Sg} (h : PQ T a s L v i σ τ) (h2 : PB T a s (L + i) p 4 τ υ) (hv : ∀ j, j < 4 → v (i + j) = bt p j) : PQ T a s L v (i + 4) σ υ := by
  obtain ⟨a1, a2, a3, a4⟩ := h
  obtain ⟨b1, b2, b3, b4⟩ := h2
  refine ⟨b1, fun j hj => ?_, fun j hj => (b3 j (by omega)).trans (a3 j hj), a4.tr b4⟩
  by_cases q : j < i
  · exact (b3 _ (by omega)).trans (a2 j q)
  · have := b2 (j - i) (by omega)
    rw [show L + i + (j - i) = L + j by omega] at this
    rw [this, ← hv (j - i) (by omega), show i + (j - i) = j by omega]
theorem PQ.z {T a s L : Nat} {v : Nat → Int32} (h : σ.1 a s = nI L) : PQ T a s L v 0 σ σ := ⟨h, fun j hj => by omega, fun _ _ => rfl, Fs.rf⟩
theorem ag_feed (h : RLp M t t' ℓ n m bo dr lb lf sd kw σ) (q1 q2 q3 q4 q5 : Int32) : Ag (fX6_feed 0 q1 q2 q3 q4 q5) (fX7_feed M q1 q2 q3 q4 q5) (RLp M t t' ℓ n m bo dr lb lf sd kw) σ := by
  have hM := h.1.1
  obtain ⟨⟨L, l1, l2, l3, l4⟩, fp⟩ := h.2.2.2.2.2.1
  by_cases hL : L ≤ 1980
  · have e1 : ∀ j, j < 4 → p5 q1 q2 q3 q4 q5 (0 + j) = bt q1 j := fun j hj => by unfold p5; rw [if_pos (by omega), Nat.zero_add]
    have e2 : ∀ j, j < 4 → p5 q1 q2 q3 q4 q5 (4 + j) = bt q2 j := fun j hj => by unfold p5; rw [if_neg (by omega), if_pos (by omega), show 4 + j - 4 = j by omega]
    have e3 : ∀ j, j < 4 → p5 q1 q2 q3 q4 q5 (8 + j) = bt q3 j := fun j hj => by unfold p5; rw [if_neg (by omega), if_neg (by omega), if_pos (by omega), show 8 + j - 8 = j by omega]
    have e4 : ∀ j, j < 4 → p5 q1 q2 q3 q4 q5 (12 + j) = bt q4 j := fun j hj => by unfold p5; rw [if_neg (by omega), if_neg (by omega), if_neg (by omega), if_pos (by omega), show 12 + j - 12 = j by omega]
    have e5 : ∀ j, j < 4 → p5 q1 q2 q3 q4 q5 (16 + j) = bt q5 j := fun j hj => by unfold p5; rw [if_neg (by omega), if_neg (by omega), if_neg (by omega), if_neg (by omega), show 16 + j - 16 = j by omega]
    obtain ⟨τ1, c1, d1⟩ := c_put q1 l2 (by omega)
    have g1 := (PQ.z (v := p5 q1 q2 q3 q4 q5) l2).s d1 e1
    obtain ⟨τ2, c2, d2⟩ := c_put q2 g1.1 (by omega)
    have g2 := g1.s d2 e2
    obtain ⟨τ3, c3, d3⟩ := c_put q3 g2.1 (by omega)
    have g3 := g2.s d3 e3
    obtain ⟨τ4, c4, d4⟩ := c_put q4 g3.1 (by omega)
    have g4 := g3.s d4 e4
    obtain ⟨τ, c5, d5⟩ := c_put q5 g4.1 (by omega)
    have g := g4.s d5 e5
    have l3' : τ.1 M 2 = nI L := (g.2.2.2.1 _ _ (by omega)).trans l3
    obtain ⟨υ1, x1, y1⟩ := m_put q1 l3' (by omega)
    have z1 := (PQ.z (v := p5 q1 q2 q3 q4 q5) l3').s y1 e1
    obtain ⟨υ2, x2, y2⟩ := m_put q2 z1.1 (by omega)
    have z2 := z1.s y2 e2
    obtain ⟨υ3, x3, y3⟩ := m_put q3 z2.1 (by omega)
    have z3 := z2.s y3 e3
    obtain ⟨υ4, x4, y4⟩ := m_put q4 z3.1 (by omega)
    have z4 := z3.s y4 e4
    obtain ⟨υ, x5, y5⟩ := m_put q5 z4.1 (by omega)
    have z := z4.s y5 e5
    refine ⟨nI (L + 20), τ, υ, ?_, ?_, ?_⟩
    · unfold fX6_feed
      rw [l2, if_pos (show nI L ≤ 1980 from nI_le (b := 1980) hL (by omega)), c1, Option.bind_some, c2, Option.bind_some, c3, Option.bind_some, c4, Option.bind_some, c5, Option.bind_some, g.1]
    · unfold fX7_feed
      rw [l3', show nI L + 20 = nI (L + 20) from nI_add L 20, if_pos (show nI (L + 20) ≤ 2000 from nI_le (b := 2000) (by omega) (by omega)), x1, Option.bind_some, x2, Option.bind_some, x3, Option.bind_some, x4, Option.bind_some, x5, Option.bind_some, z.1]
    · have hF : Fc (fun k j => k = 1 ∨ k = 0 ∧ j = 1 ∨ k = M + 1 ∨ k = M ∧ j = 2) 40 σ υ := ((g.2.2.2.mo (fun k j q => by omega)).tr (z.2.2.2.mo (fun k j q => by omega))).fc
      have eB : ∀ j, ∃ b : Int8, p5 q1 q2 q3 q4 q5 j = b.toInt32 := fun j => by
        unfold p5
        split
        · exact ⟨_, rfl⟩
        split
        · exact ⟨_, rfl⟩
        split
        · exact ⟨_, rfl⟩
        split
        · exact ⟨_, rfl⟩
        exact ⟨_, rfl⟩
      obtain ⟨h1, h2, h3, h4, h5, -, h7⟩ := h
      refine ⟨h1.fc hF (by omega) (fun k j q => by omega), now_fc h2 hF (by omega) (fun k j q => by omega), h3.fc hF (by omega) (fun k j q => by omega), h4.fc hF (by omega) (fun k j q => by omega), h5.fc hF (fun k j q => by omega), ⟨⟨L + 20, by omega, ?_, z.1, fun i hi => ?_⟩, ?_⟩, h7.fc hF (by omega)⟩
      · rw [z.2.2.2.1 _ _ (by omega)]; exact g.1
      · have et : υ.1 1 i = τ.1 1 i := z.2.2.2.1 _ _ (by omega)
        by_cases q : i < L
        · rw [et, g.2.2.1 i q, z.2.2.1 i q, g.2.2.2.1 (M + 1) i (by omega)]; exact l4 i q
        · have a1 := g.2.1 (i - L) (by omega)
          have a2 := z.2.1 (i - L) (by omega)
          rw [show L + (i - L) = i by omega] at a1 a2
          rw [et, a1, a2]
          exact ⟨rfl, eB _⟩
      · rw [hF.1 0 2 (by omega), hF.1 M 17 (by omega)]; exact fp
  · refine ⟨-1, σ, σ, ?_, ?_, h⟩
    · unfold fX6_feed
      rw [l2, if_neg (show ¬ nI L ≤ 1980 from le_nI (b := 1980) (by omega) (by omega) (by omega))]
    · unfold fX7_feed
      rw [l3, show nI L + 20 = nI (L + 20) from nI_add L 20, if_neg (show ¬ nI (L + 20) ≤ 2000 from le_nI (b := 2000) (by omega) (by omega) (by omega))]
theorem ag_back (h : RLp M t t' ℓ n m bo dr lb lf sd kw σ) (p : Int32) : Ag (fX6_back 0 p) (fX7_back M p) (RLp M t t' ℓ n m bo dr lb lf sd kw) σ := by
  have hM := h.1.1
  obtain ⟨⟨L, l1, l2, l3, l4⟩, fp⟩ := h.2.2.2.2.2.1
  show ∃ r σ1 σ2, fX6_back 0 p σ = some (r, σ1) ∧ fX7_back M p σ1 = some (r, σ2) ∧ RLp M t t' ℓ n m bo dr lb lf sd kw σ2
  unfold fX6_back fX7_back
  rcases pk_ix p (n := L + 1) (by omega) with q | q | ⟨x, hx, rfl⟩
  · exact ⟨-1, σ, σ, if_pos q, if_pos q, h⟩
  · have q0 : ¬ p < 0 := fun z => by
      have h0 : (0 : Int32) ≤ nI (L + 1) := nI_n1 (by omega)
      exact absurd (Int32.lt_of_lt_of_le z h0) (Int32.not_lt.mpr q)
    have q1 : ¬ p ≤ nI L := fun z => absurd (Int32.le_trans q z) (le_nI (by omega) (by omega) (by omega))
    exact ⟨-1, σ, σ, by rw [if_neg q0, l2, if_neg q1], by rw [if_neg q0, l3, if_neg q1], h⟩
  · have q0 : ¬ nI x < 0 := Int32.not_lt.mpr (nI_n1 (by omega))
    have q1 : nI x ≤ nI L := nI_le (by omega) (by omega)
    have es : nI L - nI x = nI (L - x) := pk_sub (by omega)
    refine ⟨nI (L - x), wI σ 0 1 (nI (L - x)), wI (wI σ 0 1 (nI (L - x))) M 2 (nI (L - x)), ?_, ?_, ?_⟩
    · rw [if_neg q0, l2, if_pos q1]
      dsimp only
      rw [es, wI_k, upd_k]
    · rw [if_neg q0, wI_n (by omega), l3, if_pos q1]
      dsimp only
      rw [es, wI_k, upd_k]
    · have hF : Fc (fun k j => k = 0 ∧ j = 1 ∨ k = M ∧ j = 2) 40 σ (wI (wI σ 0 1 (nI (L - x))) M 2 (nI (L - x))) := (Fc.rf.wI (Or.inl ⟨rfl, rfl⟩)).wI (Or.inr ⟨rfl, rfl⟩)
      obtain ⟨h1, h2, h3, h4, h5, -, h7⟩ := h
      refine ⟨h1.fc hF (by omega) (fun k j q => by omega), now_fc h2 hF (by omega) (fun k j q => by omega), h3.fc hF (by omega) (fun k j q => by omega), h4.fc hF (by omega) (fun k j q => by omega), h5.fc hF (fun k j q => by omega), ⟨⟨L - x, by omega, ?_, ?_, fun i hi => ?_⟩, ?_⟩, h7.fc hF (by omega)⟩
      · rw [wI_n (by omega), wI_k, upd_k]
      · rw [wI_k, upd_k]
      · rw [hF.1 1 i (by omega), hF.1 (M + 1) i (by omega)]; exact l4 i (by omega)
      · rw [hF.1 0 2 (by omega), hF.1 M 17 (by omega)]; exact fp
theorem ag_tell (h : RLp M t t' ℓ n m bo dr lb lf sd kw σ) (p1 p2 : Int32) : Ag (fX6_tell 0 p1 p2) (fX7_tell M p1 p2) (RLp M t t' ℓ n m bo dr lb lf sd kw) σ := by
  have hM := h.1.1
  have hn := h.n8
  obtain ⟨k, k1, k2, k3, k4⟩ := h.2.2.2.2.1
  show ∃ r σ1 σ2, fX6_tell 0 p1 p2 σ = some (r, σ1) ∧ fX7_tell M p1 p2 σ1 = some (r, σ2) ∧ RLp M t t' ℓ n m bo dr lb lf sd kw σ2
  rcases arg p1 (n := n) (by omega) with q | ⟨w, hw, rfl⟩
  · refine ⟨-1, σ, σ, ?_, ?_, h⟩
    · unfold fX6_tell; rw [c_isH0 h q]; rfl
    · unfold fX7_tell
      rw [m_isH0 h.ms.1 q]
      split <;> rfl
  · by_cases hk : k = 20
    · subst hk
      refine ⟨-1, σ, σ, ?_, ?_, h⟩
      · unfold fX6_tell; rw [c_isH1 h hw, Option.bind_some]; dsimp only; rw [if_neg one0, k2, if_neg (by decide)]
      · unfold fX7_tell; rw [k3, if_pos (by decide)]
    · have hk : k < 20 := by omega
      generalize hv : (if p2 = 0 then σ.1 0 15 &&& ((1 : Int32) <<< (nI k &&& 31) ^^^ (-1)) else σ.1 0 15 ||| (1 : Int32) <<< (nI k &&& 31)) = v
      have sb : ∀ i, i < 20 → ius v (nI i) &&& 1 = if i = k then nI (b2n (decide (p2 ≠ 0))) else ius (σ.1 0 15) (nI i) &&& 1 := fun i hi => by
        rw [ius_bit _ (by omega), ius_bit _ (by omega), ← hv]
        by_cases q : p2 = 0
        · rw [if_pos q, an_one (by omega) (by omega)]
          by_cases z : i = k
          · rw [if_pos z, if_pos z, decide_eq_false (fun y => y q)]
          · rw [if_neg z, if_neg z]
        · rw [if_neg q, or_one (by omega) (by omega)]
          by_cases z : i = k
          · rw [if_pos z, if_pos z, decide_eq_true q]
          · rw [if_neg z, if_neg z]
      let σ1 := wI (wI (wI σ 53 k (nI w)) 0 15 v) 0 16 (nI (k + 1))
      let σ2 := wI (wI (wI σ1 (M + 35) k (nI w)) (M + 36) k (nI (b2n (decide (p2 ≠ 0))))) M 61 (nI (k + 1))
      have m1 : σ1.1 M 61 = nI k := by
        show (wI (wI (wI σ 53 k (nI w)) 0 15 v) 0 16 (nI (k + 1))).1 M 61 = _
        rw [wI_n (by omega), wI_n (by omega), wI_n (by omega), k3]
      have hF1 : Fc (fun k j => k = 53 ∨ k = 0 ∧ (j = 15 ∨ j = 16)) 40 σ σ1 := ((Fc.rf.wI (Or.inl rfl)).wI (Or.inr ⟨rfl, Or.inl rfl⟩)).wI (Or.inr ⟨rfl, Or.inr rfl⟩)
      have hF : Fc (fun k j => k = 53 ∨ k = 0 ∧ (j = 15 ∨ j = 16) ∨ k = M + 35 ∨ k = M + 36 ∨ k = M ∧ j = 61) 40 σ σ2 := (((hF1.mo (fun k j q => by omega)).wI (by omega)).wI (by omega)).wI (by omega)
      have hms : MX σ1 M ℓ n m := (h.ms.fc hF1 (fun k j _ a1 => by omega)).1
      refine ⟨nI k, σ1, σ2, ?_, ?_, ?_⟩
      · unfold fX6_tell jX6_tell_57
        rw [c_isH1 h hw, Option.bind_some]
        dsimp only
        rw [if_neg one0, k2, if_pos (show nI k < 20 from Int32.not_le.mp (le_nI (a := 20) (by omega) (by omega) hk))]
        simp (disch := omega) only [vif, nI_clamp, Nat.zero_add]
        have e15 : (wI σ 53 k (nI w)).1 0 15 = σ.1 0 15 := by rw [wI_n (by omega)]
        have e16 : ∀ v, (wI (wI σ 53 k (nI w)) 0 15 v).1 0 16 = nI k := fun v => by rw [wI_k, upd_n (by omega), wI_n (by omega), k2]
        simp only [e15, e16, nI_s]
        by_cases q : p2 = 0
        · rw [if_pos q] at hv; rw [if_pos q, hv]
        · rw [if_neg q] at hv; rw [if_neg q, hv]
      · unfold fX7_tell jX7_tell_46
        rw [m1, if_neg (show ¬ nI k = 20 from ne_nI (b := 20) (by omega) (by omega) (by omega)), m_isH1 hms hw, Option.bind_some]
        dsimp only
        rw [if_neg one0]
        have e61 : (wI σ1 (M + 35) k (nI w)).1 M 61 = nI k := by rw [wI_n (by omega), m1]
        have e62 : ∀ v, (wI (wI σ1 (M + 35) k (nI w)) (M + 36) k v).1 M 61 = nI k := fun v => by rw [wI_n (by omega), e61]
        have e63 : ∀ σ : Sg, (wI σ M 61 (nI (k + 1))).1 M 61 - 1 = nI k := fun σ => by rw [wI_k, upd_k, nI_p (by omega)]; rfl
        simp only [m1]
        simp (disch := omega) only [vif, nI_clamp]
        simp only [e61]
        simp (disch := omega) only [vif, nI_clamp]
        simp only [e62, nI_s, e63]
        by_cases q : p2 = 0
        · rw [if_pos q]
          show _ = some (nI k, wI (wI (wI σ1 (M + 35) k (nI w)) (M + 36) k (nI (b2n (decide (p2 ≠ 0))))) M 61 (nI (k + 1)))
          rw [decide_eq_false (fun y => y q)]; rfl
        · rw [if_neg q]
          show _ = some (nI k, wI (wI (wI σ1 (M + 35) k (nI w)) (M + 36) k (nI (b2n (decide (p2 ≠ 0))))) M 61 (nI (k + 1)))
          rw [decide_eq_true q]; rfl
      · obtain ⟨h1, h2, h3, h4, -, h6, h7⟩ := h
        refine ⟨h1.fc hF (by omega) (fun k j q => by omega), now_fc h2 hF (by omega) (fun k j q => by omega), h3.fc hF (by omega) (fun k j q => by omega), h4.fc hF (by omega) (fun k j q => by omega), ⟨k + 1, by omega, ?_, ?_, fun i hi => ?_⟩, h6.fc hF (fun k j q => by omega), h7.fc hF (by omega)⟩
        · show σ2.1 0 16 = _
          rw [show σ2 = wI (wI (wI σ1 (M + 35) k (nI w)) (M + 36) k (nI (b2n (decide (p2 ≠ 0))))) M 61 (nI (k + 1)) from rfl, wI_n (by omega), wI_n (by omega), wI_n (by omega)]
          show (wI (wI (wI σ 53 k (nI w)) 0 15 v) 0 16 (nI (k + 1))).1 0 16 = _
          rw [wI_k, upd_k]
        · show (wI (wI (wI σ1 (M + 35) k (nI w)) (M + 36) k (nI (b2n (decide (p2 ≠ 0))))) M 61 (nI (k + 1))).1 M 61 = _
          rw [wI_k, upd_k]
        · have e53 : σ2.1 53 i = if i = k then nI w else σ.1 53 i := by
            show (wI (wI (wI (wI (wI (wI σ 53 k (nI w)) 0 15 v) 0 16 (nI (k + 1))) (M + 35) k (nI w)) (M + 36) k (nI (b2n (decide (p2 ≠ 0))))) M 61 (nI (k + 1))).1 53 i = _
            simp (disch := omega) only [wI_n]
            rw [wI_k]; rfl
          have e35 : σ2.1 (M + 35) i = if i = k then nI w else σ.1 (M + 35) i := by
            show (wI (wI (wI (wI (wI (wI σ 53 k (nI w)) 0 15 v) 0 16 (nI (k + 1))) (M + 35) k (nI w)) (M + 36) k (nI (b2n (decide (p2 ≠ 0))))) M 61 (nI (k + 1))).1 (M + 35) i = _
            simp (disch := omega) only [wI_n, wI_k]; rfl
          have e36 : σ2.1 (M + 36) i = if i = k then nI (b2n (decide (p2 ≠ 0))) else σ.1 (M + 36) i := by
            show (wI (wI (wI (wI (wI (wI σ 53 k (nI w)) 0 15 v) 0 16 (nI (k + 1))) (M + 35) k (nI w)) (M + 36) k (nI (b2n (decide (p2 ≠ 0))))) M 61 (nI (k + 1))).1 (M + 36) i = _
            simp (disch := omega) only [wI_n, wI_k]; rfl
          have e15 : σ2.1 0 15 = v := by
            show (wI (wI (wI (wI (wI (wI σ 53 k (nI w)) 0 15 v) 0 16 (nI (k + 1))) (M + 35) k (nI w)) (M + 36) k (nI (b2n (decide (p2 ≠ 0))))) M 61 (nI (k + 1))).1 0 15 = _
            simp (disch := omega) only [wI_n, wI_k, upd_n, upd_k]
          show (∃ h, h < n ∧ σ2.1 53 i = nI h ∧ σ2.1 (M + 35) i = nI h) ∧ ∃ b, σ2.1 (M + 36) i = nI (b2n b) ∧ ius (σ2.1 0 15) (nI i) &&& 1 = nI (b2n b)
          rw [e53, e35, e36, e15, sb i (by omega)]
          by_cases q : i = k
          · simp only [if_pos q]
            exact ⟨⟨w, hw, rfl, rfl⟩, _, rfl, rfl⟩
          · simp only [if_neg q]
            exact k4 i (by omega)
end FEED
