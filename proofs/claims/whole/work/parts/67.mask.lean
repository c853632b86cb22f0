section ARGS
variable {M a t t' ℓ n m : Nat} {bo : Nat → Bool} {dr : Nat → Int32} {lb : Nat → Br} {lf : Nat → Rp} {sd : Int32} {kw : Nat → Int64} {σ τ : Sg} {ρ : Nat → Int32}
/-- what a call asks: both answer the same, and they go on alike -/
def Ag (f g : Sg → Option (Int32 × Sg)) (P : Sg → Prop) (σ : Sg) : Prop := ∃ r σ1 σ2, f σ = some (r, σ1) ∧ g σ1 = some (r, σ2) ∧ P σ2
theorem RLp.ct (h : RLp M t t' ℓ n m bo dr lb lf sd kw σ) : CT σ t n m bo dr lb lf := h.1.2.2.2.2.1
theorem RLp.ms (h : RLp M t t' ℓ n m bo dr lb lf sd kw σ) : MS σ M ℓ n m bo dr lb lf := h.1.2.2.2.2.2.1
theorem RLp.n8 (h : RLp M t t' ℓ n m bo dr lb lf sd kw σ) : n ≤ 8 := h.ct.1.1
theorem RLp.m6 (h : RLp M t t' ℓ n m bo dr lb lf sd kw σ) : m ≤ 6 := h.ct.1.2
theorem RLp.ca (h : RLp M t t' ℓ n m bo dr lb lf sd kw σ) : CA σ 31 t n m bo dr lb lf := ⟨by have := h.1.2.1; omega, h.2.1.1, h.ct⟩
theorem RLp.cr (h : RLp M t t' ℓ n m bo dr lb lf sd kw σ) : CR σ 31 n m (σ.1 (M + 30)) := h.2.1.2.1
theorem RLp.rv (h : RLp M t t' ℓ n m bo dr lb lf sd kw σ) : RV n m (σ.1 (M + 30)) := h.2.1.2.2.1
theorem RLp.crn (h : RLp M t t' ℓ n m bo dr lb lf sd kw σ) : CR σ 31 n m (nowR M σ) := (h.2.1.now h.n8 h.m6).2.1
theorem RLp.rvn (h : RLp M t t' ℓ n m bo dr lb lf sd kw σ) : RV n m (nowR M σ) := (h.2.1.now h.n8 h.m6).2.2.1
theorem c_isH1 (h : RLp M t t' ℓ n m bo dr lb lf sd kw σ) {j : Nat} (hj : j < n) : fX6_isHouse 0 (nI j) σ = some (1, σ) := by
  have hn := h.n8
  unfold fX6_isHouse
  rw [if_neg (Int32.not_lt.mpr (nI_n1 (by omega))), h.1.2.2.1, h.ct.2.1, if_neg (le_nI (by omega) (by omega) hj)]
theorem c_isH0 (h : RLp M t t' ℓ n m bo dr lb lf sd kw σ) {p : Int32} (hp : p < 0 ∨ nI n ≤ p) : fX6_isHouse 0 p σ = some (0, σ) := by
  unfold fX6_isHouse
  rw [h.1.2.2.1, h.ct.2.1]
  by_cases q : p < 0
  · rw [if_pos q]
  · rw [if_neg q, if_pos (hp.resolve_left q)]
theorem c_isS1 (h : RLp M t t' ℓ n m bo dr lb lf sd kw σ) {j : Nat} (hj : j < m) : fX6_isSpare 0 (nI j) σ = some (1, σ) := by
  have hm := h.m6
  unfold fX6_isSpare
  rw [if_neg (Int32.not_lt.mpr (nI_n1 (by omega))), h.1.2.2.1, h.ct.2.2.1, if_neg (le_nI (by omega) (by omega) hj)]
theorem c_isS0 (h : RLp M t t' ℓ n m bo dr lb lf sd kw σ) {p : Int32} (hp : p < 0 ∨ nI m ≤ p) : fX6_isSpare 0 p σ = some (0, σ) := by
  unfold fX6_isSpare
  rw [h.1.2.2.1, h.ct.2.2.1]
  by_cases q : p < 0
  · rw [if_pos q]
  · rw [if_neg q, if_pos (hp.resolve_left q)]
theorem in_1 {x lo hi : Int32} (h1 : lo ≤ x) (h2 : x ≤ hi) : fX7_in x lo hi σ = some (1, σ) := by
  unfold fX7_in
  rw [if_neg (Int32.not_lt.mpr h1), if_neg (Int32.not_lt.mpr h2)]
theorem in_0 {x lo hi : Int32} (h : x < lo ∨ hi < x) : fX7_in x lo hi σ = some (0, σ) := by
  unfold fX7_in
  by_cases q : x < lo
  · rw [if_pos q]
  · rw [if_neg q, if_pos (h.resolve_left q)]
theorem below {k : Nat} (hk : k ≤ 20) {p : Int32} (h0 : ¬ p < 0) (hp : nI k ≤ p) : nI k - 1 < p := by
  by_cases q : k = 0
  · subst q
    have h0 := Int32.not_lt.mp h0
    rw [show nI 0 - 1 = (-1 : Int32) from rfl]
    rw [Int32.lt_iff_toInt_lt]
    rw [Int32.le_iff_toInt_le] at h0
    have : (-1 : Int32).toInt = -1 := rfl
    have : (0 : Int32).toInt = 0 := rfl
    omega
  · rw [nI_p (by omega)]
    rw [Int32.lt_iff_toInt_lt]
    rw [Int32.le_iff_toInt_le] at hp
    rw [nI_toInt (by omega)] at hp ⊢
    omega
theorem m_isH1 (h : MX σ M ℓ n m) {j : Nat} (hj : j < n) : fX7_isHouse M (nI j) σ = some (1, σ) := by
  have hn := h.2.2.1
  unfold fX7_isHouse
  rw [if_pos h.vl, h.cl, h.2.2.2.1, nI_p (by omega), in_1 (nI_n1 (by omega)) (nI_le (by omega) (by omega))]
  rfl
theorem m_isH0 (h : MX σ M ℓ n m) {p : Int32} (hp : p < 0 ∨ nI n ≤ p) : fX7_isHouse M p σ = some (0, σ) := by
  have hn := h.2.2.1
  unfold fX7_isHouse
  rw [if_pos h.vl, h.cl, h.2.2.2.1, in_0]
  · rfl
  · by_cases q : p < 0
    · exact Or.inl q
    · exact Or.inr (below (by omega) q (hp.resolve_left q))
theorem m_isS1 (h : MX σ M ℓ n m) {j : Nat} (hj : j < m) : fX7_isSpare M (nI j) σ = some (1, σ) := by
  have hn := h.2.2.2.2.1
  unfold fX7_isSpare
  rw [if_pos h.vl, h.cl, h.2.2.2.2.2, nI_p (by omega), in_1 (nI_n1 (by omega)) (nI_le (by omega) (by omega))]
  rfl
theorem m_isS0 (h : MX σ M ℓ n m) {p : Int32} (hp : p < 0 ∨ nI m ≤ p) : fX7_isSpare M p σ = some (0, σ) := by
  have hn := h.2.2.2.2.1
  unfold fX7_isSpare
  rw [if_pos h.vl, h.cl, h.2.2.2.2.2, in_0]
  · rfl
  · by_cases q : p < 0
    · exact Or.inl q
    · exact Or.inr (below (by omega) q (hp.resolve_left q))
/-- an argument is one of n, or none -/
theorem arg (p : Int32) {n : Nat} (hn : n ≤ 40) : (p < 0 ∨ nI n ≤ p) ∨ ∃ j, j < n ∧ p = nI j := by
  rcases pk_ix p (n := n) (by omega) with q | q | q
  · exact Or.inl (Or.inl q)
  · exact Or.inl (Or.inr q)
  · exact Or.inr q
theorem one0 : ¬ (1 : Int32) = 0 := by decide
theorem nowR_lt {x : Nat} (hx : x < 88) : nowR M σ x = σ.1 (M + 30) x := if_pos hx
/-- copies, from two states that go alike -/
theorem m_copies (h : RLp M t t' ℓ n m bo dr lb lf sd kw σ) : ∃ τ, Fx M σ τ ∧ fX7_copies M σ = some τ ∧ τ.1 (M + 31) = nowR M σ ∧ τ.1 M 49 = sd ∧ τ.1 M 50 = 0 ∧ τ.1 M 51 = -1 ∧ RLp M t t' ℓ n m bo dr lb lf sd kw τ := by
  obtain ⟨τ, h1, h2, h3, h4, h5, h6⟩ := copies_v h.ms
  have hF : Fx M σ τ := h1.fx (fun _ _ => cp_SQ) (fun x hx => by rw [h3]; unfold nowR; rw [if_neg (by omega)])
  exact ⟨τ, hF, h2, h3, h4.trans h.1.2.2.2.2.2.2.2.1, h5, h6, h.fx hF⟩
theorem m_still (h : RLp M t t' ℓ n m bo dr lb lf sd kw σ) : ∃ τ, Fx M σ τ ∧ fX7_copiesStill M σ = some τ ∧ τ.1 (M + 31) = nowR M σ ∧ τ.1 M 49 = sd ∧ τ.1 M 50 = 1 ∧ τ.1 M 51 = -1 ∧ RLp M t t' ℓ n m bo dr lb lf sd kw τ := by
  obtain ⟨τ, h1, h2, h3, h4, h5, h6⟩ := copiesStill_v h.ms
  have hF : Fx M σ τ := h1.fx (fun _ _ => cp_SQ) (fun x hx => by rw [h3]; unfold nowR; rw [if_neg (by omega)])
  exact ⟨τ, hF, h2, h3, h4.trans h.1.2.2.2.2.2.2.2.1, h5, h6, h.fx hF⟩
theorem whereIs_v (h : CA σ a t n m bo dr lb lf) (hc : CR σ a n m ρ) (hv : RV n m ρ) {w : Nat} (hw : w < n) : fX2_whereIs a (nI w) σ = some (ρ (40 + w), σ) := by
  have hn := h.2.2.1.1
  unfold fX2_whereIs
  rw [hc.1.2.1, fX6_bit_v _ (by omega), Option.bind_some, stF_t hw]
  dsimp only
  rw [hc.1.2.2.1, fX6_bit_v _ (by omega), Option.bind_some, stF_t hw]
  rcases (hv.1 w hw).1 with q | q | q <;> rw [q] <;> rfl
theorem kept_v (h : CA σ a t n m bo dr lb lf) (hc : CR σ a n m ρ) (hv : RV n m ρ) {w : Nat} (hw : w < n) : fX6_bit (σ.1 a 4) (nI w) σ = some (ρ (32 + w), σ) := by
  have hn := h.2.2.1.1
  rw [hc.1.2.2.2.1, fX6_bit_v _ (by omega), ktF_t hw]
  rcases (hv.1 w hw).2.1 with q | q <;> rw [q] <;> rfl
theorem wasLate_v (h : CA σ a t n m bo dr lb lf) (hc : CR σ a n m ρ) (hv : RV n m ρ) {w : Nat} (hw : w < n) : fX6_bit (σ.1 a 5) (nI w) σ = some (ρ (56 + w), σ) := by
  have hn := h.2.2.1.1
  rw [hc.1.2.2.2.2.1, fX6_bit_v _ (by omega), ktF_t hw]
  rcases (hv.1 w hw).2.2 with q | q <;> rw [q] <;> rfl
theorem c_rentOf (h : CA σ a t n m bo dr lb lf) (hc : CR σ a n m ρ) {w : Nat} (hw : w < n) : ∃ τ, Fs (SL t) σ τ ∧ fX2_rentOf a (nI w) σ = some (renV n m lb lf ρ w, τ) := by
  have hn := h.2.2.1.1
  have hm := h.2.2.1.2
  have loop : ∀ i, i ≤ m → lp (fun st : Int32 × Int32 × Sg => bX2_rentOf_4 a (nI w) st.1 st.2.1 st.2.2) (nI (kyN ρ (nI w) i), nI i, σ) = some (nI (kyN ρ (nI w) m), σ) := by
    refine lpn (fun i => (nI (kyN ρ (nI w) i), nI i, σ)) m (fun i hi => ?_) ?_
    · show bX2_rentOf_4 a (nI w) _ (nI i) σ = _
      unfold bX2_rentOf_4 jX2_rentOf_28
      rw [h.2.1, h.2.2.2.2.1, if_neg (le_nI (by omega) (by omega) hi)]
      simp (disch := omega) only [vif, nI_clamp]
      rw [(hc.2.2 i hi).1]
      show _ = some (Sum.inl (nI (kyN ρ (nI w) (i + 1)), nI (i + 1), σ))
      rw [show kyN ρ (nI w) (i + 1) = kyN ρ (nI w) i + (if ρ (72 + i) = nI w then 1 else 0) from rfl]
      by_cases q : ρ (72 + i) = nI w
      · rw [if_pos q, if_pos q, nI_s, nI_s]
      · rw [if_neg q, if_neg q, nI_s]; rfl
    · show bX2_rentOf_4 a (nI w) _ (nI m) σ = _
      unfold bX2_rentOf_4
      rw [h.2.1, h.2.2.2.2.1, if_pos (Int32.le_refl _)]
  have l0 : lp (fun st : Int32 × Int32 × Sg => bX2_rentOf_4 a (nI w) st.1 st.2.1 st.2.2) (0, 0, σ) = some (nI (kyN ρ (nI w) m), σ) := loop 0 (by omega)
  obtain ⟨τ, υ, g1, g2, g3, g4, g5⟩ := setLaw_v h hc (k := 2) (by decide) 0 (ρ (16 + w)) 0 (nI w) (nI (kyN ρ (nI w) m))
  refine ⟨υ, g2, ?_⟩
  unfold fX2_rentOf
  rw [l0, Option.bind_some]
  simp (disch := omega) only [vif, nI_clamp]
  rw [(hc.2.1 w hw).2.2.1, g3, Option.bind_some, g4]
  have g5 : fX0_valueOf (t + 7) 2 τ = _ := g5
  rw [g5, Option.bind_some, i_clamp 0 99 _ (by decide)]
  rfl
end ARGS
