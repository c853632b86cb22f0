/-! the class's ring against a row -/
theorem upd_a {f : Nat → Int32} {i j : Nat} {v : Int32} : upd f i v j = if j = i then v else f j := rfl
theorem one_b {w : Nat} (hw : w < 8) : (1 : Int32) <<< (nI w &&& 31) = nI (mk8 (fun i => decide (i = w))) := by
  rcases lt8 hw with rfl | rfl | rfl | rfl | rfl | rfl | rfl | rfl <;> decide
def ktF (n : Nat) (ρ : Nat → Int32) (o : Nat) : Nat → Bool := fun h => decide (h < n ∧ ρ (o + h) = 1)
/-- the ring at a is the row ρ, but for quarrels, seed, gone and punctual -/
def CR (σ : Sg) (a n m : Nat) (ρ : Nat → Int32) : Prop :=
  (σ.1 a 1 = ρ 84 ∧ σ.1 a 2 = nI (mk8 (stF n ρ 0)) ∧ σ.1 a 3 = nI (mk8 (stF n ρ 2)) ∧ σ.1 a 4 = nI (mk8 (ktF n ρ 32)) ∧ σ.1 a 5 = nI (mk8 (ktF n ρ 56)) ∧ σ.1 a 10 = ρ 86 ∧ σ.1 a 11 = ρ 87) ∧
  (∀ h, h < n → σ.1 (a + 1) h = ρ h ∧ σ.1 (a + 2) h = ρ (8 + h) ∧ σ.1 (a + 3) h = ρ (16 + h) ∧ σ.1 (a + 4) h = ρ (24 + h) ∧ σ.1 (a + 5) h = ρ (48 + h) ∧ σ.1 (a + 6) h = ρ (64 + h)) ∧
  ∀ e, e < m → σ.1 (a + 7) e = ρ (72 + e) ∧ σ.1 (a + 8) e = ρ (78 + e)
/-- a row in which all is as it may be -/
def RV (n m : Nat) (ρ : Nat → Int32) : Prop := (∀ h, h < n → (ρ (40 + h) = 0 ∨ ρ (40 + h) = 1 ∨ ρ (40 + h) = 2) ∧ (ρ (32 + h) = 0 ∨ ρ (32 + h) = 1) ∧ (ρ (56 + h) = 0 ∨ ρ (56 + h) = 1)) ∧ bxOk n m ρ ∧ (∀ e, e < m → ρ (78 + e) = -2 ∨ ∃ b, b < n ∧ ρ (78 + e) = nI b) ∧ 0 ≤ ρ 85 ∧ ρ 85 ≤ 99999 ∧ ∀ h, h < n → 0 ≤ ρ (8 + h)
def LC (σ : Sg) (L k : Nat) (bs : Br) (f : Rp) : Prop := lawW bs f ∧ ∃ p size, σ.1 (L + 2) k = nI p ∧ size ≤ 408 ∧ σ.1 L 1 = nI size ∧ lawC (σ.1 (L + 1)) p bs f ∧ lawE p bs f ≤ size
/-- the class's text at t -/
def CT (σ : Sg) (t n m : Nat) (bo : Nat → Bool) (dr : Nat → Int32) (lb : Nat → Br) (lf : Nat → Rp) : Prop :=
  (n ≤ 8 ∧ m ≤ 6) ∧ σ.1 t 0 = nI n ∧ σ.1 t 1 = nI m ∧ σ.1 t 2 = nI (mk8 (fun h => decide (h < n) && bo h)) ∧ (∀ e, e < m → σ.1 (t + 5) e = dr e) ∧ ∀ k, k < 4 → LC σ (t + 7) k (lb k) (lf k)
def SL (t : Nat) : Nat → Nat → Prop := fun k _ => k = t + 7 + 3 ∨ k = t + 7 + 4
def SC (a t : Nat) : Nat → Nat → Prop := fun k j => ((a ≤ k ∧ k ≤ a + 8) ∧ ¬ (k = a ∧ 6 ≤ j ∧ j ≤ 9)) ∨ k = t + 7 + 3 ∨ k = t + 7 + 4
def CA (σ : Sg) (a t n m : Nat) (bo : Nat → Bool) (dr : Nat → Int32) (lb : Nat → Br) (lf : Nat → Rp) : Prop := t + 11 < a ∧ σ.2.2.1 a 0 = t ∧ CT σ t n m bo dr lb lf
theorem LC.fs {S : Nat → Nat → Prop} {σ τ : Sg} {L k : Nat} {bs : Br} {f : Rp} (h : LC σ L k bs f) (hF : Fs S σ τ) (hS : ∀ x j, L ≤ x → x ≤ L + 2 → ¬ S x j) : LC τ L k bs f := by
  obtain ⟨hw, p, size, h1, h2, h3, h4, h5⟩ := h
  refine ⟨hw, p, size, (hF.1 _ _ (hS _ _ (by omega) (by omega))).trans h1, h2, (hF.1 _ _ (hS _ _ (by omega) (by omega))).trans h3, ?_, h5⟩
  rw [hF.row (k := L + 1) (fun j => hS _ j (by omega) (by omega))]
  exact h4
theorem CT.fs {S : Nat → Nat → Prop} {σ τ : Sg} {t n m : Nat} {bo : Nat → Bool} {dr : Nat → Int32} {lb : Nat → Br} {lf : Nat → Rp} (h : CT σ t n m bo dr lb lf) (hF : Fs S σ τ) (hS : ∀ x j, t ≤ x → x ≤ t + 9 → ¬ S x j) : CT τ t n m bo dr lb lf := by
  obtain ⟨h1, h2, h3, h4, h5, h6⟩ := h
  exact ⟨h1, (hF.1 _ _ (hS _ _ (by omega) (by omega))).trans h2, (hF.1 _ _ (hS _ _ (by omega) (by omega))).trans h3, (hF.1 _ _ (hS _ _ (by omega) (by omega))).trans h4, fun e he => (hF.1 _ _ (hS _ _ (by omega) (by omega))).trans (h5 e he), fun k hk => (h6 k hk).fs hF (fun x j a b => hS x j (by omega) (by omega))⟩
section RING
variable {a t n m : Nat} {σ τ : Sg} {ρ : Nat → Int32} {bo : Nat → Bool} {dr : Nat → Int32} {lb : Nat → Br} {lf : Nat → Rp}
theorem SL_SC {k j : Nat} (h : SL t k j) : SC a t k j := Or.inr h
theorem SC_a {i : Nat} (j : Nat) (hi : 1 ≤ i ∧ i ≤ 8) : SC a t (a + i) j := Or.inl ⟨by omega, by omega⟩
theorem SC_0 (j : Nat) (hj : ¬ (6 ≤ j ∧ j ≤ 9)) : SC a t a j := Or.inl ⟨by omega, by omega⟩
theorem CA.fs (h : CA σ a t n m bo dr lb lf) (hF : Fs (SC a t) σ τ) : CA τ a t n m bo dr lb lf := ⟨h.1, by rw [hF.2]; exact h.2.1, h.2.2.fs hF (fun x j a1 a2 q => by have := h.1; unfold SC at q; omega)⟩
theorem CA.sl (h : CA σ a t n m bo dr lb lf) (hF : Fs (SL t) σ τ) : CA τ a t n m bo dr lb lf := h.fs (hF.mo (fun _ _ => SL_SC))
theorem CR.fs {S : Nat → Nat → Prop} (h : CR σ a n m ρ) (hF : Fs S σ τ) (hS : ∀ x j, a ≤ x → x ≤ a + 8 → ¬ S x j) : CR τ a n m ρ := by
  have e : ∀ x j, a ≤ x → x ≤ a + 8 → τ.1 x j = σ.1 x j := fun x j a1 a2 => hF.1 x j (hS x j a1 a2)
  obtain ⟨⟨c1, c2, c3, c4, c5, c6, c7⟩, ch, ce⟩ := h
  refine ⟨⟨?_, ?_, ?_, ?_, ?_, ?_, ?_⟩, fun w hw => ?_, fun x hx => ?_⟩
  any_goals (rw [e _ _ (by omega) (by omega)]; assumption)
  · have := ch w hw
    rw [e _ _ (by omega) (by omega), e _ _ (by omega) (by omega), e _ _ (by omega) (by omega), e _ _ (by omega) (by omega), e _ _ (by omega) (by omega), e _ _ (by omega) (by omega)]
    exact this
  · have := ce x hx
    rw [e _ _ (by omega) (by omega), e _ _ (by omega) (by omega)]
    exact this
theorem CR.sl (h : CR σ a n m ρ) (ha : t + 11 < a) (hF : Fs (SL t) σ τ) : CR τ a n m ρ := h.fs hF (fun x j a1 a2 q => by unfold SL at q; omega)
theorem setVariables_v (h : CA σ a t n m bo dr lb lf) (hc : CR σ a n m ρ) (wt tp ot wh ky : Int32) : ∃ τ, Fs (SL t) σ τ ∧ fX2_setVariables a wt tp ot wh ky σ = some τ ∧ ∀ j, j < 9 → τ.1 (t + 7 + 3) j = vs ρ n wt tp ot wh ky j := by
  obtain ⟨ha, hT, -⟩ := h
  obtain ⟨⟨c1, c2, c3, -⟩, -⟩ := hc
  have s3 : ∀ j, SL t (t + 7 + 3) j := fun j => Or.inl rfl
  have ne : a ≠ t + 7 + 3 := by omega
  unfold fX2_setVariables
  rw [hT]
  dsimp only
  simp only [wI_n ne, c1, c2, c3]
  rw [bitCount_v, Option.bind_some]
  dsimp only
  simp only [wI_n ne, c3]
  rw [bitCount_v, Option.bind_some]
  dsimp only
  refine ⟨_, ((((((((Fs.rf.wI (s3 _)).wI (s3 _)).wI (s3 _)).wI (s3 _)).wI (s3 _)).wI (s3 _)).wI (s3 _)).wI (s3 _)).wI (s3 _), rfl, fun j hj => ?_⟩
  simp only [wI_k]
  unfold vs
  rcases (show j = 0 ∨ j = 1 ∨ j = 2 ∨ j = 3 ∨ j = 4 ∨ j = 5 ∨ j = 6 ∨ j = 7 ∨ j = 8 by omega) with rfl | rfl | rfl | rfl | rfl | rfl | rfl | rfl | rfl <;> simp [upd]
theorem lawOf_v (h : CA σ a t n m bo dr lb lf) {k : Nat} (hk : k < 4) {v : Nat → Int32} (hv : ∀ j, j < 9 → σ.1 (t + 7 + 3) j = v j) : ∃ τ, Fs (SL t) σ τ ∧ fX0_valueOf (t + 7) (nI k) σ = some (lawV v (lb k) (lf k), τ) := by
  obtain ⟨hw, p, size, h1, h2, h3, h4, h5⟩ := h.2.2.2.2.2.2.2 k hk
  obtain ⟨τ, g1, g2⟩ := valueOf_v hk h1 h2 h3 h4 hw h5
  exact ⟨τ, g1.fs (fun k j q => Or.inr q), by rw [g2, lawV_c hv hw]⟩
/-- the two together -/
theorem setLaw_v (h : CA σ a t n m bo dr lb lf) (hc : CR σ a n m ρ) {k : Nat} (hk : k < 4) (wt tp ot wh ky : Int32) : ∃ τ υ, Fs (SL t) σ τ ∧ Fs (SL t) σ υ ∧ fX2_setVariables a wt tp ot wh ky σ = some τ ∧ τ.2.2.1 a 0 = t ∧ fX0_valueOf (t + 7) (nI k) τ = some (lawV (vs ρ n wt tp ot wh ky) (lb k) (lf k), υ) := by
  obtain ⟨τ, g1, g2, g3⟩ := setVariables_v h hc wt tp ot wh ky
  obtain ⟨υ, k1, k2⟩ := lawOf_v (h.sl g1) hk g3
  exact ⟨τ, υ, g1, g1.tr k1, g2, (h.sl g1).2.1, k2⟩
theorem wouldLetIn_v (h : CA σ a t n m bo dr lb lf) (hc : CR σ a n m ρ) {o w : Nat} (ho : o < n) (hw : w < n) : ∃ τ, Fs (SL t) σ τ ∧ fX2_wouldLetIn a (nI o) (nI w) σ = some (nI (b2n (letB n lb lf ρ o w)), τ) := by
  have hn := h.2.2.1.1
  obtain ⟨τ, υ, g1, g2, g3, g4, g5⟩ := setLaw_v h hc (k := 0) (by decide) (ρ (48 + w)) (ρ (16 + o)) (ρ (16 + w)) (nI w) 0
  have e1 := (hc.2.1 w hw).2.2.2.2.1
  have e2 := (hc.2.1 o ho).2.2.1
  have e3 := (hc.2.1 w hw).2.2.1
  refine ⟨υ, g2, ?_⟩
  unfold fX2_wouldLetIn
  simp (disch := omega) only [vif, nI_clamp]
  rw [e1, e2, e3, g3, Option.bind_some, g4]
  have g5 : fX0_valueOf (t + 7) 0 τ = _ := g5
  rw [g5, Option.bind_some]
  dsimp only
  unfold letB
  by_cases hp : 0 < lawV (vs ρ n (ρ (48 + w)) (ρ (16 + o)) (ρ (16 + w)) (nI w) 0) (lb 0) (lf 0)
  · rw [if_neg (Int32.not_le.mpr hp), decide_eq_true hp]; rfl
  · rw [if_pos (Int32.not_lt.mp hp), decide_eq_false hp]; rfl
theorem i_clamp (lo hi x : Int32) (h : lo ≤ hi) : imax lo (imin hi x) = clamp lo hi x := by
  unfold imax imin clamp
  simp only [Int32.lt_iff_toInt_lt, Int32.le_iff_toInt_le] at *
  by_cases h1 : x.toInt < hi.toInt
  · rw [if_pos h1]
    by_cases h2 : lo.toInt < x.toInt
    · rw [if_pos h2, if_neg (by omega), if_neg (by omega)]
    · rw [if_neg h2]
      by_cases h3 : x.toInt < lo.toInt
      · rw [if_pos h3]
      · rw [if_neg h3, if_neg (by omega)]
        exact Int32.toInt_inj.mp (by omega)
  · rw [if_neg h1]
    by_cases h2 : lo.toInt < hi.toInt
    · rw [if_pos h2, if_neg (by omega)]
      by_cases h3 : hi.toInt < x.toInt
      · rw [if_pos h3]
      · rw [if_neg h3]
        exact Int32.toInt_inj.mp (by omega)
    · rw [if_neg h2, if_neg (by omega)]
      by_cases h3 : hi.toInt < x.toInt
      · rw [if_pos h3]
        exact Int32.toInt_inj.mp (by omega)
      · rw [if_neg h3]
        exact Int32.toInt_inj.mp (by omega)
end RING
