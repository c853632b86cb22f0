/-! what is tried, in the model -/
def hIt (H : (Nat → Int32) → (Nat → Int32)) : Nat → (Nat → Int32) → (Nat → Int32)
  | 0, ρ => ρ
  | k + 1, ρ => H (hIt H k ρ)
/-- who stands outside behind the hour k -/
def oH (n : Nat) (H : (Nat → Int32) → (Nat → Int32)) (ρ : Nat → Int32) : Nat → Nat → Bool := fun k => stF n (hIt H (k + 1) ρ) 2
def wEa (o : Nat → Nat → Bool) : Nat → Nat → Nat
  | 0, _ => 0
  | k + 1, h => wEa o k h + b2n (o k h)
def wAl (o : Nat → Nat → Bool) : Nat → Nat
  | 0 => 0
  | k + 1 => wAl o k + cnt8 (o k)
def wEv (o : Nat → Nat → Bool) : Nat → Nat → Bool
  | 0, _ => false
  | k + 1, h => wEv o k h || o k h
def wPk (o : Nat → Nat → Bool) : Nat → Nat
  | 0 => 0
  | k + 1 => if wPk o k < cnt8 (o k) then cnt8 (o k) else wPk o k
def wPh (o : Nat → Nat → Bool) : Nat → Nat
  | 0 => 0
  | k + 1 => if wPk o k < cnt8 (o k) then k else wPh o k
def wFs (o : Nat → Nat → Bool) : Nat → Option Nat
  | 0 => none
  | k + 1 => if (wFs o k).isSome = true then wFs o k else if mk8 (o k) = 0 then none else some k
def fsI (q : Option Nat) : Int32 := match q with
  | some k => nI k
  | none => -2
theorem b2n_le (b : Bool) : b2n b ≤ 1 := by cases b <;> decide
theorem wEa_le (o : Nat → Nat → Bool) (h : Nat) : ∀ k, wEa o k h ≤ k
  | 0 => Nat.le_refl 0
  | k + 1 => by
    have := wEa_le o h k
    have := b2n_le (o k h)
    show wEa o k h + b2n (o k h) ≤ k + 1
    omega
theorem wAl_le (o : Nat → Nat → Bool) : ∀ k, wAl o k ≤ 8 * k
  | 0 => Nat.le_refl 0
  | k + 1 => by
    have := wAl_le o k
    have := cnt8_le (o k)
    show wAl o k + cnt8 (o k) ≤ 8 * (k + 1)
    omega
theorem wPk_le (o : Nat → Nat → Bool) : ∀ k, wPk o k ≤ 8
  | 0 => Nat.zero_le _
  | k + 1 => by
    show (if wPk o k < cnt8 (o k) then cnt8 (o k) else wPk o k) ≤ 8
    split
    · exact cnt8_le _
    · exact wPk_le o k
theorem wPh_le (o : Nat → Nat → Bool) : ∀ k, wPh o k ≤ k
  | 0 => Nat.le_refl _
  | k + 1 => by
    show (if wPk o k < cnt8 (o k) then k else wPh o k) ≤ k + 1
    have := wPh_le o k
    split <;> omega
theorem wFs_lt (o : Nat → Nat → Bool) : ∀ {k j : Nat}, wFs o k = some j → j < k
  | 0, _, h => by cases h
  | k + 1, j, h => by
    unfold wFs at h
    split at h
    · exact Nat.lt_succ_of_lt (wFs_lt o h)
    · split at h
      · cases h
      · cases h; omega
def SQ (M : Nat) : Nat → Nat → Prop := fun k j => k = M + 28 ∨ k = M + 29 ∨ k = M + 31 ∨ k = M + 32 ∨ k = M + 34 ∨ k = M + 37 ∨ k = M ∧ (j = 46 ∨ 49 ≤ j ∧ j ≤ 51 ∨ 56 ≤ j ∧ j ≤ 60)
theorem SR_SQ {M k j : Nat} (h : SR M k j) : SQ M k j := by
  unfold SR SV SLw at h
  unfold SQ
  omega
section MTRIAL
variable {M ℓ n m : Nat} {σ τ : Sg} {bo : Nat → Bool} {dr : Nat → Int32} {lb : Nat → Br} {lf : Nat → Rp}
theorem MS.sq (h : MS σ M ℓ n m bo dr lb lf) (hF : Fs (SQ M) σ τ) : MS τ M ℓ n m bo dr lb lf := by
  have hl := h.1.1
  refine ⟨h.1.fs hF (fun q => by unfold SQ at q; omega) (fun q => by unfold SQ at q; omega) (fun q => by unfold SQ at q; omega), fun e he => ?_, fun w hw => ?_, fun k hk => (h.2.2.2 k hk).fs hF (fun x j a1 a2 q => by unfold SQ at q; omega)⟩
  · rw [hF.1 _ _ (fun q => by unfold SQ at q; omega)]; exact h.2.1 e he
  · rw [hF.1 _ _ (fun q => by unfold SQ at q; omega)]; exact h.2.2.1 w hw
def nowR (M : Nat) (σ : Sg) : Nat → Int32 := fun j => if j < 88 then σ.1 (M + 30) j else σ.1 (M + 31) j
theorem copies_v (h : MS σ M ℓ n m bo dr lb lf) : ∃ τ, Fs (fun k j => k = M + 31 ∨ k = M ∧ 49 ≤ j ∧ j ≤ 51) σ τ ∧ fX7_copies M σ = some τ ∧ τ.1 (M + 31) = nowR M σ ∧ τ.1 M 49 = σ.1 (M + 17) ℓ ∧ τ.1 M 50 = 0 ∧ τ.1 M 51 = -1 := by
  have hl := h.1.1
  obtain ⟨τ, h1, h2, h3⟩ := lp_inv (f := fun st : Int32 × Sg => bX7_copies_2 M st.1 st.2) 88 (fun i τ => Fs (fun k j => k = M + 31 ∨ k = M ∧ 49 ≤ j ∧ j ≤ 51) σ τ ∧ ∀ j, τ.1 (M + 31) j = if j < i then σ.1 (M + 30) j else σ.1 (M + 31) j) (fun i τ hi hI => by
      obtain ⟨hF, hr⟩ := hI
      have e30 : τ.1 (M + 30) i = σ.1 (M + 30) i := hF.1 _ _ (by omega)
      refine ⟨wI τ (M + 31) i (σ.1 (M + 30) i), ?_, hF.wI (Or.inl rfl), fun j => ?_⟩
      · show bX7_copies_2 M (nI i) τ = _
        unfold bX7_copies_2
        rw [if_neg (show ¬ (88 : Int32) ≤ nI i from le_nI (a := 88) (by omega) (by omega) (by omega))]
        simp (disch := omega) only [vif, nI_clamp]
        rw [e30, nI_s]
      · rw [wI_k]
        by_cases q : j = i
        · subst q; rw [upd_k, if_pos (by omega)]
        · rw [upd_n q, hr j]
          by_cases q2 : j < i
          · rw [if_pos q2, if_pos (by omega)]
          · rw [if_neg q2, if_neg (by omega)]) (fun τ hI => by
      show bX7_copies_2 M (nI 88) τ = _
      unfold bX7_copies_2
      rw [if_pos (show (88 : Int32) ≤ nI 88 by decide)]) ⟨Fs.rf, fun j => by rw [if_neg (by omega)]⟩
  have h1 : lp (fun st : Int32 × Sg => bX7_copies_2 M st.1 st.2) (0, σ) = some τ := h1
  have e18 : τ.1 M 18 = nI ℓ := (h2.1 _ _ (by omega)).trans h.1.2.1
  have e17 : τ.1 (M + 17) ℓ = σ.1 (M + 17) ℓ := h2.1 _ _ (by omega)
  unfold fX7_copies
  rw [h1, Option.bind_some, e18]
  simp (disch := omega) only [vif, nI_clamp]
  rw [e17]
  refine ⟨_, ((h2.wI (Or.inr (by omega))).wI (Or.inr (by omega))).wI (Or.inr (by omega)), rfl, ?_, ?_, ?_, ?_⟩
  · rw [wI_n (by omega), wI_n (by omega), wI_n (by omega)]
    exact funext h3
  · simp only [wI_k]; rw [upd_n (by omega), upd_n (by omega), upd_k]
  · simp only [wI_k]; rw [upd_n (by omega), upd_k]
  · simp only [wI_k]; rw [upd_k]
theorem cp_SQ {k j : Nat} (h : k = M + 31 ∨ k = M ∧ 49 ≤ j ∧ j ≤ 51) : SQ M k j := by unfold SQ; omega
theorem copiesStill_v (h : MS σ M ℓ n m bo dr lb lf) : ∃ τ, Fs (fun k j => k = M + 31 ∨ k = M ∧ 49 ≤ j ∧ j ≤ 51) σ τ ∧ fX7_copiesStill M σ = some τ ∧ τ.1 (M + 31) = nowR M σ ∧ τ.1 M 49 = σ.1 (M + 17) ℓ ∧ τ.1 M 50 = 1 ∧ τ.1 M 51 = -1 := by
  obtain ⟨τ, h1, h2, h3, h4, h5, h6⟩ := copies_v h
  unfold fX7_copiesStill
  rw [h2, Option.bind_some]
  refine ⟨_, h1.wI (Or.inr (by omega)), rfl, ?_, ?_, ?_, ?_⟩
  · rw [wI_n (by omega)]; exact h3
  · rw [wI_k, upd_n (by omega)]; exact h4
  · rw [wI_k, upd_k]
  · rw [wI_k, upd_n (by omega)]; exact h6
theorem goes_v (h : MS σ M ℓ n m bo dr lb lf) (hv : RV n m (σ.1 (M + 31))) {sd st lo : Int32} (h9 : σ.1 M 49 = sd) (h10 : σ.1 M 50 = st) (h11 : σ.1 M 51 = lo) {k : Nat} (hk : k ≤ 72) : ∃ τ, Fs (SR M) σ τ ∧ fX7_goes M (nI k) σ = some τ ∧ τ.1 (M + 31) = hIt (hourS n m bo dr lb lf sd st lo) k (σ.1 (M + 31)) ∧ RV n m (τ.1 (M + 31)) := by
  have keep : ∀ j, j ≠ 46 → ∀ υ, Fs (SR M) σ υ → υ.1 M j = σ.1 M j := fun j hj υ q => q.1 _ _ (SR_r (by omega) (by omega) (by omega) (by omega) (by omega))
  obtain ⟨τ, h1, h2, h3, h4⟩ := lp_inv (f := fun st : Int32 × Sg => bX7_goes_2 M (nI k) st.1 st.2) k (fun i τ => Fs (SR M) σ τ ∧ τ.1 (M + 31) = hIt (hourS n m bo dr lb lf sd st lo) i (σ.1 (M + 31)) ∧ RV n m (τ.1 (M + 31))) (fun i τ hi hI => by
      obtain ⟨hF, hr, hv'⟩ := hI
      obtain ⟨υ, g1, g2, g3⟩ := hourGoes_v (h.fs hF) hv'.2.1
      rw [keep 49 (by omega) _ hF, keep 50 (by omega) _ hF, keep 51 (by omega) _ hF, h9, h10, h11] at g3
      refine ⟨υ, ?_, hF.tr g1, ?_, ?_⟩
      · show bX7_goes_2 M (nI k) (nI i) τ = _
        unfold bX7_goes_2
        rw [if_neg (le_nI (by omega) (by omega) hi), g2, Option.bind_some, nI_s]
      · rw [g3, hr]; rfl
      · rw [g3]; exact rv_hourS sd st lo h.1.2.2.1 h.1.2.2.2.2.1 hv') (fun τ hI => by
      show bX7_goes_2 M (nI k) (nI k) τ = _
      unfold bX7_goes_2
      rw [if_pos (Int32.le_refl _)]) ⟨Fs.rf, rfl, hv⟩
  have h1 : lp (fun st : Int32 × Sg => bX7_goes_2 M (nI k) st.1 st.2) (0, σ) = some τ := h1
  exact ⟨τ, h2, by unfold fX7_goes; rw [h1]; rfl, h3, h4⟩
end MTRIAL
