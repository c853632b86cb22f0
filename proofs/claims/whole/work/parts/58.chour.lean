section CHOUR
variable {a t n m : Nat} {σ τ : Sg} {ρ ρ' : Nat → Int32} {bo : Nat → Bool} {dr : Nat → Int32} {lb : Nat → Br} {lf : Nat → Rp}
theorem c_lin_run (h : CA σ a t n m bo dr lb lf) (x2 : Int32) : ∀ (d i : Nat) (fl : Bool) (τ : Sg) (ρ : Nat → Int32), i + d = n → Fs (SC a t) σ τ → CR τ a n m ρ → RV n m ρ → ∃ υ, Fs (SC a t) σ υ ∧ lp (fun st : Int32 × Int32 × Sg => bX2_letPeopleIn_29 a x2 st.1 st.2.1 st.2.2) (nI (b2n fl), nI i, τ) = some (nI (b2n (lin1 n m bo dr lb lf d i fl ρ).1), υ) ∧ CR υ a n m (lin1 n m bo dr lb lf d i fl ρ).2 := by
  have hn := h.2.2.1.1
  have hm := h.2.2.1.2
  intro d
  induction d with
  | zero =>
    intro i fl τ ρ hi hF hc hv
    have hτ := h.fs hF
    refine ⟨τ, hF, lp_r ?_, hc⟩
    show bX2_letPeopleIn_29 a x2 _ _ τ = _
    unfold bX2_letPeopleIn_29
    rw [hτ.2.1, hτ.2.2.2.1, show i = n by omega, if_pos (Int32.le_refl _)]
    rfl
  | succ d ih =>
    intro i fl τ ρ hi hF hc hv
    have hτ := h.fs hF
    have key : ∃ υ, Fs (SC a t) σ υ ∧ bX2_letPeopleIn_29 a x2 (nI (b2n fl)) (nI i) τ = some (.inl (nI (b2n ((cin n m bo dr lb lf ρ i).1 || fl)), nI (i + 1), υ)) ∧ CR υ a n m (cin n m bo dr lb lf ρ i).2 := by
      unfold bX2_letPeopleIn_29 jX2_letPeopleIn_60
      rw [hτ.2.1, hτ.2.2.2.1, if_neg (le_nI (by omega) (by omega) (by omega)), hc.1.2.2.1, fX6_bit_v _ (by omega), Option.bind_some, stF_t (by omega)]
      dsimp only
      rw [nI_s]
      by_cases q : ρ (40 + i) = 2
      · rw [decide_eq_true q, if_pos (show nI (b2n true) = 1 by decide)]
        obtain ⟨υ, g1, g2, g3⟩ := letInIfCan_v hτ hc hv (w := i) (by omega) q
        rw [g2, Option.bind_some]
        refine ⟨υ, hF.tr g1, ?_, g3⟩
        dsimp only
        cases (cin n m bo dr lb lf ρ i).1 <;> cases fl <;> rfl
      · rw [decide_eq_false q, if_neg (show ¬ nI (b2n false) = 1 by decide)]
        unfold cin
        rw [if_neg q]
        exact ⟨τ, hF, rfl, hc⟩
    obtain ⟨υ, g1, g2, g3⟩ := key
    obtain ⟨ω, k1, k2, k3⟩ := ih (i + 1) ((cin n m bo dr lb lf ρ i).1 || fl) υ _ (by omega) g1 g3 (rv_cin hv hn hm (by omega))
    exact ⟨ω, k1, by rw [lp_l (f := fun st : Int32 × Int32 × Sg => bX2_letPeopleIn_29 a x2 st.1 st.2.1 st.2.2) g2]; exact k2, k3⟩
theorem c_letters (h : CA σ a t n m bo dr lb lf) : ∀ (k r : Nat) (τ : Sg) (ρ : Nat → Int32), r + k = 9 → Fs (SC a t) σ τ → CR τ a n m ρ → RV n m ρ → ∃ υ, Fs (SC a t) σ υ ∧ lp (fun st : Int32 × Int32 × Sg => bX2_letPeopleIn_15 a st.1 st.2.1 st.2.2) (1, nI r, τ) = some υ ∧ CR υ a n m (linR n m bo dr lb lf k ρ) := by
  have hn := h.2.2.1.1
  have hm := h.2.2.1.2
  intro k
  induction k with
  | zero =>
    intro r τ ρ hr hF hc hv
    refine ⟨τ, hF, lp_r ?_, hc⟩
    show bX2_letPeopleIn_15 a 1 (nI r) τ = _
    unfold bX2_letPeopleIn_15
    rw [show r = 9 by omega, if_pos (by decide)]
  | succ k ih =>
    intro r τ ρ hr hF hc hv
    obtain ⟨υ, g1, g2, g3⟩ := c_lin_run h (nI r) n 0 false τ ρ (by omega) hF hc hv
    have hb : bX2_letPeopleIn_15 a 1 (nI r) τ = some (.inl (nI (b2n (lin1 n m bo dr lb lf n 0 false ρ).1), nI (r + 1), υ)) := by
      unfold bX2_letPeopleIn_15
      rw [if_neg (show ¬ (8 : Int32) < nI r from Int32.not_lt.mpr (nI_le (b := 8) (by omega) (by omega))), if_neg (by decide)]
      have g2 : lp (fun st : Int32 × Int32 × Sg => bX2_letPeopleIn_29 a (nI r) st.1 st.2.1 st.2.2) (0, 0, τ) = _ := g2
      rw [g2, Option.bind_some]
      dsimp only
      rw [nI_s]
    rw [lp_l (f := fun st : Int32 × Int32 × Sg => bX2_letPeopleIn_15 a st.1 st.2.1 st.2.2) (a := (1, nI r, τ)) hb]
    unfold linR
    cases hf : (lin1 n m bo dr lb lf n 0 false ρ).1
    · rw [if_neg (by decide)]
      refine ⟨υ, g1, lp_r ?_, g3⟩
      show bX2_letPeopleIn_15 a (nI (b2n false)) _ υ = _
      unfold bX2_letPeopleIn_15
      split
      · rfl
      · rw [if_pos (show nI (b2n false) = 0 by decide)]
    · rw [if_pos rfl]
      exact ih (r + 1) υ _ (by omega) g1 g3 (rv_lin1 hn hm n 0 false ρ (by omega) hv)
theorem lin1_0 : ∀ (d i : Nat) (fl : Bool) (ρ : Nat → Int32), (∀ j, i ≤ j → j < i + d → ¬ ρ (40 + j) = 2) → lin1 n m bo dr lb lf d i fl ρ = (fl, ρ) := by
  intro d
  induction d with
  | zero => intro i fl ρ _; rfl
  | succ d ih =>
    intro i fl ρ h
    unfold lin1
    have e : cin n m bo dr lb lf ρ i = (false, ρ) := by unfold cin; rw [if_neg (h i (by omega) (by omega))]
    rw [e]
    show lin1 n m bo dr lb lf d (i + 1) (false || fl) ρ = _
    rw [Bool.false_or]
    exact ih (i + 1) fl ρ (fun j a b => h j (by omega) (by omega))
theorem letPeopleIn_v (h : CA σ a t n m bo dr lb lf) (hc : CR σ a n m ρ) (hv : RV n m ρ) : ∃ τ, Fs (SC a t) σ τ ∧ fX2_letPeopleIn a σ = some τ ∧ CR τ a n m (linR n m bo dr lb lf 9 ρ) := by
  have hn := h.2.2.1.1
  unfold fX2_letPeopleIn jX2_letPeopleIn_12
  rw [hc.1.2.2.1]
  by_cases q : nI (mk8 (stF n ρ 2)) = 0
  · rw [if_pos q, lp_r (b := σ) (by show bX2_letPeopleIn_15 a 0 0 σ = _; unfold bX2_letPeopleIn_15; rw [if_neg (by decide), if_pos rfl])]
    refine ⟨σ, Fs.rf, rfl, ?_⟩
    unfold linR
    rw [lin1_0 n 0 false ρ (fun j _ hj z => by
      have := (mk8_z _).mp q j (by omega)
      rw [stF_t (by omega)] at this
      exact absurd z (by simpa using this)), if_neg (show ¬ false = true by decide)]
    exact hc
  · rw [if_neg q]
    obtain ⟨τ, g1, g2, g3⟩ := c_letters h 9 0 σ ρ (by omega) Fs.rf hc hv
    have g2 : lp (fun st : Int32 × Int32 × Sg => bX2_letPeopleIn_15 a st.1 st.2.1 st.2.2) (1, 0, σ) = _ := g2
    exact ⟨τ, g1, by rw [g2]; rfl, g3⟩
theorem passSparesOn_v (h : CA σ a t n m bo dr lb lf) (hc : CR σ a n m ρ) (hv : RV n m ρ) : ∃ τ, Fs (SC a t) σ τ ∧ fX2_passSparesOn a σ = some τ ∧ CR τ a n m (foldU (spS n) m ρ) := by
  have hn := h.2.2.1.1
  have hm := h.2.2.1.2
  obtain ⟨τ, h1, h2, h3⟩ := lp_inv (f := fun st : Int32 × Sg => bX2_passSparesOn_2 a st.1 st.2) m (fun i τ => Fs (SC a t) σ τ ∧ CR τ a n m (foldU (spS n) i ρ)) (fun i τ hi hI => by
      obtain ⟨hF, hc'⟩ := hI
      have hτ := h.fs hF
      have hv' := rv_fold (rv_spS hn hm) hv i (by omega)
      show ∃ τ', bX2_passSparesOn_2 a (nI i) τ = _ ∧ Fs (SC a t) σ τ' ∧ CR τ' a n m (spS n i (foldU (spS n) i ρ))
      generalize foldU (spS n) i ρ = ρi at hc' hv' ⊢
      obtain ⟨b, hb, eb⟩ := hv'.2.1 i hi
      unfold bX2_passSparesOn_2 jX2_passSparesOn_55 spS
      rw [hτ.2.1, hτ.2.2.2.2.1, if_neg (le_nI (by omega) (by omega) hi)]
      simp (disch := omega) only [vif, nI_clamp]
      rw [(hc'.2.2 i hi).1, (hc'.2.2 i hi).2, nI_s]
      rcases hv'.2.2.1 i hi with q | ⟨g, hg, eg⟩
      · rw [if_pos q, if_pos (Or.inl (by rw [q]; decide))]
        exact ⟨τ, rfl, hF, hc'⟩
      · have n1 : ¬ ρi (78 + i) = -2 := by
          rw [eg]
          intro z
          have : (0 : Int32) ≤ nI g := nI_n1 (by omega)
          rw [z] at this
          exact absurd this (by decide)
        have n2 : ¬ ρi (78 + i) < 0 := by rw [eg]; exact Int32.not_lt.mpr (nI_n1 (by omega))
        rw [if_neg n1]
        by_cases q2 : ρi (78 + i) = ρi (72 + i)
        · rw [if_pos q2, if_pos (Or.inr q2)]
          exact ⟨τ, rfl, hF, hc'⟩
        · rw [if_neg q2, if_neg (fun z => z.elim n2 q2), eb, c_rightOf hτ hb, Option.bind_some, nI_clamp (n := b) (by omega)]
          exact ⟨_, rfl, hF.wI (SC_a _ (by omega)), hc'.wB hn hm hi⟩) (fun τ hI => by
      have hτ := h.fs hI.1
      show bX2_passSparesOn_2 a (nI m) τ = _
      unfold bX2_passSparesOn_2
      rw [hτ.2.1, hτ.2.2.2.2.1, if_pos (Int32.le_refl _)]) ⟨Fs.rf, hc⟩
  have h1 : lp (fun st : Int32 × Sg => bX2_passSparesOn_2 a st.1 st.2) (0, σ) = some τ := h1
  exact ⟨τ, h2, by unfold fX2_passSparesOn; rw [h1]; rfl, h3⟩
end CHOUR
