section CGO
variable {a t n m : Nat} {σ τ : Sg} {ρ ρ' : Nat → Int32} {bo : Nat → Bool} {dr : Nat → Int32} {lb : Nat → Br} {lf : Nat → Rp}
/-- who went waits no more -/
def gW (hr : Int32) (ρ : Nat → Int32) (i : Nat) : Nat → Int32 := fun x => if 48 ≤ x ∧ x < 48 + i ∧ goC hr ρ (x - 48) = true then 0 else ρ x
theorem gW_s {hr : Int32} {i : Nat} : gW hr ρ (i + 1) = if goC hr ρ i = true then upd (gW hr ρ i) (48 + i) 0 else gW hr ρ i := by
  funext x
  by_cases q : x = 48 + i
  · subst q
    unfold gW
    by_cases g : goC hr ρ i = true
    · rw [if_pos g, upd_k, if_pos ⟨by omega, by omega, by rw [show 48 + i - 48 = i by omega]; exact g⟩]
    · rw [if_neg g, if_neg (fun z => g (by have := z.2.2; rwa [show 48 + i - 48 = i by omega] at this)), if_neg (by omega)]
  · have e : gW hr ρ (i + 1) x = gW hr ρ i x := by
      unfold gW
      by_cases z : 48 ≤ x ∧ x < 48 + i ∧ goC hr ρ (x - 48) = true
      · rw [if_pos z, if_pos ⟨z.1, by omega, z.2.2⟩]
      · rw [if_neg z, if_neg (fun y => z ⟨y.1, by omega, y.2.2⟩)]
    rw [e]
    split
    · rw [upd_n q]
    · rfl
theorem goS_p {hr : Int32} : ∀ (i : Nat), i ≤ 8 → ∀ x, foldU (goS hr) i ρ x = if 40 ≤ x ∧ x < 40 + i ∧ goC hr ρ (x - 40) = true then 1 else gW hr ρ i x
  | 0, _, x => by
    unfold gW
    rw [if_neg (by omega), if_neg (by omega)]
    rfl
  | i + 1, hi, x => by
    show (if goC hr (foldU (goS hr) i ρ) i = true then upd (upd (foldU (goS hr) i ρ) (40 + i) 1) (48 + i) 0 else foldU (goS hr) i ρ) x = _
    rw [foldU_go (by omega) (Nat.le_refl i), gW_s]
    by_cases g : goC hr ρ i = true
    · rw [if_pos g, if_pos g]
      by_cases q : x = 48 + i
      · subst q; rw [upd_k, if_neg (by omega), upd_k]
      · rw [upd_n q, upd_n q]
        by_cases q2 : x = 40 + i
        · subst q2; rw [upd_k, if_pos ⟨by omega, by omega, by rw [show 40 + i - 40 = i by omega]; exact g⟩]
        · rw [upd_n q2, goS_p i (by omega) x]
          by_cases z : 40 ≤ x ∧ x < 40 + i ∧ goC hr ρ (x - 40) = true
          · rw [if_pos z, if_pos ⟨z.1, by omega, z.2.2⟩]
          · rw [if_neg z, if_neg (fun y => z ⟨y.1, by omega, y.2.2⟩)]
    · rw [if_neg g, if_neg g, goS_p i (by omega) x]
      by_cases z : 40 ≤ x ∧ x < 40 + i ∧ goC hr ρ (x - 40) = true
      · rw [if_pos z, if_pos ⟨z.1, by omega, z.2.2⟩]
      · rw [if_neg z, if_neg (fun y => z ⟨y.1, by
          by_cases e : x = 40 + i
          · subst e; have := y.2.2; rw [show 40 + i - 40 = i by omega] at this; exact absurd this g
          · omega, y.2.2⟩)]
def wentF (n : Nat) (hr : Int32) (ρ : Nat → Int32) : Nat → Bool := fun h => decide (h < n) && goC hr ρ h
theorem letPeopleGo_v (h : CA σ a t n m bo dr lb lf) (hc : CR σ a n m ρ) (hv : RV n m ρ) : ∃ τ, Fs (SC a t) σ τ ∧ fX2_letPeopleGo a σ = some (nI (mk8 (wentF n (irem (ρ 84) 24) ρ)), τ) ∧ CR τ a n m (foldU (goS (irem (ρ 84) 24)) n ρ) := by
  have hn := h.2.2.1.1
  have hm := h.2.2.1.2
  have hfree : ((σ.1 a 2) ||| (σ.1 a 3)) &&& ((σ.1 a 4) ^^^ (-1 : Int32)) = nI (mk8 (fun i => (stF n ρ 0 i || stF n ρ 2 i) && !ktF n ρ 32 i)) := by
    rw [hc.1.2.1, hc.1.2.2.1, hc.1.2.2.2.1, mk8_or, mk8_diff]
  have hgo : ∀ i, i < n → goC (irem (ρ 84) 24) ρ i = (decide (ρ i = irem (ρ 84) 24) && ((stF n ρ 0 i || stF n ρ 2 i) && !ktF n ρ 32 i)) := fun i hi => by
    unfold goC
    rw [stF_t hi, stF_t hi, ktF_t hi]
    have v1 := (hv.1 i hi).1
    have v2 := (hv.1 i hi).2.1
    by_cases q : ρ i = irem (ρ 84) 24
    · rcases v1 with e | e | e <;> rcases v2 with f | f <;> simp [q, e, f] <;> decide
    · simp [q]
  generalize hhr : irem (ρ 84) 24 = hr at *
  have loop : ∀ d i τ, i + d = n → Fs (SC a t) σ τ → CR τ a n m (gW hr ρ i) → ∃ υ, Fs (SC a t) σ υ ∧ lp (fun st : Int32 × Int32 × Sg => bX2_letPeopleGo_30 a hr (nI (mk8 (fun i => (stF n ρ 0 i || stF n ρ 2 i) && !ktF n ρ 32 i))) st.1 st.2.1 st.2.2) (nI (mk8 (fun j => decide (j < i) && goC hr ρ j)), nI i, τ) = some (nI (mk8 (wentF n hr ρ)), υ) ∧ CR υ a n m (gW hr ρ n) := by
    intro d
    induction d with
    | zero =>
      intro i τ hi hF hc'
      have hτ := h.fs hF
      have hi : i = n := by omega
      subst hi
      refine ⟨τ, hF, lp_r ?_, hc'⟩
      show bX2_letPeopleGo_30 a _ _ _ _ τ = _
      unfold bX2_letPeopleGo_30
      rw [hτ.2.1, hτ.2.2.2.1, if_pos (Int32.le_refl _)]
      rfl
    | succ d ih =>
      intro i τ hi hF hc'
      have hτ := h.fs hF
      have hi8 : i < 8 := by omega
      have e1 : τ.1 (a + 1) i = ρ i := by rw [(hc'.2.1 i (by omega)).1]; unfold gW; rw [if_neg (by omega)]
      have key : ∃ υ, Fs (SC a t) σ υ ∧ bX2_letPeopleGo_30 a hr (nI (mk8 (fun i => (stF n ρ 0 i || stF n ρ 2 i) && !ktF n ρ 32 i))) (nI (mk8 (fun j => decide (j < i) && goC hr ρ j))) (nI i) τ = some (.inl (nI (mk8 (fun j => decide (j < i + 1) && goC hr ρ j)), nI (i + 1), υ)) ∧ CR υ a n m (gW hr ρ (i + 1)) := by
        have keep : goC hr ρ i = false → nI (mk8 (fun j => decide (j < i) && goC hr ρ j)) = nI (mk8 (fun j => decide (j < i + 1) && goC hr ρ j)) := fun g => congrArg nI (mk8_c fun j hj => by
          by_cases q : j = i
          · subst q; rw [g, Bool.and_false, Bool.and_false]
          · rw [show decide (j < i + 1) = decide (j < i) from decide_eq_decide.mpr (by omega)])
        unfold bX2_letPeopleGo_30 jX2_letPeopleGo_78
        rw [hτ.2.1, hτ.2.2.2.1, if_neg (le_nI (by omega) (by omega) (by omega))]
        simp (disch := omega) only [vif, nI_clamp]
        rw [e1, fX6_bit_v _ hi8, Option.bind_some, nI_s]
        dsimp only
        by_cases q : ρ i = hr
        · rw [if_pos q]
          have hg : goC hr ρ i = ((stF n ρ 0 i || stF n ρ 2 i) && !ktF n ρ 32 i) := by rw [hgo i (by omega), decide_eq_true q, Bool.true_and]
          rw [← hg, gW_s]
          cases g : goC hr ρ i
          · rw [if_neg (show ¬ nI (b2n false) = 1 by decide), if_neg (by decide), keep g]
            exact ⟨τ, hF, rfl, hc'⟩
          · rw [if_pos (show nI (b2n true) = 1 by decide), if_pos rfl, mk8_set _ hi8]
            refine ⟨_, hF.wI (SC_a _ (by omega)), ?_, hc'.wW hn hm (by omega)⟩
            have em : mk8 (fset (fun j => decide (j < i) && goC hr ρ j) i true) = mk8 (fun j => decide (j < i + 1) && goC hr ρ j) := mk8_c fun j hj => by
              unfold fset
              by_cases q : j = i
              · subst q; rw [if_pos rfl, g, decide_eq_true (by omega)]; rfl
              · rw [if_neg q, show decide (j < i + 1) = decide (j < i) from decide_eq_decide.mpr (by omega)]
            rw [em]
        · have g : goC hr ρ i = false := by rw [hgo i (by omega), decide_eq_false q, Bool.false_and]
          rw [if_neg q, keep g, gW_s, g, if_neg (by decide)]
          exact ⟨τ, hF, rfl, hc'⟩
      obtain ⟨υ, g1, g2, g3⟩ := key
      obtain ⟨ω, k1, k2, k3⟩ := ih (i + 1) υ (by omega) g1 g3
      exact ⟨ω, k1, by rw [lp_l (a := (nI (mk8 (fun j => decide (j < i) && goC hr ρ j)), nI i, τ)) (a' := (nI (mk8 (fun j => decide (j < i + 1) && goC hr ρ j)), nI (i + 1), υ)) g2]; exact k2, k3⟩
  have c0 : CR σ a n m (gW hr ρ 0) := hc.ag hn hm (fun x _ _ => by unfold gW; rw [if_neg (by omega)])
  obtain ⟨υ, g1, g2, g3⟩ := loop n 0 σ (by omega) Fs.rf c0
  have e0 : nI (mk8 (fun j => decide (j < 0) && goC hr ρ j)) = 0 := (mk8_z _).mpr (fun i _ => by rw [decide_eq_false (by omega)]; rfl)
  rw [e0] at g2
  have g2 : lp (fun st : Int32 × Int32 × Sg => bX2_letPeopleGo_30 a hr (nI (mk8 (fun i => (stF n ρ 0 i || stF n ρ 2 i) && !ktF n ρ 32 i))) st.1 st.2.1 st.2.2) (0, 0, σ) = _ := g2
  unfold fX2_letPeopleGo
  dsimp only
  rw [hfree, hc.1.1, hhr, g2, Option.bind_some]
  dsimp only
  refine ⟨_, (g1.wI (SC_0 _ (by omega))).wI (SC_0 _ (by omega)), rfl, ?_⟩
  have e2 : υ.1 a 2 = nI (mk8 (stF n ρ 0)) := by rw [g3.1.2.1]; exact congrArg nI (mk8_c fun i hi => by unfold stF gW; rw [if_neg (by omega)])
  have e3 : υ.1 a 3 = nI (mk8 (stF n ρ 2)) := by rw [g3.1.2.2.1]; exact congrArg nI (mk8_c fun i hi => by unfold stF gW; rw [if_neg (by omega)])
  have e4 : υ.1 a 4 = nI (mk8 (ktF n ρ 32)) := by rw [g3.1.2.2.2.1]; exact congrArg nI (mk8_c fun i hi => by unfold ktF gW; rw [if_neg (by omega)])
  have e5 : υ.1 a 5 = nI (mk8 (ktF n ρ 56)) := by rw [g3.1.2.2.2.2.1]; exact congrArg nI (mk8_c fun i hi => by unfold ktF gW; rw [if_neg (by omega)])
  have w40 : ∀ i, i < n → foldU (goS hr) n ρ (40 + i) = if goC hr ρ i = true then 1 else ρ (40 + i) := fun i hi => by
    rw [goS_p n hn]
    by_cases g : goC hr ρ i = true
    · rw [if_pos ⟨by omega, by omega, by rw [show 40 + i - 40 = i by omega]; exact g⟩, if_pos g]
    · rw [if_neg (fun z => g (by have := z.2.2; rwa [show 40 + i - 40 = i by omega] at this)), if_neg g]
      unfold gW; rw [if_neg (by omega)]
  refine g3.ms hn hm (fun x hx hx2 hx3 => ?_) (fun k j hkj => ?_) ?_ ?_ ?_ ?_
  · rw [goS_p n hn, if_neg (by omega)]
  · rw [wI_a, if_neg (by omega), wI_a, if_neg (by omega)]
  · rw [wI_a, if_neg (by omega), wI_a, if_pos ⟨rfl, rfl⟩, e2, mk8_diff]
    refine congrArg nI (mk8_c fun i hi => ?_)
    unfold stF wentF
    by_cases hin : i < n
    · rw [w40 i hin]
      cases g : goC hr ρ i
      · rw [if_neg (by decide)]; simp
      · rw [if_pos rfl]; simp [hin]
    · simp [hin]
  · rw [wI_a, if_pos ⟨rfl, rfl⟩, wI_a, if_neg (by omega), e3, mk8_diff]
    refine congrArg nI (mk8_c fun i hi => ?_)
    unfold stF wentF
    by_cases hin : i < n
    · rw [w40 i hin]
      cases g : goC hr ρ i
      · rw [if_neg (by decide)]; simp
      · rw [if_pos rfl]; simp [hin]
    · simp [hin]
  · rw [wI_a, if_neg (by omega), wI_a, if_neg (by omega), e4]
    refine congrArg nI (mk8_c fun i hi => ?_)
    unfold ktF
    rw [goS_p n hn, if_neg (by omega)]
    unfold gW; rw [if_neg (by omega)]
  · rw [wI_a, if_neg (by omega), wI_a, if_neg (by omega), e5]
    refine congrArg nI (mk8_c fun i hi => ?_)
    unfold ktF
    rw [goS_p n hn, if_neg (by omega)]
    unfold gW; rw [if_neg (by omega)]
end CGO
