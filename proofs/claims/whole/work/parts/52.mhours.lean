theorem vif {α : Type} {i n : Nat} {a b : α} {d : Decidable (vin (nI i) n)} (h : i < n) (hn : n ≤ 4000) : (@ite α (vin (nI i) n) d a b) = a := if_pos (vin_nI h hn)
theorem foldU_out {step : Nat → (Nat → Int32) → (Nat → Int32)} {x : Nat} : ∀ {i : Nat} {ρ : Nat → Int32}, (∀ j ρ, j < i → step j ρ x = ρ x) → foldU step i ρ x = ρ x
  | 0, _, _ => rfl
  | i + 1, ρ, h => by
    show step i (foldU step i ρ) x = ρ x
    rw [h i _ (by omega), foldU_out (fun j ρ hj => h j ρ (by omega))]
def hourS (n m : Nat) (bo : Nat → Bool) (dr : Nat → Int32) (lb : Nat → Br) (lf : Nat → Rp) (sd still lost : Int32) (ρ : Nat → Int32) : Nat → Int32 :=
  let hr := irem (ρ 84) 24
  let ρ0 := if hr = 0 then foldU (spS n) m ρ else ρ
  let ρ1 := foldU (goS hr) n ρ0
  let ρ2 := foldU (coS n lb lf hr sd still lost (goC hr ρ0)) n ρ1
  let ρ3 := linR n m bo dr lb lf 9 ρ2
  let ρ4 := foldU (waS n lb lf) n ρ3
  upd ρ4 84 (ρ4 84 + 1)
section HOURS
variable {M ℓ n m : Nat} {σ : Sg} {bo : Nat → Bool} {dr : Nat → Int32} {lb : Nat → Br} {lf : Nat → Rp}
theorem nar1 : vp_nar .boolean 1 = 1 := rfl
theorem nar0 : vp_nar .boolean 0 = 0 := rfl
theorem goS_o {hr : Int32} {ρ : Nat → Int32} {i h : Nat} (hi : i < 8) (hh : h < 8) (hih : i ≠ h) : goC hr (goS hr i ρ) h = goC hr ρ h := by
  unfold goS
  split
  · unfold goC; rw [upd_n (by omega), upd_n (by omega), upd_n (by omega), upd_n (by omega), upd_n (by omega), upd_n (by omega)]
  · rfl
theorem foldU_go {hr : Int32} {ρ : Nat → Int32} {h : Nat} (hh : h < 8) : ∀ {i : Nat}, i ≤ h → goC hr (foldU (goS hr) i ρ) h = goC hr ρ h
  | 0, _ => rfl
  | i + 1, hi => by
    show goC hr (goS hr i (foldU (goS hr) i ρ)) h = _
    rw [goS_o (by omega) hh (by omega), foldU_go hh (by omega)]
theorem theyGo_v (h : MS σ M ℓ n m bo dr lb lf) (hr : Int32) : ∃ τ, Fs (SR M) σ τ ∧ fX7_theyGo M hr σ = some τ ∧ τ.1 (M + 31) = foldU (goS hr) n (σ.1 (M + 31)) ∧ ∀ w, w < n → τ.1 (M + 32) w = nI (b2n (goC hr (σ.1 (M + 31)) w)) := by
  have hn := h.1.2.2.1
  have s31 : ∀ i, SR M (M + 31) i := fun i => Or.inl rfl
  have s32 : ∀ i, SR M (M + 32) i := fun i => Or.inr (Or.inl rfl)
  obtain ⟨τ, h1, h2, h3, h4⟩ := lp_inv (f := fun st : Int32 × Sg => bX7_theyGo_2 M hr st.1 st.2) n (fun i τ => Fs (SR M) σ τ ∧ τ.1 (M + 31) = foldU (goS hr) i (σ.1 (M + 31)) ∧ ∀ w, w < i → τ.1 (M + 32) w = nI (b2n (goC hr (σ.1 (M + 31)) w))) (fun i τ hi hI => by
      obtain ⟨hF, hrow, hw⟩ := hI
      have hτ := h.fs hF
      have hg : goC hr (τ.1 (M + 31)) i = goC hr (σ.1 (M + 31)) i := by rw [hrow]; exact foldU_go (by omega) (Nat.le_refl i)
      have J : ∀ (b : Bool), goC hr (τ.1 (M + 31)) i = b → ∃ τ', jX7_theyGo_60 M hr (nI i) (M + 32) (nI i) (nI (b2n b)) τ = some (.inl (nI (i + 1), τ')) ∧ Fs (SR M) σ τ' ∧ τ'.1 (M + 31) = goS hr i (τ.1 (M + 31)) ∧ ∀ w, w < i + 1 → τ'.1 (M + 32) w = nI (b2n (goC hr (σ.1 (M + 31)) w)) := by
        intro b eb
        unfold jX7_theyGo_60 jX7_theyGo_93
        dsimp only
        simp (disch := omega) only [k40, k48, vif, nI_clamp]
        have en : vp_nar .boolean (nI (b2n b)) = nI (b2n b) := by cases b <;> rfl
        rw [en]
        have e7 : (wI τ (M + 32) i (nI (b2n b))).1 (M + 32) i = nI (b2n b) := by rw [wI_k, upd_k]
        have F7 := hF.wI (k := M + 32) (i := i) (v := nI (b2n b)) (s32 _)
        have r7 : (wI τ (M + 32) i (nI (b2n b))).1 (M + 31) = τ.1 (M + 31) := wI_n (by omega)
        have w7 : ∀ w, w < i + 1 → (wI τ (M + 32) i (nI (b2n b))).1 (M + 32) w = nI (b2n (goC hr (σ.1 (M + 31)) w)) := fun w hw9 => by
          rw [wI_k]
          by_cases q : w = i
          · subst q; rw [upd_k, ← hg, eb]
          · rw [upd_n q]; exact hw w (by omega)
        rw [e7, nI_s]
        cases b
        · rw [if_pos (show nI (b2n false) = 0 by decide)]
          refine ⟨_, rfl, F7, ?_, w7⟩
          rw [r7]; unfold goS; rw [eb, if_neg (by decide)]
        · rw [if_neg (show ¬ nI (b2n true) = 0 by decide)]
          refine ⟨_, rfl, (F7.wI (k := M + 31) (s31 _)).wI (k := M + 31) (s31 _), ?_, ?_⟩
          · rw [wI_k, wI_k, r7]; unfold goS; rw [eb, if_pos rfl]
          · intro w hw9
            rw [wI_n (by omega), wI_n (by omega)]
            exact w7 w hw9
      show ∃ τ', bX7_theyGo_2 M hr (nI i) τ = _ ∧ Fs (SR M) σ τ' ∧ τ'.1 (M + 31) = goS hr i (foldU (goS hr) i (σ.1 (M + 31))) ∧ _
      rw [← hrow]
      unfold bX7_theyGo_2 jX7_theyGo_59
      rw [if_pos hτ.1.vl, hτ.1.cl, hτ.1.2.2.2.1, if_neg (le_nI (by omega) (by omega) hi), if_pos (vin_nI (by omega) (by omega)), k40, k32, if_pos (vin_nI (by omega) (by omega)), if_pos (vin_nI (by omega) (by omega)), nI_clamp (n := i) (by omega), nI_clamp (n := 40 + i) (by omega), nI_clamp (n := 32 + i) (by omega)]
      by_cases q1 : τ.1 (M + 31) i = hr
      · rw [if_pos q1]
        by_cases q2 : τ.1 (M + 31) (40 + i) = 1
        · rw [if_pos q2]; exact J false (by unfold goC; simp [q2])
        · rw [if_neg q2]
          by_cases q3 : τ.1 (M + 31) (32 + i) = 0
          · rw [if_pos q3]; exact J true (by unfold goC; simp [q1, q2, q3])
          · rw [if_neg q3]; exact J false (by unfold goC; simp [q3])
      · rw [if_neg q1]; exact J false (by unfold goC; simp [q1])) (fun τ hI => by
      have hτ := h.fs hI.1
      show bX7_theyGo_2 M hr (nI n) τ = _
      unfold bX7_theyGo_2
      rw [if_pos hτ.1.vl, hτ.1.cl, hτ.1.2.2.2.1, if_pos (Int32.le_refl _)]) ⟨Fs.rf, rfl, fun w hw => by omega⟩
  have h1 : lp (fun st : Int32 × Sg => bX7_theyGo_2 M hr st.1 st.2) (0, σ) = some τ := h1
  exact ⟨τ, h2, by unfold fX7_theyGo; rw [h1]; rfl, h3, h4⟩
theorem mixed_v (h v : Int32) : fX7_mixed h v σ = some (mix h v, σ) := by
  unfold fX7_mixed mix
  rfl
theorem lotOf_v (wh : Int32) : fX7_lotOf M wh σ = some (lot (σ.1 M 49) wh, σ) := by
  unfold fX7_lotOf lot
  rw [mixed_v, Option.bind_some]
  dsimp only
  rw [mixed_v, Option.bind_some]
theorem theyCome_v (h : MS σ M ℓ n m bo dr lb lf) (hr : Int32) {wf : Nat → Bool} (hwf : ∀ w, w < n → σ.1 (M + 32) w = nI (b2n (wf w))) : ∃ τ, Fs (fun k j => SR M k j ∧ k ≠ M + 32) σ τ ∧ fX7_theyCome M hr σ = some τ ∧ τ.1 (M + 31) = foldU (coS n lb lf hr (σ.1 M 49) (σ.1 M 50) (σ.1 M 51) wf) n (σ.1 (M + 31)) := by
  have hn := h.1.2.2.1
  have s31 : ∀ i, SR M (M + 31) i ∧ M + 31 ≠ M + 32 := fun i => ⟨Or.inl rfl, by omega⟩
  obtain ⟨τ, h1, h2, h3⟩ := lp_inv (f := fun st : Int32 × Sg => bX7_theyCome_2 M hr st.1 st.2) n (fun i τ => Fs (fun k j => SR M k j ∧ k ≠ M + 32) σ τ ∧ τ.1 (M + 31) = foldU (coS n lb lf hr (σ.1 M 49) (σ.1 M 50) (σ.1 M 51) wf) i (σ.1 (M + 31))) (fun i τ hi hI => by
      obtain ⟨hF, hrow⟩ := hI
      have hτ := h.fs (hF.mo (fun k j q => q.1))
      have m49 : ∀ υ, Fs (fun k j => SR M k j ∧ k ≠ M + 32) σ υ → υ.1 M 49 = σ.1 M 49 := fun υ q => q.1 _ _ (fun z => SR_r (by omega) (by omega) (by omega) (by omega) (by omega) z.1)
      have m50 : ∀ υ, Fs (fun k j => SR M k j ∧ k ≠ M + 32) σ υ → υ.1 M 50 = σ.1 M 50 := fun υ q => q.1 _ _ (fun z => SR_r (by omega) (by omega) (by omega) (by omega) (by omega) z.1)
      have m51 : ∀ υ, Fs (fun k j => SR M k j ∧ k ≠ M + 32) σ υ → υ.1 M 51 = σ.1 M 51 := fun υ q => q.1 _ _ (fun z => SR_r (by omega) (by omega) (by omega) (by omega) (by omega) z.1)
      have m32 : ∀ υ, Fs (fun k j => SR M k j ∧ k ≠ M + 32) σ υ → υ.1 (M + 32) i = nI (b2n (wf i)) := fun υ q => by rw [q.1 _ _ (fun z => z.2 rfl)]; exact hwf i hi
      show ∃ τ', bX7_theyCome_2 M hr (nI i) τ = _ ∧ Fs (fun k j => SR M k j ∧ k ≠ M + 32) σ τ' ∧ τ'.1 (M + 31) = coS n lb lf hr (σ.1 M 49) (σ.1 M 50) (σ.1 M 51) wf i (foldU (coS n lb lf hr (σ.1 M 49) (σ.1 M 50) (σ.1 M 51) wf) i (σ.1 (M + 31)))
      rw [← hrow]
      -- behind the row's 56 is set to 0
      have F7 := hF.wI (k := M + 31) (i := 56 + i) (v := 0) (s31 _)
      have r7 : (wI τ (M + 31) (56 + i) 0).1 (M + 31) = upd (τ.1 (M + 31)) (56 + i) 0 := wI_k
      have J : ∀ (s0 : Int32), (s0 = 0 ∧ ¬ τ.1 (M + 31) (56 + i) = 1 ∨ s0 = 1 ∧ τ.1 (M + 31) (56 + i) = 1) → ∃ τ', jX7_theyCome_33 M hr (nI i) s0 τ = some (.inl (nI (i + 1), τ')) ∧ Fs (fun k j => SR M k j ∧ k ≠ M + 32) σ τ' ∧ τ'.1 (M + 31) = coS n lb lf hr (σ.1 M 49) (σ.1 M 50) (σ.1 M 51) wf i (τ.1 (M + 31)) := by
        intro s0 hs0
        unfold jX7_theyCome_33 coS
        rw [k56, k40, k8, if_pos (vin_nI (by omega) (by omega)), if_pos (vin_nI (by omega) (by omega)), if_pos (vin_nI (by omega) (by omega)), if_pos (vin_nI (by omega) (by omega)), nI_clamp (n := 56 + i) (by omega), nI_clamp (n := 40 + i) (by omega), nI_clamp (n := 8 + i) (by omega), nI_clamp (n := i) (by omega)]
        unfold jX7_theyCome_152
        dsimp only
        rw [r7, upd_n (show 40 + i ≠ 56 + i by omega), upd_n (show 8 + i ≠ 56 + i by omega), m32 _ F7, m51 _ F7, nI_s]
        have out : ∃ τ', some (Sum.inl (nI (i + 1), wI τ (M + 31) (56 + i) 0)) = (some (Sum.inl (nI (i + 1), τ')) : Option ((Int32 × Sg) ⊕ Sg)) ∧ Fs (fun k j => SR M k j ∧ k ≠ M + 32) σ τ' ∧ τ'.1 (M + 31) = upd (τ.1 (M + 31)) (56 + i) 0 := ⟨_, rfl, F7, r7⟩
        by_cases q1 : τ.1 (M + 31) (40 + i) = 1
        · rw [if_pos q1]
          cases hwi : wf i
          · rw [if_pos (show nI (b2n false) = 0 by decide)]
            by_cases q2 : nI i = σ.1 M 51
            · rw [if_pos q2, if_pos (Or.inr (Or.inr (Or.inl q2)))]; exact out
            · rw [if_neg q2]
              have K : ¬ (¬ τ.1 (M + 31) (8 + i) = hr ∧ ¬ τ.1 (M + 31) (56 + i) = 1) → ∃ τ', jX7_theyCome_94 M hr (nI i) s0 (wI τ (M + 31) (56 + i) 0) = some (.inl (nI (i + 1), τ')) ∧ Fs (fun k j => SR M k j ∧ k ≠ M + 32) σ τ' ∧ τ'.1 (M + 31) = if ¬ τ.1 (M + 31) (56 + i) = 1 ∧ σ.1 M 50 = 0 ∧ lot (σ.1 M 49) (32 * τ.1 (M + 31) 84 + nI i) < latV n lb lf (upd (τ.1 (M + 31)) (56 + i) 0) i then upd (upd (τ.1 (M + 31)) (56 + i) 0) (56 + i) 1 else upd (upd (τ.1 (M + 31)) (56 + i) 0) (40 + i) 2 := by
                intro _
                have B : ∀ υ, Fs (fun k j => SR M k j ∧ k ≠ M + 32) σ υ → υ.1 (M + 31) = upd (τ.1 (M + 31)) (56 + i) 0 → ∃ τ', jX7_theyCome_142 M hr (nI i) υ = some (.inl (nI (i + 1), τ')) ∧ Fs (fun k j => SR M k j ∧ k ≠ M + 32) σ τ' ∧ τ'.1 (M + 31) = upd (upd (τ.1 (M + 31)) (56 + i) 0) (40 + i) 2 := by
                  intro υ hυ er
                  unfold jX7_theyCome_142 jX7_theyCome_152
                  rw [k40, if_pos (vin_nI (by omega) (by omega)), nI_clamp (n := 40 + i) (by omega)]
                  dsimp only
                  rw [nI_s]
                  exact ⟨_, rfl, hυ.wI (k := M + 31) (s31 _), by rw [wI_k, er]⟩
                unfold jX7_theyCome_94
                rw [m50 _ F7, r7, upd_n (show 84 ≠ 56 + i by omega)]
                rcases hs0 with ⟨rfl, q56⟩ | ⟨rfl, q56⟩
                · rw [if_pos rfl]
                  by_cases q5 : σ.1 M 50 = 0
                  · rw [if_pos q5, lotOf_v, m49 _ F7, Option.bind_some]
                    dsimp only
                    obtain ⟨υ, g1, g2⟩ := lateOf_v (h.fs (F7.mo (fun k j q => q.1))) (w := i) (by omega)
                    rw [r7] at g2
                    rw [g2, Option.bind_some]
                    dsimp only
                    have Fυ := F7.tr (g1.mo (S' := fun k j => SR M k j ∧ k ≠ M + 32) (fun k j q => ⟨SV_SR q, fun z => SV_r (M := M) (k := k) (j := j) (by omega) (by omega) (by omega) q⟩))
                    have rυ : υ.1 (M + 31) = upd (τ.1 (M + 31)) (56 + i) 0 := (row_sv g1).trans r7
                    by_cases q6 : lot (σ.1 M 49) (32 * τ.1 (M + 31) 84 + nI i) < latV n lb lf (upd (τ.1 (M + 31)) (56 + i) 0) i
                    · rw [if_neg (Int32.not_le.mpr q6), k56, if_pos (show vin (nI (56 + i)) 88 from vin_nI (by omega) (by omega)), nI_clamp (n := 56 + i) (by omega), if_pos (show ¬ τ.1 (M + 31) (56 + i) = 1 ∧ σ.1 M 50 = 0 ∧ lot (σ.1 M 49) (32 * τ.1 (M + 31) 84 + nI i) < latV n lb lf (upd (τ.1 (M + 31)) (56 + i) 0) i from ⟨q56, q5, q6⟩)]
                      unfold jX7_theyCome_152
                      dsimp only
                      rw [nI_s]
                      exact ⟨_, rfl, Fυ.wI (k := M + 31) (s31 _), by rw [wI_k, rυ]⟩
                    · rw [if_pos (Int32.not_lt.mp q6), if_neg (fun q => q6 q.2.2)]
                      exact B υ Fυ rυ
                  · rw [if_neg q5, if_neg (fun q => q5 q.2.1)]
                    exact B _ F7 r7
                · rw [if_neg (by decide), if_neg (fun q => q.1 q56)]
                  exact B _ F7 r7
              by_cases q3 : τ.1 (M + 31) (8 + i) = hr
              · rw [if_pos q3, if_neg (fun q => by rcases q with q | q | q | q; exact q q1; cases q; exact q2 q; exact q.1 q3)]
                exact K (fun q => q.1 q3)
              · rw [if_neg q3]
                rcases hs0 with ⟨rfl, q56⟩ | ⟨rfl, q56⟩
                · rw [if_pos rfl, if_pos (Or.inr (Or.inr (Or.inr ⟨q3, q56⟩)))]; exact out
                · rw [if_neg (by decide), if_neg (fun q => by rcases q with q | q | q | q; exact q q1; cases q; exact q2 q; exact q.2 q56)]
                  exact K (fun q => q.2 q56)
          · rw [if_neg (show ¬ nI (b2n true) = 0 by decide), if_pos (Or.inr (Or.inl rfl))]; exact out
        · rw [if_neg q1, if_pos (Or.inl q1)]; exact out
      unfold bX7_theyCome_2
      rw [if_pos hτ.1.vl, hτ.1.cl, hτ.1.2.2.2.1, if_neg (le_nI (by omega) (by omega) hi), k56, if_pos (vin_nI (by omega) (by omega)), nI_clamp (n := 56 + i) (by omega)]
      by_cases q : τ.1 (M + 31) (56 + i) = 1
      · rw [if_pos q]; exact J 1 (Or.inr ⟨rfl, q⟩)
      · rw [if_neg q]; exact J 0 (Or.inl ⟨rfl, q⟩)) (fun τ hI => by
      have hτ := h.fs (hI.1.mo (fun k j q => q.1))
      show bX7_theyCome_2 M hr (nI n) τ = _
      unfold bX7_theyCome_2
      rw [if_pos hτ.1.vl, hτ.1.cl, hτ.1.2.2.2.1, if_pos (Int32.le_refl _)]) ⟨Fs.rf, rfl⟩
  have h1 : lp (fun st : Int32 × Sg => bX7_theyCome_2 M hr st.1 st.2) (0, σ) = some τ := h1
  exact ⟨τ, h2, by unfold fX7_theyCome; rw [h1]; rfl, h3⟩
theorem theyWait_v (h : MS σ M ℓ n m bo dr lb lf) : ∃ τ, Fs (SR M) σ τ ∧ fX7_theyWait M σ = some τ ∧ τ.1 (M + 31) = foldU (waS n lb lf) n (σ.1 (M + 31)) := by
  have hn := h.1.2.2.1
  have s31 : ∀ i, SR M (M + 31) i := fun i => Or.inl rfl
  obtain ⟨τ, h1, h2, h3⟩ := lp_inv (f := fun st : Int32 × Sg => bX7_theyWait_2 M st.1 st.2) n (fun i τ => Fs (SR M) σ τ ∧ τ.1 (M + 31) = foldU (waS n lb lf) i (σ.1 (M + 31))) (fun i τ hi hI => by
      obtain ⟨hF, hrow⟩ := hI
      have hτ := h.fs hF
      show ∃ τ', bX7_theyWait_2 M (nI i) τ = _ ∧ Fs (SR M) σ τ' ∧ τ'.1 (M + 31) = waS n lb lf i (foldU (waS n lb lf) i (σ.1 (M + 31)))
      rw [← hrow]
      unfold bX7_theyWait_2 jX7_theyWait_71 waS
      rw [if_pos hτ.1.vl, hτ.1.cl, hτ.1.2.2.2.1, if_neg (le_nI (by omega) (by omega) hi), k40, k48, if_pos (vin_nI (by omega) (by omega)), if_pos (vin_nI (by omega) (by omega)), nI_clamp (n := 40 + i) (by omega), nI_clamp (n := 48 + i) (by omega)]
      dsimp only
      rw [nI_s]
      by_cases q : τ.1 (M + 31) (40 + i) = 2
      · rw [if_pos q, if_pos q]
        have F7 := hF.wI (k := M + 31) (i := 48 + i) (v := τ.1 (M + 31) (48 + i) + 1) (s31 _)
        obtain ⟨υ, g1, g2⟩ := quarrelOf_v (h.fs F7) (w := i) (by omega)
        rw [g2, wI_k]
        dsimp only [Option.bind_some]
        rw [within_v, upd_n (show 85 ≠ 48 + i by omega)]
        dsimp only [Option.bind_some]
        refine ⟨_, rfl, (F7.tr (g1.mo (fun _ _ => SV_SR))).wI (k := M + 31) (s31 _), ?_⟩
        rw [wI_k, row_sv g1, wI_k]
        rfl
      · rw [if_neg q, if_neg q]
        exact ⟨τ, rfl, hF, rfl⟩) (fun τ hI => by
      have hτ := h.fs hI.1
      show bX7_theyWait_2 M (nI n) τ = _
      unfold bX7_theyWait_2
      rw [if_pos hτ.1.vl, hτ.1.cl, hτ.1.2.2.2.1, if_pos (Int32.le_refl _)]) ⟨Fs.rf, rfl⟩
  have h1 : lp (fun st : Int32 × Sg => bX7_theyWait_2 M st.1 st.2) (0, σ) = some τ := h1
  exact ⟨τ, h2, by unfold fX7_theyWait; rw [h1]; rfl, h3⟩
theorem hourGoes_v (h : MS σ M ℓ n m bo dr lb lf) (hb : bxOk n m (σ.1 (M + 31))) : ∃ τ, Fs (SR M) σ τ ∧ fX7_hourGoes M σ = some τ ∧ τ.1 (M + 31) = hourS n m bo dr lb lf (σ.1 M 49) (σ.1 M 50) (σ.1 M 51) (σ.1 (M + 31)) := by
  have keep : ∀ j, j ≠ 46 → ∀ υ, Fs (SR M) σ υ → υ.1 M j = σ.1 M j := fun j hj υ q => q.1 _ _ (SR_r (by omega) (by omega) (by omega) (by omega) (by omega))
  have rest : ∀ υ, Fs (SR M) σ υ → ∃ τ, Fs (SR M) σ τ ∧ jX7_hourGoes_19 M (irem (σ.1 (M + 31) 84) 24) υ = some τ ∧ τ.1 (M + 31) = (let ρ0 := υ.1 (M + 31); let hr := irem (σ.1 (M + 31) 84) 24; let ρ1 := foldU (goS hr) n ρ0; let ρ2 := foldU (coS n lb lf hr (σ.1 M 49) (σ.1 M 50) (σ.1 M 51) (goC hr ρ0)) n ρ1; let ρ3 := linR n m bo dr lb lf 9 ρ2; let ρ4 := foldU (waS n lb lf) n ρ3; upd ρ4 84 (ρ4 84 + 1)) := by
    intro υ hF
    obtain ⟨τ1, a1, a2, a3, a4⟩ := theyGo_v (h.fs hF) (irem (σ.1 (M + 31) 84) 24)
    have F1 := hF.tr a1
    obtain ⟨τ2, b1, b2, b3⟩ := theyCome_v (h.fs F1) (irem (σ.1 (M + 31) 84) 24) a4
    have F2 := F1.tr (b1.mo (fun k j q => q.1))
    rw [keep 49 (by decide) _ F1, keep 50 (by decide) _ F1, keep 51 (by decide) _ F1, a3] at b3
    obtain ⟨τ3, c1, c2, c3⟩ := lettersIn_v (h.fs F2)
    have F3 := F2.tr c1
    rw [b3] at c3
    obtain ⟨τ4, d1, d2, d3⟩ := theyWait_v (h.fs F3)
    have F4 := F3.tr d1
    rw [c3] at d3
    refine ⟨_, F4.wI (k := M + 31) (i := 84) (v := τ4.1 (M + 31) 84 + 1) (Or.inl rfl), ?_, ?_⟩
    · unfold jX7_hourGoes_19
      rw [a2]
      dsimp only [Option.bind_some]
      rw [b2]
      dsimp only [Option.bind_some]
      rw [c2]
      dsimp only [Option.bind_some]
      rw [d2]
      rfl
    · rw [wI_k, d3]
  unfold fX7_hourGoes hourS
  dsimp only
  by_cases q : irem (σ.1 (M + 31) 84) 24 = 0
  · rw [if_pos q, if_pos q]
    obtain ⟨υ, a1, a2, a3⟩ := sparesGo_v h hb
    rw [a2]
    dsimp only [Option.bind_some]
    obtain ⟨τ, b1, b2, b3⟩ := rest υ a1
    rw [a3] at b3
    exact ⟨τ, b1, b2, b3⟩
  · rw [if_neg q, if_neg q]
    exact rest σ Fs.rf
end HOURS
