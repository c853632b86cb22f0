set_option maxRecDepth 100000 in
theorem m8_shr : ∀ b0 b1 b2 b3 b4 b5 b6 b7 : Bool, ((nI (m8 b0 b1 b2 b3 b4 b5 b6 b7) >>> (nI 0 &&& 31)) &&& 1 = nI (b2n b0)) ∧ ((nI (m8 b0 b1 b2 b3 b4 b5 b6 b7) >>> (nI 1 &&& 31)) &&& 1 = nI (b2n b1)) ∧ ((nI (m8 b0 b1 b2 b3 b4 b5 b6 b7) >>> (nI 2 &&& 31)) &&& 1 = nI (b2n b2)) ∧ ((nI (m8 b0 b1 b2 b3 b4 b5 b6 b7) >>> (nI 3 &&& 31)) &&& 1 = nI (b2n b3)) ∧ ((nI (m8 b0 b1 b2 b3 b4 b5 b6 b7) >>> (nI 4 &&& 31)) &&& 1 = nI (b2n b4)) ∧ ((nI (m8 b0 b1 b2 b3 b4 b5 b6 b7) >>> (nI 5 &&& 31)) &&& 1 = nI (b2n b5)) ∧ ((nI (m8 b0 b1 b2 b3 b4 b5 b6 b7) >>> (nI 6 &&& 31)) &&& 1 = nI (b2n b6)) ∧ ((nI (m8 b0 b1 b2 b3 b4 b5 b6 b7) >>> (nI 7 &&& 31)) &&& 1 = nI (b2n b7)) := by decide +kernel
theorem mk8_shr (f : Nat → Bool) {h : Nat} (hh : h < 8) : (nI (mk8 f) >>> (nI h &&& 31)) &&& 1 = nI (b2n (f h)) := by
  obtain ⟨h0, h1, h2, h3, h4, h5, h6, h7⟩ := m8_shr (f 0) (f 1) (f 2) (f 3) (f 4) (f 5) (f 6) (f 7)
  rw [mk8_m]
  rcases lt8 hh with rfl | rfl | rfl | rfl | rfl | rfl | rfl | rfl <;> assumption
def SQ2 (M : Nat) : Nat → Nat → Prop := fun k j => SR M k j ∨ k = M + 34 ∨ k = M ∧ 56 ≤ j ∧ j ≤ 60
theorem SQ2_SQ {M k j : Nat} (h : SQ2 M k j) : SQ M k j := by
  rcases h with h | h
  · exact SR_SQ h
  · unfold SQ; omega
/-- what the model has noted behind k hours -/
def MW (σ : Sg) (M : Nat) (o : Nat → Nat → Bool) (k : Nat) : Prop := (∀ j, j < 8 → σ.1 (M + 34) j = nI (wEa o k j)) ∧ σ.1 M 56 = nI (wAl o k) ∧ σ.1 M 57 = fsI (wFs o k) ∧ σ.1 M 58 = nI (mk8 (wEv o k)) ∧ σ.1 M 59 = nI (wPh o k) ∧ σ.1 M 60 = nI (wPk o k)
section MSTAND
variable {M ℓ n m : Nat} {σ τ : Sg} {bo : Nat → Bool} {dr : Nat → Int32} {lb : Nat → Br} {lf : Nat → Rp}
theorem fsI_0 {o : Nat → Nat → Bool} {k : Nat} (hk : k ≤ 72) : 0 ≤ fsI (wFs o k) ↔ (wFs o k).isSome = true := by
  cases h : wFs o k with
  | none => exact ⟨fun q => absurd q (by decide), fun q => by cases q⟩
  | some j =>
    have := wFs_lt o h
    exact ⟨fun _ => rfl, fun _ => nI_n1 (by omega)⟩
theorem stand_step {o : Nat → Nat → Bool} {i : Nat} (hi : i < 72) (p1 : Int32) (hw : MW σ M o i) : ∃ τ, Fs (fun k j => k = M + 34 ∨ k = M ∧ 56 ≤ j ∧ j ≤ 60) σ τ ∧ ((lp (fun st : Int32 × Sg => bX7_standsFor_67 M p1 (nI i) (nI (mk8 (o i))) st.1 st.2) (0, σ)).bind (fun σ27 => (fX7_bits (nI (mk8 (o i))) σ27).bind (fun q32 => let r30 := q32.1; let σ29 := q32.2; (let σ33 := wI σ29 M 56 ((σ27.1 M 56) + r30); let σ34 := wI σ33 M 58 ((σ33.1 M 58) ||| nI (mk8 (o i))); if nI (mk8 (o i)) = 0 then (jX7_standsFor_135 M p1 (nI i) (nI (mk8 (o i))) σ34) else (if 0 ≤ (σ34.1 M 57) then (jX7_standsFor_135 M p1 (nI i) (nI (mk8 (o i))) σ34) else ((let σ48 := wI σ34 M 57 (nI i); jX7_standsFor_135 M p1 (nI i) (nI (mk8 (o i))) σ48))))))) = some (.inl (nI (i + 1), τ)) ∧ MW τ M o (i + 1) := by
  obtain ⟨w1, w2, w3, w4, w5, w6⟩ := hw
  obtain ⟨υ, h1, h2, h3⟩ := lp_inv (f := fun st : Int32 × Sg => bX7_standsFor_67 M p1 (nI i) (nI (mk8 (o i))) st.1 st.2) 8 (fun x τ => Fs (fun k j => k = M + 34 ∨ k = M ∧ 56 ≤ j ∧ j ≤ 60) σ τ ∧ (∀ j, τ.1 M j = σ.1 M j) ∧ ∀ j, j < 8 → τ.1 (M + 34) j = if j < x then nI (wEa o (i + 1) j) else nI (wEa o i j)) (fun x τ hx hI => by
      obtain ⟨hF, hM, hr⟩ := hI
      refine ⟨wI τ (M + 34) x (nI (wEa o (i + 1) x)), ?_, hF.wI (Or.inl rfl), fun j => by rw [wI_n (by omega)]; exact hM j, fun j hj => ?_⟩
      · show bX7_standsFor_67 M p1 (nI i) (nI (mk8 (o i))) (nI x) τ = _
        unfold bX7_standsFor_67
        rw [if_neg (show ¬ (8 : Int32) ≤ nI x from le_nI (a := 8) (by omega) (by omega) (by omega))]
        simp (disch := omega) only [vif, nI_clamp]
        rw [hr x hx, if_neg (by omega), mk8_shr _ hx, nI_add, nI_s]
        rfl
      · rw [wI_k]
        by_cases q : j = x
        · subst q; rw [upd_k, if_pos (by omega)]
        · rw [upd_n q, hr j hj]
          by_cases q2 : j < x
          · rw [if_pos q2, if_pos (by omega)]
          · rw [if_neg q2, if_neg (by omega)]) (fun τ hI => by
      show bX7_standsFor_67 M p1 (nI i) (nI (mk8 (o i))) (nI 8) τ = _
      unfold bX7_standsFor_67
      rw [if_pos (show (8 : Int32) ≤ nI 8 by decide)]) ⟨Fs.rf, fun _ => rfl, fun j hj => by rw [if_neg (by omega)]; exact w1 j hj⟩
  have h1 : lp (fun st : Int32 × Sg => bX7_standsFor_67 M p1 (nI i) (nI (mk8 (o i))) st.1 st.2) (0, σ) = some υ := h1
  obtain ⟨hM, hr⟩ := h3
  have hr : ∀ j, j < 8 → υ.1 (M + 34) j = nI (wEa o (i + 1) j) := fun j hj => by rw [hr j hj, if_pos hj]
  rw [h1, Option.bind_some, bits_v, Option.bind_some]
  dsimp only
  have s5 : ∀ j, 56 ≤ j → j ≤ 60 → (M + 0 = M + 34 ∨ M = M ∧ 56 ≤ j ∧ j ≤ 60) := fun j a b => Or.inr ⟨rfl, a, b⟩
  have F1 := h2.wI (k := M) (i := 56) (v := nI (wAl o (i + 1))) (Or.inr ⟨rfl, by omega, by omega⟩)
  have F2 := F1.wI (k := M) (i := 58) (v := nI (mk8 (wEv o (i + 1)))) (Or.inr ⟨rfl, by omega, by omega⟩)
  have e56 : υ.1 M 56 + nI (cnt8 (o i)) = nI (wAl o (i + 1)) := by rw [hM, w2, nI_add]; rfl
  have e58 : (wI υ M 56 (nI (wAl o (i + 1)))).1 M 58 ||| nI (mk8 (o i)) = nI (mk8 (wEv o (i + 1))) := by rw [wI_k, upd_n (by omega), hM, w4, mk8_or]; rfl
  rw [e56, e58]
  -- the end
  have E : ∀ ω, Fs (fun k j => k = M + 34 ∨ k = M ∧ 56 ≤ j ∧ j ≤ 60) σ ω → (∀ j, j < 8 → ω.1 (M + 34) j = nI (wEa o (i + 1) j)) → ω.1 M 56 = nI (wAl o (i + 1)) → ω.1 M 57 = fsI (wFs o (i + 1)) → ω.1 M 58 = nI (mk8 (wEv o (i + 1))) → ω.1 M 59 = nI (wPh o i) → ω.1 M 60 = nI (wPk o i) → ∃ τ, Fs (fun k j => k = M + 34 ∨ k = M ∧ 56 ≤ j ∧ j ≤ 60) σ τ ∧ jX7_standsFor_135 M p1 (nI i) (nI (mk8 (o i))) ω = some (.inl (nI (i + 1), τ)) ∧ MW τ M o (i + 1) := by
    intro ω hF v1 v2 v3 v4 v5 v6
    unfold jX7_standsFor_135 jX7_standsFor_162
    rw [bits_v, Option.bind_some]
    dsimp only
    rw [v6]
    have hp := wPk_le o i
    have hc := cnt8_le (o i)
    have ep : wPk o (i + 1) = if wPk o i < cnt8 (o i) then cnt8 (o i) else wPk o i := rfl
    have eh : wPh o (i + 1) = if wPk o i < cnt8 (o i) then i else wPh o i := rfl
    by_cases q : wPk o i < cnt8 (o i)
    · rw [if_pos ((nI_ltI (by omega) (by omega)).mpr q), bits_v, Option.bind_some]
      dsimp only
      rw [nI_s]
      rw [if_pos q] at ep eh
      refine ⟨_, (hF.wI (k := M) (i := 59) (v := nI i) (Or.inr ⟨rfl, by omega, by omega⟩)).wI (k := M) (i := 60) (v := nI (cnt8 (o i))) (Or.inr ⟨rfl, by omega, by omega⟩), rfl, ?_, ?_, ?_, ?_, ?_, ?_⟩
      · intro j hj; rw [wI_n (by omega), wI_n (by omega)]; exact v1 j hj
      · rw [wI_k, upd_n (by omega), wI_k, upd_n (by omega)]; exact v2
      · rw [wI_k, upd_n (by omega), wI_k, upd_n (by omega)]; exact v3
      · rw [wI_k, upd_n (by omega), wI_k, upd_n (by omega)]; exact v4
      · rw [wI_k, upd_n (by omega), wI_k, upd_k, eh]
      · rw [wI_k, upd_k, ep]
    · rw [if_neg (fun z => q ((nI_ltI (by omega) (by omega)).mp z)), nI_s]
      rw [if_neg q] at ep eh
      exact ⟨ω, hF, rfl, v1, v2, v3, v4, by rw [eh]; exact v5, by rw [ep]; exact v6⟩
  have r2 : ∀ j, j < 8 → (wI (wI υ M 56 (nI (wAl o (i + 1)))) M 58 (nI (mk8 (wEv o (i + 1))))).1 (M + 34) j = nI (wEa o (i + 1) j) := fun j hj => by rw [wI_n (by omega), wI_n (by omega)]; exact hr j hj
  have f57 : (wI (wI υ M 56 (nI (wAl o (i + 1)))) M 58 (nI (mk8 (wEv o (i + 1))))).1 M 57 = fsI (wFs o i) := by rw [wI_k, upd_n (by omega), wI_k, upd_n (by omega), hM, w3]
  have f56 : (wI (wI υ M 56 (nI (wAl o (i + 1)))) M 58 (nI (mk8 (wEv o (i + 1))))).1 M 56 = nI (wAl o (i + 1)) := by rw [wI_k, upd_n (by omega), wI_k, upd_k]
  have f58 : (wI (wI υ M 56 (nI (wAl o (i + 1)))) M 58 (nI (mk8 (wEv o (i + 1))))).1 M 58 = nI (mk8 (wEv o (i + 1))) := by rw [wI_k, upd_k]
  have f59 : (wI (wI υ M 56 (nI (wAl o (i + 1)))) M 58 (nI (mk8 (wEv o (i + 1))))).1 M 59 = nI (wPh o i) := by rw [wI_k, upd_n (by omega), wI_k, upd_n (by omega), hM, w5]
  have f60 : (wI (wI υ M 56 (nI (wAl o (i + 1)))) M 58 (nI (mk8 (wEv o (i + 1))))).1 M 60 = nI (wPk o i) := by rw [wI_k, upd_n (by omega), wI_k, upd_n (by omega), hM, w6]
  have ef : wFs o (i + 1) = if (wFs o i).isSome = true then wFs o i else if mk8 (o i) = 0 then none else some i := rfl
  have m0 : nI (mk8 (o i)) = 0 ↔ mk8 (o i) = 0 := by have := mk8_lt (o i); exact nI_eq (b := 0) (by omega) (by omega)
  rw [f57]
  by_cases q0 : mk8 (o i) = 0
  · rw [if_pos (m0.mpr q0)]
    refine E _ F2 r2 f56 ?_ f58 f59 f60
    rw [f57, ef, if_pos q0]
    cases h : wFs o i with
    | none => rfl
    | some j => rfl
  · rw [if_neg (fun z => q0 (m0.mp z))]
    by_cases q1 : (wFs o i).isSome = true
    · rw [if_pos ((fsI_0 (by omega)).mpr q1)]
      refine E _ F2 r2 f56 ?_ f58 f59 f60
      rw [f57, ef, if_pos q1]
    · rw [if_neg (fun z => q1 ((fsI_0 (by omega)).mp z))]
      refine E _ (F2.wI (k := M) (i := 57) (v := nI i) (Or.inr ⟨rfl, by omega, by omega⟩)) (fun j hj => by rw [wI_n (by omega)]; exact r2 j hj) ?_ ?_ ?_ ?_ ?_
      · rw [wI_k, upd_n (by omega)]; exact f56
      · rw [wI_k, upd_k, ef, if_neg q1, if_neg q0]; rfl
      · rw [wI_k, upd_n (by omega)]; exact f58
      · rw [wI_k, upd_n (by omega)]; exact f59
      · rw [wI_k, upd_n (by omega)]; exact f60
theorem standsFor_v (h : MS σ M ℓ n m bo dr lb lf) (hv : RV n m (σ.1 (M + 31))) {sd st lo : Int32} (h9 : σ.1 M 49 = sd) (h10 : σ.1 M 50 = st) (h11 : σ.1 M 51 = lo) {k : Nat} (hk : k ≤ 72) : ∃ τ, Fs (SQ2 M) σ τ ∧ fX7_standsFor M (nI k) σ = some τ ∧ τ.1 (M + 31) = hIt (hourS n m bo dr lb lf sd st lo) k (σ.1 (M + 31)) ∧ MW τ M (oH n (hourS n m bo dr lb lf sd st lo) (σ.1 (M + 31))) k := by
  have keep : ∀ j, 49 ≤ j → j ≤ 51 → ∀ υ, Fs (SQ2 M) σ υ → υ.1 M j = σ.1 M j := fun j h1 h2 υ q => q.1 _ _ (fun z => by unfold SQ2 SR SV SLw at z; omega)
  obtain ⟨σ6, z1, z2, z3⟩ := lp_inv (f := fun st : Int32 × Sg => bX7_standsFor_2 M (nI k) st.1 st.2) 8 (fun i τ => Fs (fun k j => k = M + 34) σ τ ∧ ∀ j, j < i → τ.1 (M + 34) j = 0) (fun i τ hi hI => by
      obtain ⟨hF, hr⟩ := hI
      refine ⟨wI τ (M + 34) i 0, ?_, hF.wI rfl, fun j hj => ?_⟩
      · show bX7_standsFor_2 M (nI k) (nI i) τ = _
        unfold bX7_standsFor_2
        rw [if_neg (show ¬ (8 : Int32) ≤ nI i from le_nI (a := 8) (by omega) (by omega) (by omega))]
        simp (disch := omega) only [vif, nI_clamp]
        rw [nI_s]
      · rw [wI_k]
        by_cases q : j = i
        · subst q; rw [upd_k]
        · rw [upd_n q]; exact hr j (by omega)) (fun τ hI => by
      show bX7_standsFor_2 M (nI k) (nI 8) τ = _
      unfold bX7_standsFor_2
      rw [if_pos (show (8 : Int32) ≤ nI 8 by decide)]) ⟨Fs.rf, fun j hj => by omega⟩
  have z1 : lp (fun st : Int32 × Sg => bX7_standsFor_2 M (nI k) st.1 st.2) (0, σ) = some σ6 := z1
  have z0 := z2
  have z2 : Fs (SQ2 M) σ σ6 := z2.mo (fun _ _ q => Or.inr (Or.inl q))
  have s5 : ∀ j, 56 ≤ j → j ≤ 60 → SQ2 M M j := fun j a b => Or.inr (Or.inr ⟨rfl, a, b⟩)
  have F11 := ((((z2.wI (v := 0) (s5 56 (by omega) (by omega))).wI (v := -2) (s5 57 (by omega) (by omega))).wI (v := 0) (s5 58 (by omega) (by omega))).wI (v := 0) (s5 59 (by omega) (by omega))).wI (v := 0) (s5 60 (by omega) (by omega))
  have r11 : ∀ υ, Fs (SQ2 M) σ υ → MS υ M ℓ n m bo dr lb lf := fun υ q => h.sq (q.mo (fun _ _ => SQ2_SQ))
  generalize hσ : wI (wI (wI (wI (wI σ6 M 56 0) M 57 (-2)) M 58 0) M 59 0) M 60 0 = σ11 at F11
  have row11 : σ11.1 (M + 31) = σ.1 (M + 31) := by
    rw [← hσ, wI_n (by omega), wI_n (by omega), wI_n (by omega), wI_n (by omega), wI_n (by omega)]
    exact z0.row (fun j => by omega)
  have w11 : MW σ11 M (oH n (hourS n m bo dr lb lf sd st lo) (σ.1 (M + 31))) 0 := by
    rw [← hσ]
    refine ⟨fun j hj => ?_, ?_, ?_, ?_, ?_, ?_⟩
    · rw [wI_n (by omega), wI_n (by omega), wI_n (by omega), wI_n (by omega), wI_n (by omega), z3 j hj]; rfl
    · simp only [wI_k]; rw [upd_n (by omega), upd_n (by omega), upd_n (by omega), upd_n (by omega), upd_k]; rfl
    · simp only [wI_k]; rw [upd_n (by omega), upd_n (by omega), upd_n (by omega), upd_k]; rfl
    · simp only [wI_k]; rw [upd_n (by omega), upd_n (by omega), upd_k]; exact ((mk8_z _).mpr (fun _ _ => rfl)).symm
    · simp only [wI_k]; rw [upd_n (by omega), upd_k]; rfl
    · simp only [wI_k]; rw [upd_k]; rfl
  obtain ⟨τ, k1, k2, k3, k4, k5⟩ := lp_inv (f := fun st : Int32 × Sg => bX7_standsFor_49 M (nI k) st.1 st.2) k (fun i τ => Fs (SQ2 M) σ τ ∧ τ.1 (M + 31) = hIt (hourS n m bo dr lb lf sd st lo) i (σ.1 (M + 31)) ∧ RV n m (τ.1 (M + 31)) ∧ MW τ M (oH n (hourS n m bo dr lb lf sd st lo) (σ.1 (M + 31))) i) (fun i τ hi hI => by
      obtain ⟨hF, hr, hv', hw⟩ := hI
      obtain ⟨υ, g1, g2, g3⟩ := hourGoes_v (r11 τ hF) hv'.2.1
      rw [keep 49 (by omega) (by omega) _ hF, keep 50 (by omega) (by omega) _ hF, keep 51 (by omega) (by omega) _ hF, h9, h10, h11] at g3
      have Fυ := hF.tr (g1.mo (fun _ _ q => Or.inl q))
      have hrow : υ.1 (M + 31) = hIt (hourS n m bo dr lb lf sd st lo) (i + 1) (σ.1 (M + 31)) := by rw [g3, hr]; rfl
      have hwυ : MW υ M (oH n (hourS n m bo dr lb lf sd st lo) (σ.1 (M + 31))) i := by
        have e : ∀ j, 56 ≤ j → j ≤ 60 → υ.1 M j = τ.1 M j := fun j a b => g1.1 _ _ (SR_r (by omega) (by omega) (by omega) (by omega) (by omega))
        have e34 : υ.1 (M + 34) = τ.1 (M + 34) := g1.row (fun j => SR_r (by omega) (by omega) (by omega) (by omega) (by omega))
        obtain ⟨w1, w2, w3, w4, w5, w6⟩ := hw
        exact ⟨by rw [e34]; exact w1, by rw [e 56 (by omega) (by omega)]; exact w2, by rw [e 57 (by omega) (by omega)]; exact w3, by rw [e 58 (by omega) (by omega)]; exact w4, by rw [e 59 (by omega) (by omega)]; exact w5, by rw [e 60 (by omega) (by omega)]; exact w6⟩
      obtain ⟨ω, c1, c2, c3⟩ := stand_step (i := i) (by omega) (nI k) hwυ
      have ro : ω.1 (M + 31) = υ.1 (M + 31) := c1.row (fun j => by omega)
      refine ⟨ω, ?_, Fυ.tr (c1.mo (fun _ _ q => Or.inr q)), by rw [ro]; exact hrow, ?_, c3⟩
      · show bX7_standsFor_49 M (nI k) (nI i) τ = _
        unfold bX7_standsFor_49
        rw [if_neg (le_nI (by omega) (by omega) hi), g2, Option.bind_some, soBits_v (r11 υ Fυ).1 2, Option.bind_some, hrow]
        exact c2
      · rw [ro, g3]; exact rv_hourS sd st lo h.1.2.2.1 h.1.2.2.2.2.1 hv') (fun τ hI => by
      show bX7_standsFor_49 M (nI k) (nI k) τ = _
      unfold bX7_standsFor_49
      rw [if_pos (Int32.le_refl _)]) ⟨F11, row11, by rw [row11]; exact hv, w11⟩
  have k1 : lp (fun st : Int32 × Sg => bX7_standsFor_49 M (nI k) st.1 st.2) (0, σ11) = some τ := k1
  refine ⟨τ, k2, ?_, k3, k5⟩
  unfold fX7_standsFor
  rw [z1, Option.bind_some]
  dsimp only
  rw [hσ, k1]
  rfl
end MSTAND
