section MOPS
variable {M L p s o S0 : Nat} {σ τ υ : Sg} {C : Nat → Nat} {W P R : List Nat}
theorem FA.pre {s' k q : Nat} {cmp : Option ((Sg) ⊕ ((Sg) ⊕ (Sg)))} (h : FA M C L S0 s' τ cmp k q) (hF : Fs (SE M S0 s) σ τ) (hs : s ≤ s') : FA M C L S0 s σ cmp k q := by
  obtain ⟨x, υ, h1, h2, h3, h4⟩ := h
  exact ⟨x, υ, h1, h2, h3, hF.tr (h4.mo (fun k j q => SE_mo hs q))⟩
theorem FA.eq {k q : Nat} {cmp cmp' : Option ((Sg) ⊕ ((Sg) ⊕ (Sg)))} (h : FA M C L S0 s σ cmp k q) (e : cmp' = cmp) : FA M C L S0 s σ cmp' k q := by rw [e]; exact h
theorem push27 {w : Nat} (h : MC σ M S0 p s W) (hF : Fs (fun k j => k = M ∧ (j = 11 ∨ j = 12 ∨ j = 13 ∨ j = 14)) σ τ) (hw : okW w) (hl : W.length + 1 ≤ 24) {p' : Nat} (hp : p' ≤ 400) (hb : s + W.length + 1 ≤ S0 + p') : MC (wI (wI τ (M + 27) W.length (nI w)) M 43 (nI (W.length + 1))) M S0 p' s (w :: W) := by
  obtain ⟨h1, h2, h3, h4, h5, h6, h7, h8⟩ := h
  refine ⟨?_, ?_, ⟨?_, ?_⟩, by show s + (W.length + 1) ≤ _; omega, fun x hx => ?_, by show W.length + 1 ≤ _; omega, h7, hp⟩
  · rw [wI_k, upd_n (by omega), wI_n (by omega), hF.1 _ _ (by omega)]; exact h1
  · rw [wI_k, upd_k]; rfl
  · rw [wI_n (by omega), wI_k, upd_k]
  · rw [wI_n (by omega), wI_k]
    refine WS_c h3 (fun j hj => ?_)
    rw [upd_n (by omega), hF.1 _ _ (by omega)]
  · rcases List.mem_cons.mp hx with z | z
    · rw [z]; exact hw
    · exact h5 x z
/-- a bracket opens -/
theorem m_open (h : MT σ M C L S0 p s o W) (hk : kdT C L p = 29) (ho : o < 6) (hp : p < 400) (hl : W.length + 1 ≤ 24) : ∃ τ, opnd M σ = opnd M τ ∧ MT τ M C L S0 (p + 1) s (o + 1) (6 :: W) ∧ Fs (SE M S0 s) σ τ := by
  obtain ⟨h1, h2, h3, h4⟩ := h
  have hF1 : Fs (fun k j => k = M ∧ j = 12) σ (wI σ M 12 (nI (o + 1))) := Fs.rf.wI ⟨rfl, rfl⟩
  have hP1 : MP (wI σ M 12 (nI (o + 1))) M C L p := ⟨h1.1.fs hF1 (fun k j a1 a2 => by omega), (hF1.1 _ _ (by omega)).trans h1.2.1, h1.2.2.1, h1.2.2.2.1, (hF1.1 _ _ (by omega)).trans h1.2.2.2.2⟩
  rcases m_goesOn hP1 (by omega) with ⟨g1, g2, g3⟩ | ⟨g1, -⟩
  · have hF2 : Fs (fun k j => k = M ∧ (j = 11 ∨ j = 12 ∨ j = 13 ∨ j = 14)) σ (wI (wI σ M 12 (nI (o + 1))) M 11 (nI (p + 1))) := (hF1.mo (fun k j q => by omega)).wI (by omega)
    generalize hτ1 : wI (wI σ M 12 (nI (o + 1))) M 11 (nI (p + 1)) = τ1 at g2 g3 hF2
    have e43 : τ1.1 M 43 = nI W.length := (hF2.1 _ _ (by omega)).trans h2.2.1
    have e12 : τ1.1 M 12 = nI (o + 1) := by rw [← hτ1, wI_k, upd_n (by omega), wI_k, upd_k]
    have hF3 : Fs (fun k j => k = M + 27 ∨ k = M ∧ j = 43) τ1 (wI (wI τ1 (M + 27) W.length (nI 6)) M 43 (nI (W.length + 1))) := (Fs.rf.wI (by omega)).wI (by omega)
    have b4 := h2.2.2.2.1
    have mc := push27 h2 hF2 (w := 6) (Or.inl rfl) hl (p' := p + 1) (by omega) (by omega)
    generalize hτ2 : wI (wI τ1 (M + 27) W.length (nI 6)) M 43 (nI (W.length + 1)) = τ2 at hF3 mc
    have st : bX7_expression_23 M 0 σ = some (Sum.inl τ2) := by
      unfold bX7_expression_23 jX7_expression_46
      rw [show fX7_is M 6 σ = some (if kdT C L p = 29 then 1 else 0, σ) from m_is h1 (k := 29) (by omega), if_pos hk, Option.bind_some]
      dsimp only
      rw [if_neg one0, h3, if_neg (show ¬ nI o = 6 from ne_nI (b := 6) (by omega) (by omega) (by omega)), nI_s, g2, Option.bind_some, e43]
      simp (disch := omega) only [vif, nI_clamp]
      rw [wI_n (by omega), e43, nI_s, ← hτ2]
      rfl
    have hP2 : MP τ2 M C L (p + 1) := ⟨g3.1.fs hF3 (fun k j a1 a2 => by omega), (hF3.1 _ _ (by omega)).trans g3.2.1, g3.2.2.1, g3.2.2.2.1, (hF3.1 _ _ (by omega)).trans g3.2.2.2.2⟩
    refine ⟨τ2, ?_, ⟨hP2, mc, (hF3.1 _ _ (by omega)).trans e12, by omega⟩, (hF2.mo (fun k j q => by unfold SE; omega)).tr (hF3.mo (fun k j q => by unfold SE; omega))⟩
    rw [op_un h1.2.2.2.2, op_un hP2.2.2.2.2, lp_l st]
  · omega
theorem m_openF (h : MT σ M C L S0 p s o W) (hk : kdT C L p = 29) (ho : o = 6 ∨ p = 400) (hl : W.length + 1 ≤ 24) : FA M C L S0 s σ (opnd M σ) 2 p := by
  obtain ⟨h1, h2, h3, h4⟩ := h
  have hp := h1.2.2.1
  -- from a state with the fault, or one that gets it
  have fin : ∀ τ0 : Sg, Fs (fun k j => k = M ∧ (j = 13 ∨ j = 14)) σ τ0 → (∃ τ1, fX7_goesOn M (wI τ0 M 12 (nI (o + 1))) = some τ1 ∧ Fs (fun k j => k = M ∧ (j = 11 ∨ j = 12 ∨ j = 13 ∨ j = 14)) σ τ1 ∧ MF τ1 M C L 2 p) → bX7_expression_23 M 0 σ = jX7_expression_46 M 0 τ0 → FA M C L S0 s σ (opnd M σ) 2 p := by
    rintro τ0 hF0 ⟨τ1, g2, hF2, g4⟩ e0
    have e43 : τ1.1 M 43 = nI W.length := (hF2.1 _ _ (by omega)).trans h2.2.1
    have e12 : τ0.1 M 12 = nI o := (hF0.1 _ _ (by omega)).trans h3
    have hF3 : Fs (fun k j => k = M + 27 ∨ k = M ∧ j = 43) τ1 (wI (wI τ1 (M + 27) W.length (nI 6)) M 43 (nI (W.length + 1))) := (Fs.rf.wI (by omega)).wI (by omega)
    have st : bX7_expression_23 M 0 σ = some (Sum.inl (wI (wI τ1 (M + 27) W.length (nI 6)) M 43 (nI (W.length + 1)))) := by
      rw [e0]
      unfold jX7_expression_46
      dsimp only
      rw [e12, nI_s, g2, Option.bind_some, e43]
      simp (disch := omega) only [vif, nI_clamp]
      rw [wI_n (by omega), e43, nI_s]
      rfl
    have f4 := g4.fs hF3 (fun j q z => by omega)
    exact op_F h1.2.2.2.2 ((lp_l st).trans (b23_F f4)) (unit_F f4) f4 ((hF2.mo (fun k j q => by unfold SE; omega)).tr (hF3.mo (fun k j q => by unfold SE; omega)))
  by_cases q6 : o = 6
  · obtain ⟨τ0, a1, a2, a3⟩ := m_fail h1 (k := 2) (Or.inr rfl)
    have a1 : fX7_fail M 2 σ = some τ0 := a1
    have f1 : MF (wI τ0 M 12 (nI (o + 1))) M C L 2 p := a3.fs (Fs.rf.wI (S := fun k j => k = M ∧ j = 12) ⟨rfl, rfl⟩) (fun j q z => by omega)
    obtain ⟨τ1, g1, g2⟩ := m_goesOnF f1 (x := p) (by rw [wI_k, upd_n (by omega), a2.1 _ _ (by omega)]; exact h1.2.1) (by omega)
    refine fin τ0 a2 ⟨τ1, g1, ((a2.mo (fun k j q => by omega)).wI (by omega)).tr (g2.mo (fun k j q => by omega)), f1.fs g2 (fun j q z => by omega)⟩ ?_
    conv => lhs; unfold bX7_expression_23
    rw [show fX7_is M 6 σ = some (if kdT C L p = 29 then 1 else 0, σ) from m_is h1 (k := 29) (by omega), if_pos hk, Option.bind_some]
    dsimp only
    rw [if_neg one0, h3, if_pos (show nI o = 6 by rw [q6]; rfl), a1, Option.bind_some]
  · have hF1 : Fs (fun k j => k = M ∧ j = 12) σ (wI σ M 12 (nI (o + 1))) := Fs.rf.wI ⟨rfl, rfl⟩
    have hP1 : MP (wI σ M 12 (nI (o + 1))) M C L p := ⟨h1.1.fs hF1 (fun k j a1 a2 => by omega), (hF1.1 _ _ (by omega)).trans h1.2.1, h1.2.2.1, h1.2.2.2.1, (hF1.1 _ _ (by omega)).trans h1.2.2.2.2⟩
    rcases m_goesOn hP1 (by omega) with ⟨g1, -⟩ | ⟨-, τ1, g2, g3, g4⟩
    · omega
    · refine fin σ Fs.rf ⟨τ1, g2, (hF1.mo (fun k j q => by omega)).tr (g3.mo (fun k j q => by omega)), g4⟩ ?_
      conv => lhs; unfold bX7_expression_23
      rw [show fX7_is M 6 σ = some (if kdT C L p = 29 then 1 else 0, σ) from m_is h1 (k := 29) (by omega), if_pos hk, Option.bind_some]
      dsimp only
      rw [if_neg one0, h3, if_neg (show ¬ nI o = 6 from ne_nI (b := 6) (by omega) (by omega) q6)]
theorem b96_n (h : MP σ M C L p) (hk : ¬ kdT C L p = 30 ∨ σ.1 M 12 ≤ 0) : lp (bX7_expression_96 M 0) σ = some σ := by
  refine lp_r ?_
  unfold bX7_expression_96
  rw [show fX7_is M 7 σ = some (if kdT C L p = 30 then 1 else 0, σ) from m_is h (k := 30) (by omega), Option.bind_some]
  dsimp only
  by_cases q : kdT C L p = 30
  · rw [if_pos q, if_neg one0, if_pos (hk.resolve_left (fun z => z q))]
  · rw [if_neg q, if_pos rfl]
theorem b96_F {k q : Nat} (h : MF σ M C L k q) : lp (bX7_expression_96 M 0) σ = some σ := by
  refine lp_r ?_
  unfold bX7_expression_96
  rw [m_isF h.n.1, Option.bind_some]
  rfl
theorem cont_F {k q : Nat} (h : MF σ M C L k q) : contM M σ = some (Sum.inr (Sum.inr (Sum.inl σ))) := by
  unfold contM jX7_expression_186
  simp only [m_isF h.n.1, Option.bind_some]
  rfl
theorem cont_n (h : MP σ M C L p) (hk : ¬ (24 ≤ kdT C L p ∧ kdT C L p ≤ 27)) : contM M σ = some (Sum.inr (Sum.inr (Sum.inl σ))) := by
  unfold contM jX7_expression_186
  have e8 : fX7_is M 8 σ = some (0, σ) := (m_is h (k := 24) (by omega)).trans (by rw [if_neg (by omega)])
  have e9 : fX7_is M 9 σ = some (0, σ) := (m_is h (k := 25) (by omega)).trans (by rw [if_neg (by omega)])
  have e10 : fX7_is M 10 σ = some (0, σ) := (m_is h (k := 26) (by omega)).trans (by rw [if_neg (by omega)])
  have e15 : fX7_is M 15 σ = some (0, σ) := (m_is h (k := 27) (by omega)).trans (by rw [if_neg (by omega)])
  simp only [e8, e9, e10, e15, Option.bind_some]
  rfl
theorem cont_o (h : MP σ M C L p) (hk : 24 ≤ kdT C L p ∧ kdT C L p ≤ 27) : contM M σ = jX7_expression_234 M 0 1 M (if 26 ≤ kdT C L p then 1 else 0) σ := by
  unfold contM jX7_expression_181 jX7_expression_186 jX7_expression_229
  have e8 : fX7_is M 8 σ = some (if kdT C L p = 24 then 1 else 0, σ) := m_is h (k := 24) (by omega)
  have e9 : fX7_is M 9 σ = some (if kdT C L p = 25 then 1 else 0, σ) := m_is h (k := 25) (by omega)
  have e10 : fX7_is M 10 σ = some (if kdT C L p = 26 then 1 else 0, σ) := m_is h (k := 26) (by omega)
  have e15 : fX7_is M 15 σ = some (if kdT C L p = 27 then 1 else 0, σ) := m_is h (k := 27) (by omega)
  simp only [e8, e9, e10, e15, Option.bind_some, if_neg one0]
  rcases (show kdT C L p = 24 ∨ kdT C L p = 25 ∨ kdT C L p = 26 ∨ kdT C L p = 27 by omega) with q | q | q | q <;> rw [q] <;> simp
/-- what stands behind reading: the end of an expression -/
theorem fin_204 (h : MC σ M S0 p s W) : ∃ τ, jX7_expression_204 M σ = some τ ∧ Fs (SE M S0 s) σ τ ∧ ∀ j, j ≠ 39 → j ≠ 43 → τ.1 M j = σ.1 M j := by
  obtain ⟨τ, W', s', a1, a2, a3, a4⟩ := m_outT W σ s h
  exact ⟨τ, by unfold jX7_expression_204; rw [a1]; rfl, a2, a4⟩
theorem fin_F {k q : Nat} (hf : MF σ M C L k q) (h : MC σ M S0 p s W) : ∃ τ, finM M (Sum.inr (Sum.inl σ)) = some τ ∧ MF τ M C L k q ∧ Fs (SE M S0 s) σ τ := by
  obtain ⟨τ, a1, a2, a3⟩ := fin_204 h
  refine ⟨τ, ?_, ⟨(a3 13 (by omega) (by omega)).trans hf.1, (a3 14 (by omega) (by omega)).trans hf.2.1, hf.2.2⟩, a2⟩
  show (if (σ.1 M 12) ≤ 0 then (jX7_expression_204 M σ) else ((fX7_fail M (1 : Int32) σ).bind (fun σ104 => jX7_expression_204 M σ104))) = some τ
  rw [m_failF hf.n.2, Option.bind_some, a1]
  split <;> rfl
/-- a sign between two sides -/
theorem m_op (h : MT σ M C L S0 p s o (P ++ R)) (hk : 24 ≤ kdT C L p ∧ kdT C L p ≤ 27) (hP : ∀ w, w ∈ P → (w = 8 ∨ w = 9 ∨ w = 10 ∨ w = 15) ∧ (26 ≤ kdT C L p → w = 10 ∨ w = 15)) (hR : R = [] ∨ ∃ w r, R = w :: r ∧ (w = 6 ∨ 26 ≤ kdT C L p ∧ (w = 8 ∨ w = 9))) (hl : R.length + 1 ≤ 24) : (p < 400 ∧ ∃ τ, aftL M σ = opnd M τ ∧ MT τ M C L S0 (p + 1) (s + P.length) o (mkd (kdT C L p) :: R) ∧ segM (τ.1 (M + 25)) (τ.1 (M + 26)) s (flu P) ∧ Fs (SE M S0 s) σ τ) ∨ (p = 400 ∧ FA M C L S0 s σ (aftL M σ) 2 p) := by
  obtain ⟨h1, h2, h3, h4⟩ := h
  have hp := h1.2.2.1
  have hm := mk_lt _ (kd_lt C L p)
  have wk : okW (mkd (kdT C L p)) := by
    rcases (show kdT C L p = 24 ∨ kdT C L p = 25 ∨ kdT C L p = 26 ∨ kdT C L p = 27 by omega) with q | q | q | q <;> rw [q] <;> unfold okW <;> decide
  have p1e : ∀ q : Prop, [Decidable q] → (¬ (if q then (1 : Int32) else 0) = 0 ↔ q) := fun q _ => by
    by_cases z : q
    · rw [if_pos z]; exact ⟨fun _ => z, fun _ => one0⟩
    · rw [if_neg z]; exact ⟨fun y => absurd rfl y, fun y => absurd y z⟩
  obtain ⟨τ0, a1, a2, a3, a4, a5⟩ := m_out (M := M) (S0 := S0) (p := p) (if 26 ≤ kdT C L p then 1 else 0) (R := R) (by
    rcases hR with q | ⟨w, r, q1, q2⟩
    · exact Or.inl q
    · refine Or.inr ⟨w, r, q1, ?_⟩
      rcases q2 with q2 | q2
      · exact Or.inl q2
      · exact Or.inr ⟨(p1e _).mpr q2.1, q2.2⟩) P σ s (fun w hw => ⟨(hP w hw).1, fun z => (hP w hw).2 ((p1e _).mp z)⟩) h2
  have hP0 : MP τ0 M C L p := ⟨h1.1.fs a2 (fun k j b1 b2 z => by unfold SE at z; omega), (a5 11 (by omega) (by omega)).trans h1.2.1, hp, h1.2.2.2.1, (a5 13 (by omega) (by omega)).trans h1.2.2.2.2⟩
  have hF3 : Fs (fun k j => k = M + 27 ∨ k = M ∧ j = 43) τ0 (wI (wI τ0 (M + 27) R.length (nI (mkd (kdT C L p)))) M 43 (nI (R.length + 1))) := (Fs.rf.wI (by omega)).wI (by omega)
  have b4 := a3.2.2.2.1
  generalize hτ1 : wI (wI τ0 (M + 27) R.length (nI (mkd (kdT C L p)))) M 43 (nI (R.length + 1)) = τ1 at hF3
  have hP1 : MP τ1 M C L p := ⟨hP0.1.fs hF3 (fun k j b1 b2 => by omega), (hF3.1 _ _ (by omega)).trans hP0.2.1, hp, h1.2.2.2.1, (hF3.1 _ _ (by omega)).trans hP0.2.2.2.2⟩
  have un : aftL M σ = ((fX7_goesOn M τ1).bind (fun σ71 => some (Sum.inl (1, σ71)))).bind (thn M) := by
    unfold aftL
    rw [b96_n h1 (Or.inl (by omega)), Option.bind_some, cont_o h1 hk]
    unfold jX7_expression_234
    rw [a1, Option.bind_some, hP0.2.1, a3.2.1]
    simp (disch := omega) only [vif, nI_clamp]
    rw [hP0.en.1, wI_n (by omega), a3.2.1, nI_s, hτ1]
  rcases m_goesOn hP1 (by omega) with ⟨g1, g2, g3⟩ | ⟨g1, τ2, g2, g3, g4⟩
  · left
    have hF4 : Fs (fun k j => k = M ∧ j = 11) τ1 (wI τ1 M 11 (nI (p + 1))) := Fs.rf.wI ⟨rfl, rfl⟩
    have fF : Fs (SE M S0 (s + P.length)) τ0 (wI τ1 M 11 (nI (p + 1))) := (hF3.mo (fun k j q => by unfold SE; omega)).tr (hF4.mo (fun k j q => by unfold SE; omega))
    refine ⟨g1, wI τ1 M 11 (nI (p + 1)), ?_, ⟨g3, ?_, ?_, h4⟩, segM_f a4 fF (by unfold flu; rw [List.length_map]; omega), a2.tr (fF.mo (fun k j q => SE_mo (by omega) q))⟩
    · rw [un, g2]; rfl
    · have := push27 a3 (Fs.rf (S := fun k j => k = M ∧ (j = 11 ∨ j = 12 ∨ j = 13 ∨ j = 14))) (w := mkd (kdT C L p)) wk hl (p' := p + 1) (by omega) (by omega)
      rw [hτ1] at this
      exact this.fs hF4 (fun j q z => by omega) (fun j z => by omega)
    · rw [hF4.1 _ _ (by omega), hF3.1 _ _ (by omega), a5 12 (by omega) (by omega)]; exact h3
  · right
    refine ⟨g1, Sum.inr (Sum.inr τ2), τ2, ?_, rfl, by rw [g1] at g4 ⊢; exact g4, a2.tr ((hF3.mo (fun k j q => by unfold SE; omega)).tr (g3.mo (fun k j q => by unfold SE; omega)))⟩
    rw [un, g2]
    show lp (F12 M) (1, τ2) = _
    refine lp_r ?_
    show bX7_expression_12 M 0 1 τ2 = _
    unfold bX7_expression_12
    rw [if_neg one0, if_neg g4.n.1]
/-- a bracket closes -/
theorem m_close (h : MT σ M C L S0 p s (o + 1) (P ++ 6 :: R)) (hk : kdT C L p = 30) (hP : ∀ w, w ∈ P → w = 8 ∨ w = 9 ∨ w = 10 ∨ w = 15) : (p < 400 ∧ ∃ τ, aftL M σ = aftL M τ ∧ MT τ M C L S0 (p + 1) (s + P.length) o R ∧ segM (τ.1 (M + 25)) (τ.1 (M + 26)) s (flu P) ∧ Fs (SE M S0 s) σ τ) ∨ (p = 400 ∧ FA M C L S0 s σ (aftL M σ) 2 p) := by
  obtain ⟨h1, h2, h3, h4⟩ := h
  have hp := h1.2.2.1
  obtain ⟨τ0, a1, a2, a3, a4, a5⟩ := m_out (M := M) (S0 := S0) (p := p) 0 (R := 6 :: R) (Or.inr ⟨6, R, rfl, Or.inl rfl⟩) P σ s (fun w hw => ⟨hP w hw, fun z => absurd rfl z⟩) h2
  have hP0 : MP τ0 M C L p := ⟨h1.1.fs a2 (fun k j b1 b2 z => by unfold SE at z; omega), (a5 11 (by omega) (by omega)).trans h1.2.1, hp, h1.2.2.2.1, (a5 13 (by omega) (by omega)).trans h1.2.2.2.2⟩
  have e12 : τ0.1 M 12 = nI (o + 1) := (a5 12 (by omega) (by omega)).trans h3
  have e43 : τ0.1 M 43 = nI (R.length + 1) := a3.2.1
  have hF3 : Fs (fun k j => k = M ∧ (j = 12 ∨ j = 43)) τ0 (wI (wI τ0 M 43 (nI R.length)) M 12 (nI o)) := (Fs.rf.wI (by omega)).wI (by omega)
  have b4 := a3.2.2.2.1
  have b6 := a3.2.2.2.2.2.1
  have hl : (6 :: R).length = R.length + 1 := rfl
  rw [hl] at b4 b6
  generalize hτ1 : wI (wI τ0 M 43 (nI R.length)) M 12 (nI o) = τ1 at hF3
  have hP1 : MP τ1 M C L p := ⟨hP0.1.fs hF3 (fun k j b1 b2 => by omega), (hF3.1 _ _ (by omega)).trans hP0.2.1, hp, h1.2.2.2.1, (hF3.1 _ _ (by omega)).trans hP0.2.2.2.2⟩
  have mc1 : ∀ p', p' ≤ 400 → p ≤ p' → MC τ1 M S0 p' (s + P.length) R := fun p' q1 q2 => ⟨(hF3.1 _ _ (by omega)).trans a3.1, by rw [← hτ1, wI_k, upd_n (by omega), wI_k, upd_k], by rw [hF3.row (fun j => by omega)]; exact a3.2.2.1.2, by omega, fun x hx => a3.2.2.2.2.1 x (List.mem_cons_of_mem _ hx), by omega, a3.2.2.2.2.2.2.1, q1⟩
  have st : bX7_expression_96 M 0 σ = (fX7_goesOn M τ1).bind (fun σ43 => some (Sum.inl σ43)) := by
    unfold bX7_expression_96
    rw [show fX7_is M 7 σ = some (if kdT C L p = 30 then 1 else 0, σ) from m_is h1 (k := 30) (by omega), if_pos hk, Option.bind_some]
    dsimp only
    rw [if_neg one0, h3, if_neg (show ¬ nI (o + 1) ≤ 0 from le_nI (b := 0) (by omega) (by omega) (by omega)), a1, Option.bind_some, e43, nI_p (by omega), show R.length + 1 - 1 = R.length by omega, wI_k, upd_n (by omega), e12, nI_p (by omega), show o + 1 - 1 = o by omega, hτ1]
  rcases m_goesOn hP1 (by omega) with ⟨g1, g2, g3⟩ | ⟨g1, τ2, g2, g3, g4⟩
  · left
    rw [g2, Option.bind_some] at st
    have hF4 : Fs (fun k j => k = M ∧ j = 11) τ1 (wI τ1 M 11 (nI (p + 1))) := Fs.rf.wI ⟨rfl, rfl⟩
    have fF : Fs (SE M S0 (s + P.length)) τ0 (wI τ1 M 11 (nI (p + 1))) := (hF3.mo (fun k j q => by unfold SE; omega)).tr (hF4.mo (fun k j q => by unfold SE; omega))
    refine ⟨g1, wI τ1 M 11 (nI (p + 1)), ?_, ⟨g3, (mc1 (p + 1) (by omega) (by omega)).fs hF4 (fun j q z => by omega) (fun j z => by omega), ?_, by omega⟩, segM_f a4 fF (by unfold flu; rw [List.length_map]; omega), a2.tr (fF.mo (fun k j q => SE_mo (by omega) q))⟩
    · unfold aftL
      rw [lp_l st]
    · rw [hF4.1 _ _ (by omega), ← hτ1, wI_k, upd_k]
  · right
    rw [g2, Option.bind_some] at st
    have mc2 : MC τ2 M S0 p (s + P.length) R := (mc1 p hp (Nat.le_refl _)).fs g3 (fun j q z => by omega) (fun j z => by omega)
    obtain ⟨τ3, f1, f2, f3⟩ := fin_F g4 mc2
    refine ⟨g1, Sum.inr (Sum.inl τ2), τ3, ?_, f1, by rw [g1] at f2 ⊢; exact f2, a2.tr (((hF3.mo (fun k j q => by unfold SE; omega)).tr (g3.mo (fun k j q => by unfold SE; omega))).tr (f3.mo (fun k j q => SE_mo (by omega) q)))⟩
    unfold aftL
    rw [lp_l st, b96_F g4, Option.bind_some, cont_F g4]
    rfl
/-- no more comes -/
theorem m_end (h : MT σ M C L S0 p s o W) (hk : ¬ (24 ≤ kdT C L p ∧ kdT C L p ≤ 27)) (hc : ¬ kdT C L p = 30 ∨ o = 0) : aftL M σ = some (Sum.inr (Sum.inl σ)) := by
  unfold aftL
  rw [b96_n h.1 (by
    rcases hc with q | q
    · exact Or.inl q
    · right; rw [h.2.2.1, q]; decide), Option.bind_some, cont_n h.1 hk]
  rfl
theorem m_endF (h : MT σ M C L S0 p s o W) (hk : ¬ (24 ≤ kdT C L p ∧ kdT C L p ≤ 27)) (hc : ¬ kdT C L p = 30) (ho : 0 < o) : FA M C L S0 s σ (aftL M σ) 1 p := by
  obtain ⟨τ, a1, a2, a3⟩ := m_fail h.1 (k := 1) (Or.inl rfl)
  have a1 : fX7_fail M 1 σ = some τ := a1
  obtain ⟨τ2, b1, b2, b3⟩ := fin_204 (h.2.1.fs a2 (fun j q z => by omega) (fun j z => by omega))
  refine ⟨_, τ2, m_end h hk (Or.inl hc), ?_, ⟨(b3 13 (by omega) (by omega)).trans a3.1, (b3 14 (by omega) (by omega)).trans a3.2.1, a3.2.2⟩, (a2.mo (fun k j q => by unfold SE; omega)).tr b2⟩
  show (if (σ.1 M 12) ≤ 0 then (jX7_expression_204 M σ) else ((fX7_fail M (1 : Int32) σ).bind (fun σ104 => jX7_expression_204 M σ104))) = some τ2
  have := h.2.2.2
  rw [h.2.2.1, if_neg (show ¬ nI o ≤ 0 from le_nI (b := 0) (by omega) (by omega) ho), a1, Option.bind_some, b1]
end MOPS
