section MTELL3
variable {M L p s b side : Nat} {σ τ υ : Sg} {C : Nat → Nat} {X Y : TS}
theorem MTY.ml {la : Option (Nat × Nat)} (h : MTY σ M side X s b) : MTY σ M side (mkT X.n X.m X.sd X.nm X.go X.co X.tp X.dr X.bx X.bo X.lb X.lf la) s b := h
theorem m_spareT (hL : L ≤ 2000) (h : MTX σ M C L side X p s b) (hk : kdT C L p = 1) (hm : ¬ X.m = 6) : ∃ τ, ((fX7_roomFor M (nI X.m) (6 : Int32) σ).bind (fun σ20 => if (σ20.1 M 13) = 0 then ((fX7_tellSpare M σ20).bind (fun σ25 => some σ25)) else (some σ20))) = some τ ∧ MR1 σ τ M C L side (mapT (tksS (kdT C L) [1, 20, 20, 22] p) (spX (vlV C L) X p)) := by
  have hs2 := h.2.2.2.1.2
  have hm6 := h.2.2.2.2.2.1.2
  unfold fX7_roomFor jX7_roomFor_10
  obtain ⟨τ1, a1, a2, a3⟩ := m_on h hk (by omega)
  rw [if_neg (show ¬ nI X.m = 6 from ne_nI (b := 6) (by omega) (by omega) hm), h.1.1.2.2.2.2, if_pos rfl, a1, Option.bind_some, Option.bind_some]
  have f1 : FJ (SMt M side) (fun k => k = M + 8) σ τ1 := fj_M a2 (fun k j q => by omega)
  cases q1 : tkS (kdT C L) 1 p with
  | error e =>
    obtain ⟨e, q⟩ := e
    rw [q1] at a3
    rw [if_neg a3.n.1]
    exact ⟨τ1, rfl, m_errT a3 f1 q1⟩
  | ok p1 =>
    rw [q1] at a3
    obtain ⟨e1, T1⟩ := a3
    have h3 := T1.2.2.1
    rw [T1.1.1.2.2.2.2, if_pos rfl]
    unfold fX7_tellSpare
    rw [T1.2.2.2.1.1]
    simp (disch := omega) only [vif, nI_clamp]
    rw [T1.2.2.2.2.2.1.1, k6, nI_add]
    obtain ⟨r, τ2, b1, b2, b3⟩ := m_known hL T1.1 T1.2.1 T1.2.2.2.2.1.2.2 T1.2.2.2.2.1.2.1 T1.2.2.2.2.2.2.2.2.1
    rw [b1, Option.bind_some]
    simp (disch := omega) only [vif, nI_clamp]
    have f2 := f1.tr (fj_M (M := M) (side := side) b2 (fun k j q => by omega))
    have hF3 : Fs (fun x j => x = M + 15 ∧ j = 6 * side + X.m) τ2 (wI τ2 (M + 15) (6 * side + X.m) r) := Fs.rf.wI ⟨rfl, rfl⟩
    have v15 : (wI τ2 (M + 15) (6 * side + X.m) r).1 (M + 15) (6 * side + X.m) = r := by rw [wI_k, upd_k]
    generalize wI τ2 (M + 15) (6 * side + X.m) r = τ3 at hF3 v15
    have f3 : FJ (SMt M side) (fun k => k = M + 8) σ τ3 := f2.tr (hF3.mo (fun x j q => Or.inr (Or.inr (Or.inr (Or.inr (Or.inl ⟨by omega, by omega, by omega⟩)))))).fj
    have failb : ∀ (υ : Sg) (x : Int32) (e q : Nat), MF υ M C L e q → FJ (SMt M side) (fun k => k = M + 8) σ υ → ∃ τ, (((fX7_must M (4 : Int32) (wI υ (M + 16) (6 * side + X.m) x)).bind (fun σ20 => if (σ20.1 M 13) = 0 then (if vin (σ20.1 M 19) 2 then ((let σ26 := wI σ20 (M + 14) (((σ20.1 M 19)).toNatClampNeg) ((σ20.1 (M + 14) (((σ20.1 M 19)).toNatClampNeg)) + (1 : Int32)); some σ26)) else none) else (some σ20))).bind (fun σ25 => some σ25)) = some τ ∧ FJ (SMt M side) (fun k => k = M + 8) σ τ ∧ MF τ M C L e q := fun υ x e q hf hF => by
      have hF2 : Fs (fun x j => x = M + 16 ∧ j = 6 * side + X.m) υ (wI υ (M + 16) (6 * side + X.m) x) := Fs.rf.wI ⟨rfl, rfl⟩
      have g2 := hf.fs hF2 (fun j y z => by omega)
      rw [must_F g2, Option.bind_some, if_neg g2.n.1]
      exact ⟨_, rfl, hF.tr (hF2.mo (fun x j q => Or.inr (Or.inr (Or.inr (Or.inr (Or.inl ⟨by omega, by omega, by omega⟩)))))).fj, g2⟩
    cases q2 : tkS (kdT C L) 20 p1 with
    | error e =>
      obtain ⟨e, q⟩ := e
      rw [q2] at b3
      have g3 := b3.1.fs hF3 (fun j y z => by omega)
      rw [known_F g3, Option.bind_some]
      obtain ⟨τ, x1, x2, x3⟩ := failb τ3 (-1) e q g3 f3
      exact ⟨τ, x1, m_okT (m_errT x3 x2 q2) q1⟩
    | ok p2 =>
      rw [q2] at b3
      obtain ⟨b4, b5, b6⟩ := b3
      have hl2 := tkS_l q2
      have Y3 : MTY τ3 M side X s b := (T1.2.2.2.fs b2 (fun x j q => by omega)).fs hF3 (fun x j q => by omega)
      have L3 := b5.n15 hF3 (fun x j q => Or.inr (by omega))
      have A3 := b6.fs hF3 (fun j y z => by omega)
      obtain ⟨r', τ4, c1, c2, c3⟩ := m_known hL L3 A3 Y3.2.1.2.2 Y3.2.1.2.1 Y3.2.2.2.2.2.1
      rw [c1, Option.bind_some]
      dsimp only
      have f4 := f3.tr (fj_M (M := M) (side := side) c2 (fun k j q => by omega))
      have v15' : τ4.1 (M + 15) (6 * side + X.m) = r := (c2.1 _ _ (by omega)).trans v15
      cases q3 : tkS (kdT C L) 20 p2 with
      | error e =>
        obtain ⟨e, q⟩ := e
        rw [q3] at c3
        obtain ⟨τ, x1, x2, x3⟩ := failb τ4 r' e q c3.1 f4
        exact ⟨τ, x1, m_okT (m_okT (m_errT x3 x2 q3) q2) q1⟩
      | ok p3 =>
        rw [q3] at c3
        obtain ⟨c4, c5, c6⟩ := c3
        have hl3 := tkS_l q3
        have hF5 : Fs (fun x j => x = M + 16 ∧ j = 6 * side + X.m) τ4 (wI τ4 (M + 16) (6 * side + X.m) r') := Fs.rf.wI ⟨rfl, rfl⟩
        have v16 : (wI τ4 (M + 16) (6 * side + X.m) r').1 (M + 16) (6 * side + X.m) = r' := by rw [wI_k, upd_k]
        have v15'' : (wI τ4 (M + 16) (6 * side + X.m) r').1 (M + 15) (6 * side + X.m) = r := by rw [wI_n (by omega)]; exact v15'
        generalize wI τ4 (M + 16) (6 * side + X.m) r' = τ5 at hF5 v16 v15''
        have f5 : FJ (SMt M side) (fun k => k = M + 8) σ τ5 := f4.tr (hF5.mo (fun x j q => Or.inr (Or.inr (Or.inr (Or.inr (Or.inl ⟨by omega, by omega, by omega⟩)))))).fj
        have Y5 : MTY τ5 M side X s b := (Y3.fs c2 (fun x j q => by omega)).fs hF5 (fun x j q => by omega)
        have L5 := c5.n15 hF5 (fun x j q => Or.inr (by omega))
        have A5 := c6.fs hF5 (fun j y z => by omega)
        obtain ⟨τ6, d1, d2, d3⟩ := L5.mu (k := 22) (by omega)
        have d1 : fX7_must M 4 τ5 = some τ6 := d1
        rw [d1, Option.bind_some]
        have f6 := f5.tr (fj_M (M := M) (side := side) d2 (fun k j q => by omega))
        cases q4 : tkS (kdT C L) 22 p3 with
        | error e =>
          obtain ⟨e, q⟩ := e
          rw [q4] at d3
          rw [if_neg d3.n.1]
          exact ⟨τ6, rfl, m_okT (m_okT (m_okT (m_errT d3 f6 q4) q3) q2) q1⟩
        | ok p4 =>
          rw [q4] at d3
          obtain ⟨e4, L6⟩ := d3
          have Y6 := Y5.fs d2 (fun x j q => by omega)
          rw [L6.1.2.2.2.2, if_pos rfl, Y6.1.1]
          simp (disch := omega) only [vif, nI_clamp]
          rw [Y6.2.2.1.1, nI_s]
          have hF7 : Fs (fun x j => x = M + 14 ∧ j = side) τ6 (wI τ6 (M + 14) side (nI (X.m + 1))) := Fs.rf.wI ⟨rfl, rfl⟩
          have v14 : (wI τ6 (M + 14) side (nI (X.m + 1))).1 (M + 14) side = nI (X.m + 1) := by rw [wI_k, upd_k]
          refine ⟨_, rfl, m_okT (m_okT (m_okT (m_okT (l := []) ?_ q4) q3) q2) q1⟩
          generalize wI τ6 (M + 14) side (nI (X.m + 1)) = τ7 at hF7 v14
          refine ⟨f6.tr (hF7.mo (fun x j q => Or.inr (Or.inr (Or.inl ⟨by omega, q.2⟩)))).fj, s, b, L6.n15 hF7 (fun x j q => Or.inr (by omega)), ?_, by omega, ?_⟩
          · have ela : (spX (vlV C L) X p).la = nt (nt X.la (decide (hoI X.nm X.n (vlV C L p1) = -1)) 4 p1) (decide (hoI X.nm X.n (vlV C L p2) = -1)) 4 p2 := by
              rw [hl2.1, e1]; rfl
            rw [ela]
            exact ((A5.fs d2 (fun j y z => by omega)).fs hF7 (fun j y z => by omega)).up (by omega)
          · obtain ⟨h1, h2, h3, h4, h5, h6, h7, h8, h9⟩ := Y6
            have e : ∀ k j, k ≠ M + 14 → τ7.1 k j = τ6.1 k j := fun k j z => hF7.1 _ _ (fun y => z y.1)
            refine ⟨⟨(e _ _ (by omega)).trans h1.1, h1.2⟩, ⟨(e _ _ (by omega)).trans h2.1, (e _ _ (by omega)).trans h2.2.1, h2.2.2⟩, ⟨v14, by show X.m + 1 ≤ 6; omega⟩, fun h hh => (e _ _ (by omega)).trans (h4 h hh), (e _ _ (by omega)).trans h5, fun h hh => by rw [hF7.2]; exact h6 h hh, fun h hh => ?_, fun x hx => ?_, fun k hk => ?_⟩
            · rw [e _ _ (by omega), e _ _ (by omega), e _ _ (by omega)]; exact h7 h hh
            · rw [e _ _ (by omega), e _ _ (by omega)]
              have hx : x < X.m + 1 := hx
              show τ6.1 (M + 15) (6 * side + x) = upd X.dr X.m (hoI X.nm X.n (vlV C L (p + 1))) x ∧ τ6.1 (M + 16) (6 * side + x) = upd X.bx X.m (hoI X.nm X.n (vlV C L (p + 2))) x
              by_cases z : x = X.m
              · rw [z, upd_k, upd_k, d2.1 _ _ (by omega), d2.1 _ _ (by omega), v15'', v16, b4, c4, hl2.1, e1]
                exact ⟨rfl, rfl⟩
              · rw [upd_n z, upd_n z]
                exact h8 x (by omega)
            · rw [e _ _ (by omega), e _ _ (by omega)]
              rcases h9 k hk with ⟨bb, last, a1, a2, a3, a4⟩ | r
              · exact Or.inl ⟨bb, last, a1, a2, a3, a4.mo (Nat.le_refl _) (Nat.le_refl _) (fun k j b1 b2 b3 => e _ _ (by omega)) (fun j hj => ⟨e _ _ (by omega), e _ _ (by omega)⟩)⟩
              · exact Or.inr r
end MTELL3
