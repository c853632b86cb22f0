section MTELL2
variable {M L p s b side : Nat} {σ τ υ : Sg} {C : Nat → Nat} {X Y : TS}
theorem SMt0 {j : Nat} (h : 11 ≤ j ∧ j ≤ 16 ∨ j = 20 ∨ j = 33 ∨ j = 39 ∨ j = 43) : SMt M side M j := Or.inl ⟨rfl, h⟩
theorem fj_M {S : Nat → Nat → Prop} (hF : Fs S σ τ) (hS : ∀ k j, S k j → k = M ∧ 11 ≤ j ∧ j ≤ 16) : FJ (SMt M side) (fun k => k = M + 8) σ τ := (hF.mo (fun k j q => by obtain ⟨q1, q2⟩ := hS k j q; exact Or.inl ⟨q1, Or.inl q2⟩)).fj
/-- the tokens' fault -/
theorem m_errT {e q : Nat} {l : List Nat} {k : Nat} (hf : MF τ M C L e q) (hF : FJ (SMt M side) (fun k => k = M + 8) σ τ) (ht : tkS (kdT C L) k p = .error (e, q)) : MR1 σ τ M C L side (mapT (tksS (kdT C L) (k :: l) p) Y) := by
  refine ⟨hF, ?_⟩
  show match mapT (match tkS (kdT C L) k p with
    | .error e => .error e
    | .ok q => tksS (kdT C L) l q) Y with
  | .error (e, q) => MF τ M C L e q
  | .ok (q, Y) => ∃ s b, MTX τ M C L side Y q s b
  rw [ht]
  exact hf
theorem m_okT {l : List Nat} {k q : Nat} (h : MR1 σ τ M C L side (mapT (tksS (kdT C L) l q) Y)) (ht : tkS (kdT C L) k p = .ok q) : MR1 σ τ M C L side (mapT (tksS (kdT C L) (k :: l) p) Y) := by
  obtain ⟨h1, h2⟩ := h
  refine ⟨h1, ?_⟩
  show match mapT (match tkS (kdT C L) k p with
    | .error e => .error e
    | .ok q => tksS (kdT C L) l q) Y with
  | .error (e, q) => MF τ M C L e q
  | .ok (q, Y) => ∃ s b, MTX τ M C L side Y q s b
  rw [ht]
  exact h2
theorem m_bothT (hL : L ≤ 2000) (h : MTX σ M C L side X p s b) (hk : kdT C L p = 2) : ∃ τ, ((fX7_goesOn M σ).bind (fun σ31 => (let x1_35 := (σ31.1 M 11); (fX7_known M σ31).bind (fun q40 => let r38 := q40.1; let σ37 := q40.2; if r38 < 0 then (jX7_tellOne_155 M r38 σ37) else (if vin (((8 : Int32) * (σ37.1 M 19)) + r38) 16 then (if (σ37.1 (M + 13) (((((8 : Int32) * (σ37.1 M 19)) + r38)).toNatClampNeg)) = 0 then (jX7_tellOne_155 M r38 σ37) else ((fX7_wrong M (3 : Int32) x1_35 σ37).bind (fun σ52 => jX7_tellOne_155 M r38 σ52))) else none))))) = some τ ∧ MR1 σ τ M C L side (mapT (tksS (kdT C L) [2, 20, 22] p) (boX (vlV C L) X p)) := by
  have hs2 := h.2.2.2.1.2
  obtain ⟨τ1, a1, a2, a3⟩ := m_on h hk (by omega)
  rw [a1, Option.bind_some]
  dsimp only
  have f1 : FJ (SMt M side) (fun k => k = M + 8) σ τ1 := fj_M a2 (fun k j q => by omega)
  have failb : ∀ (υ : Sg) (e q : Nat), MF υ M C L e q → jX7_tellOne_155 M (-1) υ = some υ := fun υ e q hf => by
    unfold jX7_tellOne_155
    rw [must_F hf, Option.bind_some, if_pos (by decide)]
  cases q1 : tkS (kdT C L) 2 p with
  | error e =>
    obtain ⟨e, q⟩ := e
    rw [q1] at a3
    rw [known_F a3, Option.bind_some]
    dsimp only
    rw [if_pos (by decide), failb τ1 e q a3]
    exact ⟨τ1, rfl, m_errT a3 f1 q1⟩
  | ok p1 =>
    rw [q1] at a3
    obtain ⟨e1, T1⟩ := a3
    obtain ⟨r, τ2, b1, b2, b3⟩ := m_known hL T1.1 T1.2.1 T1.2.2.2.2.1.2.2 T1.2.2.2.2.1.2.1 T1.2.2.2.2.2.2.2.2.1
    rw [b1, Option.bind_some]
    dsimp only
    have f2 := f1.tr (fj_M (M := M) (side := side) b2 (fun k j q => by omega))
    cases q2 : tkS (kdT C L) 20 p1 with
    | error e =>
      obtain ⟨e, q⟩ := e
      rw [q2] at b3
      rw [b3.2, if_pos (by decide), failb τ2 e q b3.1]
      exact ⟨τ2, rfl, m_okT (m_errT b3.1 f2 q2) q1⟩
    | ok p2 =>
      rw [q2] at b3
      obtain ⟨b4, b5, b6⟩ := b3
      have hl2 := tkS_l q2
      have Y2 := T1.2.2.2.fs b2 (fun x j q => by omega)
      have hn8 := Y2.2.1.2.2
      have h3 := T1.2.2.1
      rcases hoI_f X.nm X.n (vlV C L p1) hn8 with ⟨w1, w2⟩ | ⟨w, w1, w2, w3⟩
      · rw [b4, w1, if_pos (by decide)]
        unfold jX7_tellOne_155
        have eb : boX (vlV C L) X p = mkT X.n X.m X.sd X.nm X.go X.co X.tp X.dr X.bx X.bo X.lb X.lf (nt X.la (decide (hoI X.nm X.n (vlV C L p1) = -1)) 4 p1) := by
          unfold boX
          rw [← e1, if_pos w1, show (decide (¬ hoI X.nm X.n (vlV C L p1) = -1) && X.bo (hoI X.nm X.n (vlV C L p1)).toNatClampNeg) = false from by rw [decide_eq_false (fun z => z w1)]; rfl, nt_f]
        obtain ⟨υ, c1, c2⟩ := m_last (σ := σ) (Y := boX (vlV C L) X p) b5 (by rw [eb]; exact b6) (by omega) (by rw [eb]; exact Y2) f2
        rw [c1, Option.bind_some, if_pos (by decide)]
        exact ⟨υ, rfl, m_okT (m_okT c2 q2) q1⟩
      · have hw8 : w < 8 := by omega
        have hne : ¬ hoI X.nm X.n (vlV C L p1) = -1 := by
          rw [w3]
          intro y
          have : (0 : Int32) ≤ nI w := nI_n1 (by omega)
          rw [y] at this
          exact absurd this (by decide)
        rw [b4, w3, if_neg (Int32.not_lt.mpr (nI_n1 (by omega))), Y2.1.1, k8m, nI_add]
        simp (disch := omega) only [vif, nI_clamp]
        rw [Y2.2.2.2.1 w hw8, T1.1.1.2.1]
        rw [decide_eq_false hne, nt_f] at b6
        have ela : (boX (vlV C L) X p).la = nt X.la (X.bo w) 3 p1 := by
          show nt (nt X.la (decide (hoI X.nm X.n (vlV C L (p + 1)) = -1)) 4 (p + 1)) (decide (¬ hoI X.nm X.n (vlV C L (p + 1)) = -1) && X.bo (hoI X.nm X.n (vlV C L (p + 1))).toNatClampNeg) 3 (p + 1) = _
          rw [← e1, decide_eq_false hne, nt_f, decide_eq_true hne, Bool.true_and, w3, nI_clamp (by omega)]
        -- behind the note
        have j155 : ∀ υ, ML υ M C L (420 * side) (130 * side) p2 s b → LAm υ M C L p2 (nt X.la (X.bo w) 3 p1) → MTY υ M side X s b → FJ (SMt M side) (fun k => k = M + 8) σ υ → ∃ τ, jX7_tellOne_155 M (nI w) υ = some τ ∧ MR1 σ τ M C L side (mapT (tksS (kdT C L) [2, 20, 22] p) (boX (vlV C L) X p)) := by
          intro υ l1 l2 l3 l4
          unfold jX7_tellOne_155
          obtain ⟨υ2, d1, d2, d3⟩ := l1.mu (k := 22) (by omega)
          have d1 : fX7_must M 4 υ = some υ2 := d1
          have Y3 := l3.fs d2 (fun x j q => by omega)
          have f3 := l4.tr (fj_M (M := M) (side := side) d2 (fun k j q => by omega))
          rw [d1, Option.bind_some, if_neg (Int32.not_lt.mpr (nI_n1 (by omega))), Y3.1.1, k8m, nI_add]
          simp (disch := omega) only [vif, nI_clamp]
          rw [nar1]
          have hF4 : Fs (fun x j => x = M + 13 ∧ j = 8 * side + w) υ2 (wI υ2 (M + 13) (8 * side + w) 1) := Fs.rf.wI ⟨rfl, rfl⟩
          have f4 : FJ (SMt M side) (fun k => k = M + 8) σ (wI υ2 (M + 13) (8 * side + w) 1) := f3.tr (hF4.mo (fun x j q => Or.inr (Or.inr (Or.inr (Or.inl ⟨by omega, by omega, by omega⟩))))).fj
          have v13 : ∀ j, (wI υ2 (M + 13) (8 * side + w) 1).1 (M + 13) j = if j = 8 * side + w then 1 else υ2.1 (M + 13) j := fun j => by rw [wI_k]; rfl
          refine ⟨_, rfl, ?_⟩
          generalize wI υ2 (M + 13) (8 * side + w) 1 = υ3 at hF4 f4 v13
          cases q3 : tkS (kdT C L) 22 p2 with
          | error e =>
            obtain ⟨e, q⟩ := e
            rw [q3] at d3
            exact m_okT (m_okT (m_errT (d3.fs hF4 (fun j y z => by omega)) f4 q3) q2) q1
          | ok p3 =>
            rw [q3] at d3
            obtain ⟨e3, L3⟩ := d3
            refine m_okT (m_okT (m_okT (l := []) ?_ q3) q2) q1
            refine ⟨f4, s, b, L3.n15 hF4 (fun x j q => Or.inr (by omega)), ?_, by omega, ?_⟩
            · rw [ela]
              exact ((l2.fs d2 (fun j y z => by omega)).fs hF4 (fun j y z => by omega)).up (by omega)
            · obtain ⟨h1, h2, h3, h4, h5, h6, h7, h8, h9⟩ := Y3
              have e : ∀ k j, k ≠ M + 13 → υ3.1 k j = υ2.1 k j := fun k j z => hF4.1 _ _ (fun y => z y.1)
              refine ⟨⟨(e _ _ (by omega)).trans h1.1, h1.2⟩, ⟨(e _ _ (by omega)).trans h2.1, (e _ _ (by omega)).trans h2.2.1, h2.2.2⟩, ⟨(e _ _ (by omega)).trans h3.1, h3.2⟩, fun h hh => ?_, (e _ _ (by omega)).trans h5, fun h hh => by rw [hF4.2]; exact h6 h hh, fun h hh => ?_, fun x hx => ?_, fun k hk => ?_⟩
              · rw [v13]
                show (if 8 * side + h = 8 * side + w then (1 : Int32) else υ2.1 (M + 13) (8 * side + h)) = nI (b2n ((if hoI X.nm X.n (vlV C L (p + 1)) = -1 then X.bo else fset X.bo (hoI X.nm X.n (vlV C L (p + 1))).toNatClampNeg true) h))
                rw [← e1, if_neg hne, w3, nI_clamp (by omega)]
                unfold fset
                by_cases z : h = w
                · rw [if_pos (by omega), if_pos z]; rfl
                · rw [if_neg (by omega), if_neg z]; exact h4 h hh
              · rw [e _ _ (by omega), e _ _ (by omega), e _ _ (by omega)]; exact h7 h hh
              · rw [e _ _ (by omega), e _ _ (by omega)]; exact h8 x hx
              · rw [e _ _ (by omega), e _ _ (by omega)]
                rcases h9 k hk with ⟨bb, last, a1, a2, a3, a4⟩ | r
                · exact Or.inl ⟨bb, last, a1, a2, a3, a4.mo (Nat.le_refl _) (Nat.le_refl _) (fun k j b1 b2 b3 => e _ _ (by omega)) (fun j hj => ⟨e _ _ (by omega), e _ _ (by omega)⟩)⟩
                · exact Or.inr r
        cases hb : X.bo w
        · rw [if_pos (by decide)]
          exact j155 τ2 b5 (by rw [hb, nt_f]; exact b6) Y2 f2
        · rw [if_neg (by decide)]
          obtain ⟨τ3, c1, c2, c3⟩ := m_wrong hL b5.1 b6 (k := 3) (x := p1) (p' := p2) (by omega) (by omega) (by omega) (fun k' q' e => by have := T1.2.1; rw [e] at this; exact Or.inl this.2.2.2.2)
          have c1 : fX7_wrong M 3 (nI p1) τ2 = some τ3 := c1
          rw [c1, Option.bind_some]
          exact j155 τ3 (b5.n15 c2 (fun k j q => Or.inl q)) (by rw [hb]; exact c3) (Y2.fs c2 (fun x j q => by omega)) (f2.tr (fj_M (M := M) (side := side) c2 (fun k j q => by omega)))
end MTELL2
