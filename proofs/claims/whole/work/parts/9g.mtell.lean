section MTELL
variable {M L p s b side : Nat} {σ τ υ : Sg} {C : Nat → Nat} {X Y : TS}
/-- the model's text but for where it reads -/
def MTY (σ : Sg) (M side : Nat) (X : TS) (s b : Nat) : Prop :=
  (σ.1 M 19 = nI side ∧ side < 2) ∧ (σ.1 (M + 9) side = nI X.n ∧ σ.1 M 20 = nI X.n ∧ X.n ≤ 8) ∧ (σ.1 (M + 14) side = nI X.m ∧ X.m ≤ 6) ∧ (∀ h, h < 8 → σ.1 (M + 13) (8 * side + h) = nI (b2n (X.bo h))) ∧ σ.1 (M + 17) side = nI X.sd ∧ (∀ h, h < X.n → σ.2.1 (M + 8) h = lN (X.nm h) ∧ X.nm h < 2 ^ 63) ∧ (∀ h, h < X.n → σ.1 (M + 10) (8 * side + h) = nI (X.go h) ∧ σ.1 (M + 11) (8 * side + h) = nI (X.co h) ∧ σ.1 (M + 12) (8 * side + h) = nI (X.tp h)) ∧ (∀ e, e < X.m → σ.1 (M + 15) (6 * side + e) = X.dr e ∧ σ.1 (M + 16) (6 * side + e) = X.bx e) ∧ ∀ k, k < 4 → (∃ bb last, σ.1 (M + 18) (4 * side + k) = nI bb ∧ σ.1 (M + 19) (4 * side + k) = nI last ∧ last ≤ 260 ∧ lawK σ M (420 * side) (130 * side) bb (X.lb k) (X.lf k) last b s) ∨ (σ.1 (M + 18) (4 * side + k) = nI 0 ∧ σ.1 (M + 19) (4 * side + k) = nI 0 ∧ X.lb k = [] ∧ X.lf k = dfl k)
def MTX (σ : Sg) (M : Nat) (C : Nat → Nat) (L side : Nat) (X : TS) (p s b : Nat) : Prop := ML σ M C L (420 * side) (130 * side) p s b ∧ LAm σ M C L p X.la ∧ (4 * b ≤ 4 * (130 * side) + p ∧ 420 * side ≤ s) ∧ MTY σ M side X s b
/-- what telling writes, by the model -/
def SMt (M side : Nat) : Nat → Nat → Prop := fun k j => k = M ∧ (11 ≤ j ∧ j ≤ 16 ∨ j = 20 ∨ j = 33 ∨ j = 39 ∨ j = 43) ∨ k = M + 27 ∨ (k = M + 9 ∨ k = M + 14 ∨ k = M + 17) ∧ j = side ∨ (M + 10 ≤ k ∧ k ≤ M + 13) ∧ 8 * side ≤ j ∧ j < 8 * side + 8 ∨ (k = M + 15 ∨ k = M + 16) ∧ 6 * side ≤ j ∧ j < 6 * side + 6 ∨ (k = M + 18 ∨ k = M + 19) ∧ 4 * side ≤ j ∧ j < 4 * side + 4 ∨ (M + 20 ≤ k ∧ k ≤ M + 24) ∧ 130 * side ≤ j ∧ j < 130 * side + 130 ∨ (k = M + 25 ∨ k = M + 26) ∧ 420 * side ≤ j ∧ j < 420 * side + 420
/-- what comes of telling, by the model -/
def MR1 (σ τ : Sg) (M : Nat) (C : Nat → Nat) (L side : Nat) (o : Except (Nat × Nat) (Nat × TS)) : Prop := FJ (SMt M side) (fun k => k = M + 8) σ τ ∧ match o with
  | .error (e, q) => MF τ M C L e q
  | .ok (q, Y) => ∃ s b, MTX τ M C L side Y q s b
theorem lawK.lo {S0 B0 S1 B1 bb last b' s' : Nat} {bs : Br} {f : Rp} (h : lawK σ M S0 B0 bb bs f last b' s') (hS : S1 ≤ S0) (hB : B1 ≤ B0) : lawK σ M S1 B1 bb bs f last b' s' := fun υ u1 u2 => h υ (fun k j a1 a2 a3 a4 => u1 k j a1 a2 (by omega) a4) (fun j a1 a2 => u2 j (by omega) a2)
theorem lawK.mo {S0 B0 bb last b' s' : Nat} {bs : Br} {f : Rp} (h : lawK σ M S0 B0 bb bs f last b s) (hb : b ≤ b') (hs : s ≤ s') (h1 : ∀ k j, M + 20 ≤ k → k ≤ M + 24 → j < b → τ.1 k j = σ.1 k j) (h2 : ∀ j, j < s → τ.1 (M + 25) j = σ.1 (M + 25) j ∧ τ.1 (M + 26) j = σ.1 (M + 26) j) : lawK τ M S0 B0 bb bs f last b' s' := fun υ u1 u2 => h υ (fun k j a1 a2 a0 a3 => (u1 k j a1 a2 a0 (by omega)).trans (h1 k j a1 a2 a3)) (fun j h0 hj => ⟨(u2 j h0 (by omega)).1.trans (h2 j hj).1, (u2 j h0 (by omega)).2.trans (h2 j hj).2⟩)
theorem MTY.fs {S : Nat → Nat → Prop} (h : MTY σ M side X s b) (hF : Fs S σ τ) (hS : ∀ k j, S k j → k = M ∧ ¬ j = 19 ∧ ¬ j = 20 ∨ (k = M + 15 ∨ k = M + 16) ∧ 6 * side + X.m ≤ j ∨ (k = M + 10 ∨ k = M + 11 ∨ k = M + 12) ∧ 8 * side + X.n ≤ j) : MTY τ M side X s b := by
  obtain ⟨h1, h2, h3, h4, h5, h6, h7, h8, h9⟩ := h
  have e : ∀ k j, ¬ (k = M ∧ ¬ j = 19 ∧ ¬ j = 20 ∨ (k = M + 15 ∨ k = M + 16) ∧ 6 * side + X.m ≤ j ∨ (k = M + 10 ∨ k = M + 11 ∨ k = M + 12) ∧ 8 * side + X.n ≤ j) → τ.1 k j = σ.1 k j := fun k j hk => hF.1 _ _ (fun z => hk (hS _ _ z))
  refine ⟨⟨(e _ _ (by omega)).trans h1.1, h1.2⟩, ⟨(e _ _ (by omega)).trans h2.1, (e _ _ (by omega)).trans h2.2.1, h2.2.2⟩, ⟨(e _ _ (by omega)).trans h3.1, h3.2⟩, fun h hh => (e _ _ (by omega)).trans (h4 h hh), (e _ _ (by omega)).trans h5, fun h hh => by rw [hF.2]; exact h6 h hh, fun h hh => ?_, fun x hx => ?_, fun k hk => ?_⟩
  · rw [e _ _ (by omega), e _ _ (by omega), e _ _ (by omega)]; exact h7 h hh
  · rw [e _ _ (by omega), e _ _ (by omega)]; exact h8 x hx
  · rw [e _ _ (by omega), e _ _ (by omega)]
    rcases h9 k hk with ⟨bb, last, a1, a2, a3, a4⟩ | r
    · exact Or.inl ⟨bb, last, a1, a2, a3, a4.mo (Nat.le_refl _) (Nat.le_refl _) (fun k j b1 b2 b3 => e _ _ (by omega)) (fun j hj => ⟨e _ _ (by omega), e _ _ (by omega)⟩)⟩
    · exact Or.inr r
/-- on by a known token -/
theorem m_on (h : MTX σ M C L side X p s b) {k : Nat} (hk : kdT C L p = k) (hk31 : k < 31) : ∃ τ, fX7_goesOn M σ = some τ ∧ Fs (fun x j => x = M ∧ (j = 11 ∨ j = 13 ∨ j = 14)) σ τ ∧ (match tkS (kdT C L) k p with
    | .error (e, q) => MF τ M C L e q
    | .ok q => q = p + 1 ∧ MTX τ M C L side X q s b) := by
  obtain ⟨h1, h2, h3, h4⟩ := h
  unfold tkS
  rw [if_pos hk]
  rcases m_goesOn h1.1 (by omega) with ⟨g1, g2, g3⟩ | ⟨g1, τ, g2, g3, g4⟩
  · have hF : Fs (fun x j => x = M ∧ j = 11) σ (wI σ M 11 (nI (p + 1))) := Fs.rf.wI ⟨rfl, rfl⟩
    rw [if_pos g1]
    exact ⟨_, g2, hF.mo (fun x j q => by omega), rfl, ⟨g3, (hF.1 _ _ (by omega)).trans h1.2.1, (hF.1 _ _ (by omega)).trans h1.2.2.1, by have := h1.2.2.2.1; omega, h1.2.2.2.2.1, (hF.1 _ _ (by omega)).trans h1.2.2.2.2.2.1, h1.2.2.2.2.2.2⟩, (h2.fs hF (fun j y z => by omega)).up (by omega), by omega, h4.fs hF (fun x j q => by omega)⟩
  · rw [if_neg (by omega)]
    exact ⟨τ, g2, g3.mo (fun x j q => by omega), g4⟩
/-- the last token of a tell -/
theorem m_last (h1 : ML τ M C L (420 * side) (130 * side) p s b) (h2 : LAm τ M C L p Y.la) (h3 : 4 * b ≤ 4 * (130 * side) + p ∧ 420 * side ≤ s) (h4 : MTY τ M side Y s b) (hF : FJ (SMt M side) (fun k => k = M + 8) σ τ) : ∃ υ, fX7_must M 4 τ = some υ ∧ MR1 σ υ M C L side (mapT (tksS (kdT C L) [22] p) Y) := by
  obtain ⟨υ, a1, a2, a3⟩ := h1.mu (k := 22) (by omega)
  have a1 : fX7_must M 4 τ = some υ := a1
  refine ⟨υ, a1, hF.tr (a2.mo (fun x j q => by unfold SMt; omega)).fj, ?_⟩
  show match mapT (match tkS (kdT C L) 22 p with
    | .error e => .error e
    | .ok q => tksS (kdT C L) [] q) Y with
  | .error (e, q) => MF υ M C L e q
  | .ok (q, Y) => ∃ s b, MTX υ M C L side Y q s b
  cases hq : tkS (kdT C L) 22 p with
  | error e => rw [hq] at a3; exact a3
  | ok q =>
    rw [hq] at a3
    exact ⟨s, b, a3.2, (h2.fs a2 (fun j y z => by omega)).up (by omega), by omega, h4.fs a2 (fun x j q => by omega)⟩
theorem m_seedT (hL : L ≤ 2000) (h : MTX σ M C L side X p s b) (hk : kdT C L p = 7) : ∃ τ, ((fX7_goesOn M σ).bind (fun σ58 => (fX7_bounded M (0 : Int32) (9999 : Int32) σ58).bind (fun q67 => let r65 := q67.1; let σ64 := q67.2; if vin (σ58.1 M 19) 2 then (let σ69 := wI σ64 (M + 17) (((σ58.1 M 19)).toNatClampNeg) r65; (fX7_must M (4 : Int32) σ69).bind (fun σ71 => some σ71)) else none))) = some τ ∧ MR1 σ τ M C L side (mapT (tksS (kdT C L) [7, 21, 22] p) (seX (vlV C L) X p)) := by
  have h19 := h.2.2.2.1
  obtain ⟨τ1, a1, a2, a3⟩ := m_on h hk (by omega)
  rw [a1, Option.bind_some]
  have e19 : τ1.1 M 19 = nI side := (a2.1 _ _ (by omega)).trans h19.1
  have f1 : FJ (SMt M side) (fun k => k = M + 8) σ τ1 := (a2.mo (fun x j q => by unfold SMt; omega)).fj
  show ∃ τ, _ ∧ MR1 σ τ M C L side (mapT (match tkS (kdT C L) 7 p with
    | .error e => .error e
    | .ok q => tksS (kdT C L) [21, 22] q) (seX (vlV C L) X p))
  have hs2 := h19.2
  have fail : ∀ (υ : Sg) (r : Int32) (e q : Nat), MF υ M C L e q → FJ (SMt M side) (fun k => k = M + 8) σ υ → ∃ τ, ((fX7_must M (4 : Int32) (wI υ (M + 17) side r)).bind (fun σ71 => some σ71)) = some τ ∧ FJ (SMt M side) (fun k => k = M + 8) σ τ ∧ MF τ M C L e q := fun υ r e q hf hF => by
    have hF2 : Fs (fun x j => x = M + 17 ∧ j = side) υ (wI υ (M + 17) side r) := Fs.rf.wI ⟨rfl, rfl⟩
    have f2 := hf.fs hF2 (fun j y z => by omega)
    exact ⟨_, by rw [must_F f2]; rfl, hF.tr (hF2.mo (fun x j q => by unfold SMt; omega)).fj, f2⟩
  cases q1 : tkS (kdT C L) 7 p with
  | error e =>
    obtain ⟨e, q⟩ := e
    rw [q1] at a3
    rw [bound_F a3, Option.bind_some, e19]
    simp (disch := omega) only [vif, nI_clamp]
    exact fail τ1 0 e q a3 f1
  | ok p1 =>
    rw [q1] at a3
    obtain ⟨e1, T1⟩ := a3
    obtain ⟨r, τ2, b1, b2, b3⟩ := m_bound hL T1.1 T1.2.1 (m := 9999) (by omega)
    have b1 : fX7_bounded M 0 9999 τ1 = some (r, τ2) := b1
    rw [b1, Option.bind_some, e19]
    simp (disch := omega) only [vif, nI_clamp]
    have f2 := f1.tr (b2.mo (fun x j q => by unfold SMt; omega)).fj
    show ∃ τ, _ ∧ MR1 σ τ M C L side (mapT (match tkS (kdT C L) 21 p1 with
      | .error e => .error e
      | .ok q => tksS (kdT C L) [22] q) (seX (vlV C L) X p))
    cases q2 : tkS (kdT C L) 21 p1 with
    | error e =>
      obtain ⟨e, q⟩ := e
      rw [q2] at b3
      exact fail τ2 r e q b3 f2
    | ok p2 =>
      rw [q2] at b3
      obtain ⟨b4, b5, b6⟩ := b3
      have hl := tkS_l q2
      have vl := vlV_le hl.2.2
      rw [decide_eq_false (by omega), nt_f] at b6
      have hF3 : Fs (fun x j => x = M + 17 ∧ j = side) τ2 (wI τ2 (M + 17) side r) := Fs.rf.wI ⟨rfl, rfl⟩
      have v17 : (wI τ2 (M + 17) side r).1 (M + 17) side = r := by rw [wI_k, upd_k]
      generalize wI τ2 (M + 17) side r = τ3 at hF3 v17
      have Y2 := T1.2.2.2.fs b2 (fun x j q => by omega)
      have Y3 : MTY τ3 M side (seX (vlV C L) X p) s b := by
        obtain ⟨h1, h2, h3, h4, h5, h6, h7, h8, h9⟩ := Y2
        have e : ∀ k j, ¬ (k = M + 17 ∧ j = side) → τ3.1 k j = τ2.1 k j := hF3.1
        refine ⟨⟨(e _ _ (by omega)).trans h1.1, h1.2⟩, ⟨(e _ _ (by omega)).trans h2.1, (e _ _ (by omega)).trans h2.2.1, h2.2.2⟩, ⟨(e _ _ (by omega)).trans h3.1, h3.2⟩, fun h hh => (e _ _ (by omega)).trans (h4 h hh), ?_, fun h hh => by rw [hF3.2]; exact h6 h hh, fun h hh => ?_, fun x hx => ?_, fun k hk => ?_⟩
        · rw [v17, b4, e1]; rfl
        · rw [e _ _ (by omega), e _ _ (by omega), e _ _ (by omega)]; exact h7 h hh
        · rw [e _ _ (by omega), e _ _ (by omega)]; exact h8 x hx
        · rw [e _ _ (by omega), e _ _ (by omega)]
          rcases h9 k hk with ⟨bb, last, a1, a2, a3, a4⟩ | r
          · exact Or.inl ⟨bb, last, a1, a2, a3, a4.mo (Nat.le_refl _) (Nat.le_refl _) (fun k j b1 b2 b3 => e _ _ (by omega)) (fun j hj => ⟨e _ _ (by omega), e _ _ (by omega)⟩)⟩
          · exact Or.inr r
      obtain ⟨υ, c1, c2⟩ := m_last (σ := σ) (b5.n15 hF3 (fun x j q => Or.inr (by omega))) (Y := seX (vlV C L) X p) (b6.fs hF3 (fun j y z => by omega)) (by have := T1.2.2.1; omega) Y3 (f2.tr (hF3.mo (fun x j q => by unfold SMt; omega)).fj)
      exact ⟨υ, by rw [c1]; rfl, c2⟩
theorem SGl_SMt (hb : 130 * side ≤ b) (hs : 420 * side ≤ s) {x j : Nat} (q : SGl M (420 * side) s (130 * side) b x j) : SMt M side x j := by
  rcases q with (⟨q1, q2⟩ | q | ⟨q1, q2, q3⟩) | ⟨q1, q2⟩ | ⟨q1, q2, q3, q4⟩
  · exact Or.inl ⟨q1, by omega⟩
  · exact Or.inr (Or.inl q)
  · exact Or.inr (Or.inr (Or.inr (Or.inr (Or.inr (Or.inr (Or.inr ⟨q1, by omega, by omega⟩))))))
  · exact Or.inl ⟨q1, by omega⟩
  · exact Or.inr (Or.inr (Or.inr (Or.inr (Or.inr (Or.inr (Or.inl ⟨⟨q1, q2⟩, by omega, by omega⟩))))))
theorem law_F {k q : Nat} (h : MF σ M C L k q) (h33 : σ.1 M 33 = nI b) (hb : 130 * side ≤ b ∧ b ≤ 130 * side + 110) (hsd : side < 2) (x : Int32) : ∃ τ, fX7_tellLaw M x σ = some τ ∧ MF τ M C L k q ∧ Fs (SGl M (420 * side) s (130 * side) b) σ τ := by
  unfold fX7_tellLaw
  rw [must_F h, Option.bind_some]
  dsimp only
  have : lp (fun st : Int32 × Sg => bX7_tellLaw_12 M x (σ.1 M 33) st.1 st.2) (0, σ) = some (Sum.inr σ) := by
    refine lp_r ?_
    show bX7_tellLaw_12 M x (σ.1 M 33) 0 σ = _
    unfold bX7_tellLaw_12
    rw [if_neg h.n.1]
  rw [this, Option.bind_some]
  show ∃ τ, ((if vin (σ.1 M 33) 260 then ((fX7_term M (wI σ (M + 20) (((σ.1 M 33)).toNatClampNeg) (vp_nar .boolean (0 : Int32)))).bind (fun σ69 => (fX7_must M (4 : Int32) σ69).bind (fun σ74 => if (σ74.1 M 13) ≤ 0 then (if vin (((4 : Int32) * (σ74.1 M 19)) + x) 8 then (let σ80 := wI σ74 (M + 18) (((((4 : Int32) * (σ74.1 M 19)) + x)).toNatClampNeg) (σ.1 M 33); if vin (((4 : Int32) * (σ80.1 M 19)) + x) 8 then (let σ83 := wI σ80 (M + 19) (((((4 : Int32) * (σ80.1 M 19)) + x)).toNatClampNeg) (σ80.1 M 33); some σ83) else none) else none) else (some σ74)))) else none) : Option Sg) = some τ ∧ _
  rw [h33]
  simp (disch := omega) only [vif, nI_clamp]
  have hF3 : Fs (fun x j => x = M + 20 ∧ j = b) σ (wI σ (M + 20) b (vp_nar .boolean 0)) := Fs.rf.wI ⟨rfl, rfl⟩
  have g1 := h.fs hF3 (fun j q z => by omega)
  obtain ⟨τ, t1, t2, t3⟩ := term_F g1 (b := b) (by rw [wI_n (by omega)]; exact h33) (by omega)
  have g2 := g1.fs t2 (fun j q z => by omega)
  rw [t1, Option.bind_some, must_F g2, Option.bind_some, if_neg g2.n.2]
  exact ⟨τ, rfl, g2, (hF3.mo (fun x j q => Or.inr (Or.inr (by omega)))).tr (t2.mo (fun x j q => q.elim (fun q => Or.inr (Or.inl q)) (fun q => Or.inr (Or.inr ⟨by omega, by omega, by omega, by omega⟩))))⟩
theorem ifS_4 : ∀ (n p : Nat) (bs : Br) (q : Nat), p ≤ 400 → ifS (kdT C L) (vlV C L) n p = .ok (q, bs) → p + 4 * bs.length ≤ q ∧ q ≤ 400 := by
  intro n
  induction n with
  | zero =>
    intro p bs q hp hq
    unfold ifS at hq
    split at hq
    · cases hq
    · injection hq with hq
      injection hq with e1 e2
      subst e1 e2
      exact ⟨Nat.le_refl _, hp⟩
  | succ n ih =>
    intro p bs q hp hq
    rw [show ifS (kdT C L) (vlV C L) (n + 1) p = if kdT C L p = 8 then (match brS (kdT C L) (vlV C L) p with
    | .error e => .error e
    | .ok (q, b) => match ifS (kdT C L) (vlV C L) n q with
      | .error e => .error e
      | .ok (q', bs) => .ok (q', b :: bs)) else .ok (p, []) from rfl] at hq
    split at hq
    · cases hb : brS (kdT C L) (vlV C L) p with
      | error e => rw [hb] at hq; cases hq
      | ok e =>
        obtain ⟨q1, u, w, x⟩ := e
        rw [hb] at hq
        dsimp only at hq
        have hbr := brS_l hp hb
        cases hi : ifS (kdT C L) (vlV C L) n q1 with
        | error e => rw [hi] at hq; cases hq
        | ok e =>
          obtain ⟨q2, bs2⟩ := e
          rw [hi] at hq
          injection hq with hq
          injection hq with e1 e2
          subst e1 e2
          have := ih q1 bs2 q2 hbr.2 hi
          show p + 4 * (bs2.length + 1) ≤ q2 ∧ q2 ≤ 400
          omega
    · injection hq with hq
      injection hq with e1 e2
      subst e1 e2
      exact ⟨Nat.le_refl _, hp⟩
theorem lawT_4 {q : Nat} {bs : Br} {f : Rp} (hp : p ≤ 400) (h : lawT (kdT C L) (vlV C L) p = .ok (q, bs, f)) : p + 3 + 4 * bs.length ≤ q := by
  unfold lawT at h
  cases q1 : tkS (kdT C L) 23 p with
  | error e => rw [q1] at h; cases h
  | ok p2 =>
    rw [q1] at h
    dsimp only at h
    have t1 := tkS_l q1
    cases q2 : ifS (kdT C L) (vlV C L) 4 p2 with
    | error e => rw [q2] at h; cases h
    | ok e =>
      obtain ⟨p3, bs'⟩ := e
      rw [q2] at h
      dsimp only at h
      have t2 := ifS_4 4 p2 bs' p3 (by omega) q2
      have g := sum7 (C := C) (L := L) (p := p3) t2.2
      cases q3 : sumG (kdT C L) (vlV C L) 7 p3 with
      | error e => rw [q3] at h; cases h
      | ok e =>
        obtain ⟨p4, f'⟩ := e
        rw [q3] at h g
        dsimp only at h
        obtain ⟨g1, -⟩ := g
        cases q4 : tkS (kdT C L) 22 p4 with
        | error e => rw [q4] at h; cases h
        | ok p5 =>
          rw [q4] at h
          have t4 := tkS_l q4
          injection h with h
          injection h with e1 e2
          injection e2 with e3 e4
          subst e1 e3
          omega
theorem m_lawT (hL : L ≤ 2000) (h : MTX σ M C L side X p s b) {k : Nat} (hk : kdT C L p = 3 + k) (hk4 : k < 4) : ∃ τ, ((fX7_goesOn M σ).bind (fun σ83 => (fX7_tellLaw M (nI k) σ83).bind (fun σ88 => some σ88))) = some τ ∧ MR1 σ τ M C L side (match lawS (kdT C L) (vlV C L) k p with
    | .error e => .error e
    | .ok (q, bs, f) => .ok (q, laX X k bs f)) := by
  have hs2 := h.2.2.2.1.2
  obtain ⟨τ1, a1, a2, a3⟩ := m_on h hk (by omega)
  rw [a1, Option.bind_some, lawS_T]
  have f1 : FJ (SMt M side) (fun k => k = M + 8) σ τ1 := (a2.mo (fun x j q => by unfold SMt; omega)).fj
  cases q1 : tkS (kdT C L) (3 + k) p with
  | error e =>
    obtain ⟨e, q⟩ := e
    rw [q1] at a3
    have hB := h.1.2.2.2.2.2.2
    obtain ⟨τ2, b1, b2, b3⟩ := law_F (s := s) (side := side) a3 ((a2.1 _ _ (by omega)).trans h.1.2.2.2.2.2.1) ⟨hB.1, hB.2.2⟩ hs2 (nI k)
    rw [b1, Option.bind_some]
    exact ⟨τ2, rfl, f1.tr (b3.mo (fun x j q => SGl_SMt hB.1 h.2.2.1.2 q)).fj, b2⟩
  | ok p1 =>
    rw [q1] at a3
    obtain ⟨e1, T1⟩ := a3
    obtain ⟨h1, h2, h3, h4⟩ := T1
    have hB := h1.2.2.2.2.2.2
    have hp1 := h1.1.2.2.1
    obtain ⟨τ2, b1, b2⟩ := m_law h1 (by omega) hk4 hs2 h4.1.1
    rw [b1, Option.bind_some]
    refine ⟨τ2, rfl, ?_⟩
    dsimp only
    cases q2 : lawT (kdT C L) (vlV C L) p1 with
    | error e =>
      obtain ⟨e, q⟩ := e
      rw [q2] at b2
      exact ⟨f1.tr (b2.2.mo (fun x j q => SGl_SMt hB.1 h3.2 q)).fj, b2.1⟩
    | ok e =>
      obtain ⟨q, bs, f⟩ := e
      rw [q2] at b2
      obtain ⟨c1, c2, c3, c4, c5, c6, c7⟩ := b2
      have l4 := lawT_4 hp1 q2
      refine ⟨f1.tr (c5.mo (fun x j q => by
        rcases q with q | ⟨q5, q6⟩
        · exact SGl_SMt hB.1 h3.2 q
        · exact Or.inr (Or.inr (Or.inr (Or.inr (Or.inr (Or.inl ⟨q5, by omega, by omega⟩)))))
        )).fj, _, _, c1, (h2.fs c5 (fun j y z => by unfold SGl SE at z; omega)).up (by omega), (by have := h.2.2.1; omega), ?_⟩
      · obtain ⟨g1, g2, g3, g4, g5, g6, g7, g8, g9⟩ := h4
        have e : ∀ x j, ¬ (SGl M (420 * side) s (130 * side) b x j ∨ (x = M + 18 ∨ x = M + 19) ∧ j = 4 * side + k) → τ2.1 x j = τ1.1 x j := c5.1
        have eA : ∀ x j, M + 9 ≤ x → x ≤ M + 17 → τ2.1 x j = τ1.1 x j := fun x j y1 y2 => e _ _ (by unfold SGl SE; omega)
        have eB : ∀ j, j = 19 ∨ j = 20 → τ2.1 M j = τ1.1 M j := fun j y => e _ _ (by unfold SGl SE; omega)
        have eC : ∀ x j, (x = M + 18 ∨ x = M + 19) → j ≠ 4 * side + k → τ2.1 x j = τ1.1 x j := fun x j y1 y2 => e _ _ (by unfold SGl SE; omega)
        have eD : ∀ x j, M + 20 ≤ x → x ≤ M + 24 → j < b → τ2.1 x j = τ1.1 x j := fun x j y1 y2 y3 => e _ _ (by unfold SGl SE; omega)
        have eE : ∀ x j, (x = M + 25 ∨ x = M + 26) → j < s → τ2.1 x j = τ1.1 x j := fun x j y1 y2 => e _ _ (by unfold SGl SE; omega)
        refine ⟨⟨(eB _ (by omega)).trans g1.1, g1.2⟩, ⟨(eA _ _ (by omega) (by omega)).trans g2.1, (eB _ (by omega)).trans g2.2.1, g2.2.2⟩, ⟨(eA _ _ (by omega) (by omega)).trans g3.1, g3.2⟩, fun h hh => (eA _ _ (by omega) (by omega)).trans (g4 h hh), (eA _ _ (by omega) (by omega)).trans g5, fun h hh => by rw [c5.2]; exact g6 h hh, fun h hh => ?_, fun x hx => ?_, fun j hj => ?_⟩
        · rw [eA _ _ (by omega) (by omega), eA _ _ (by omega) (by omega), eA _ _ (by omega) (by omega)]; exact g7 h hh
        · rw [eA _ _ (by omega) (by omega), eA _ _ (by omega) (by omega)]; exact g8 x hx
        · by_cases z : j = k
          · subst z
            refine Or.inl ⟨b, b + bs.length + 1, c2, c3, by omega, ?_⟩
            show lawK τ2 M (420 * side) (130 * side) b (if j = j then bs else X.lb j) (if j = j then f else X.lf j) _ _ _
            rw [if_pos rfl, if_pos rfl]
            exact c4.lo h3.2 hB.1
          · show (∃ bb last, _ ∧ _ ∧ _ ∧ lawK τ2 M (420 * side) (130 * side) bb (if j = k then bs else X.lb j) (if j = k then f else X.lf j) last _ _) ∨ _ ∧ _ ∧ (if j = k then bs else X.lb j) = [] ∧ (if j = k then f else X.lf j) = dfl j
            rw [if_neg z, if_neg z, eC _ _ (by omega) (by omega), eC _ _ (by omega) (by omega)]
            rcases g9 j hj with ⟨bb, last, x1, x2, x3, x4⟩ | r
            · exact Or.inl ⟨bb, last, x1, x2, x3, x4.mo (by omega) (by omega) (fun k j b1 b2 b3 => eD _ _ b1 b2 b3) (fun j hj => ⟨eE _ _ (Or.inl rfl) hj, eE _ _ (Or.inr rfl) hj⟩)⟩
            · exact Or.inr r
end MTELL
