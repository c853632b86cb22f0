section MLAW
variable {M L p s b B0 S0 : Nat} {σ τ υ : Sg} {C : Nat → Nat}
/-- what a law writes -/
def SGl (M S0 s B0 b : Nat) : Nat → Nat → Prop := fun k j => SE M S0 s k j ∨ k = M ∧ j = 33 ∨ M + 20 ≤ k ∧ k ≤ M + 24 ∧ b ≤ j ∧ j < B0 + 130
theorem SGl_mo {s' b' : Nat} (h : s ≤ s') (hb : b ≤ b') {k j : Nat} (q : SGl M S0 s' B0 b' k j) : SGl M S0 s B0 b k j := by unfold SGl SE at q ⊢; omega
/-- the model reads at p, s codes and b branches laid -/
def ML (σ : Sg) (M : Nat) (C : Nat → Nat) (L S0 B0 p s b : Nat) : Prop := MP σ M C L p ∧ σ.1 M 12 = 0 ∧ σ.1 M 39 = nI s ∧ s ≤ S0 + p ∧ S0 ≤ 420 ∧ σ.1 M 33 = nI b ∧ B0 ≤ b ∧ B0 ≤ 130 ∧ b ≤ B0 + 110
/-- a fault, and branches in their room -/
def FL (σ τ : Sg) (M : Nat) (C : Nat → Nat) (L S0 s B0 b k q : Nat) : Prop := MF τ M C L k q ∧ Fs (SGl M S0 s B0 b) σ τ ∧ ∃ b', b ≤ b' ∧ b' ≤ B0 + 112 ∧ τ.1 M 33 = nI b'
theorem m_must (h : MP σ M C L p) {k : Nat} (hk : k < 31) : ∃ τ, fX7_must M (nI (mkd k)) σ = some τ ∧ (match tkS (kdT C L) k p with
    | .error (e, q) => Fs (fun x j => x = M ∧ (j = 13 ∨ j = 14)) σ τ ∧ MF τ M C L e q
    | .ok q => τ = wI σ M 11 (nI q) ∧ MP τ M C L q) := by
  have hp := h.2.2.1
  unfold fX7_must tkS
  rw [m_is h (by omega), Option.bind_some]
  dsimp only
  by_cases z : kdT C L p = k
  · rw [if_pos z, if_pos z, if_neg one0]
    rcases m_goesOn h (by omega) with ⟨g1, g2, g3⟩ | ⟨g1, τ, g2, g3, g4⟩
    · rw [if_pos g1, g2]
      exact ⟨_, rfl, rfl, g3⟩
    · rw [if_neg (by omega), g2]
      exact ⟨τ, rfl, g3, g4⟩
  · rw [if_neg z, if_neg z, if_pos rfl]
    obtain ⟨τ, a1, a2, a3⟩ := m_fail h (k := 1) (Or.inl rfl)
    have a1 : fX7_fail M 1 σ = some τ := a1
    rw [a1]
    exact ⟨τ, rfl, a2, a3⟩
theorem must_F {k q : Nat} (h : MF σ M C L k q) (x : Int32) : fX7_must M x σ = some σ := by
  unfold fX7_must
  rw [m_isF h.n.1, Option.bind_some]
  dsimp only
  rw [if_pos rfl, m_failF h.n.2]; rfl
theorem expr_F {k q : Nat} (h : MF σ M C L k q) : fX7_expression M σ = some (wI σ M 43 0) := by
  have h2 : MF (wI σ M 43 0) M C L k q := h.fs (Fs.rf.wI (S := fun x j => x = M ∧ j = 43) ⟨rfl, rfl⟩) (fun j a z => by omega)
  unfold fX7_expression
  dsimp only
  have : lp (fun st : Int32 × Sg => bX7_expression_12 M ((wI σ M 43 0).1 M 12) st.1 st.2) (1, wI σ M 43 0) = some (Sum.inr (Sum.inr (wI σ M 43 0))) := by
    refine lp_r ?_
    show bX7_expression_12 M _ 1 (wI σ M 43 0) = _
    unfold bX7_expression_12
    rw [if_neg one0, if_neg h2.n.1]
  rw [this]; rfl
theorem term_F {k q : Nat} (h : MF σ M C L k q) (hb : σ.1 M 33 = nI b) (hb2 : b < 260) : ∃ τ, fX7_term M σ = some τ ∧ Fs (fun x j => x = M ∧ j = 33 ∨ (x = M + 23 ∨ x = M + 24) ∧ j = b) σ τ ∧ τ.1 M 33 = nI (b + 1) := by
  have e1 : (wI σ (M + 23) b (σ.1 M 39)).1 M 13 = σ.1 M 13 := by rw [wI_n (by omega)]
  have e2 : (wI σ (M + 23) b (σ.1 M 39)).1 M 33 = nI b := by rw [wI_n (by omega), hb]
  unfold fX7_term jX7_term_24
  rw [hb]
  simp (disch := omega) only [vif, nI_clamp]
  rw [e1, if_neg h.n.1, e2]
  simp (disch := omega) only [vif, nI_clamp]
  refine ⟨_, rfl, ((Fs.rf.wI (by omega)).wI (by omega)).wI (by omega), ?_⟩
  rw [wI_k, upd_k, wI_n (by omega), e2, nI_s]
theorem FL.fs {k q : Nat} {S : Nat → Nat → Prop} (h : FL σ τ M C L S0 s B0 b k q) (hF : Fs S τ υ) (hS : ∀ x j, S x j → SGl M S0 s B0 b x j) (h13 : ∀ j, (j = 13 ∨ j = 14) → ¬ S M j) {b' : Nat} (hb : b ≤ b' ∧ b' ≤ B0 + 112) (hb3 : υ.1 M 33 = nI b') : FL σ υ M C L S0 s B0 b k q := ⟨h.1.fs hF h13, h.2.1.tr (hF.mo hS), b', hb.1, hb.2, hb3⟩
/-- the branch b, codes from s on -/
def brM (σ : Sg) (M b s : Nat) (u w x : Rp) : Prop := ¬ σ.1 (M + 20) b = 0 ∧ σ.1 (M + 21) b = nI s ∧ σ.1 (M + 22) b = nI (s + u.length) ∧ σ.1 (M + 23) b = nI (s + u.length + w.length) ∧ σ.1 (M + 24) b = nI (s + u.length + w.length + x.length) ∧ segM (σ.1 (M + 25)) (σ.1 (M + 26)) s u ∧ segM (σ.1 (M + 25)) (σ.1 (M + 26)) (s + u.length) w ∧ segM (σ.1 (M + 25)) (σ.1 (M + 26)) (s + u.length + w.length) x
theorem brM.ag {u w x : Rp} (h : brM σ M b s u w x) (h1 : ∀ k, M + 20 ≤ k → k ≤ M + 24 → τ.1 k b = σ.1 k b) (h2 : ∀ j, s ≤ j → j < s + u.length + w.length + x.length → τ.1 (M + 25) j = σ.1 (M + 25) j ∧ τ.1 (M + 26) j = σ.1 (M + 26) j) : brM τ M b s u w x := by
  obtain ⟨a1, a2, a3, a4, a5, a6, a7, a8⟩ := h
  refine ⟨by rw [h1 _ (by omega) (by omega)]; exact a1, by rw [h1 _ (by omega) (by omega)]; exact a2, by rw [h1 _ (by omega) (by omega)]; exact a3, by rw [h1 _ (by omega) (by omega)]; exact a4, by rw [h1 _ (by omega) (by omega)]; exact a5, segM_c a6 (fun j b1 b2 => h2 j (by omega) (by omega)), segM_c a7 (fun j b1 b2 => h2 j (by omega) (by omega)), segM_c a8 (fun j b1 b2 => h2 j (by omega) (by omega))⟩
theorem ML.ex (h : ML σ M C L S0 B0 p s b) : ∃ τ, fX7_expression M σ = some τ ∧ Fs (SE M S0 s) σ τ ∧ (match sumG (kdT C L) (vlV C L) 7 p with
    | .error (k, q) => MF τ M C L k q
    | .ok (q, c) => ML τ M C L S0 B0 q (s + c.length) b ∧ segM (τ.1 (M + 25)) (τ.1 (M + 26)) s c) := by
  obtain ⟨h1, h2, h3, h4, h5, h6⟩ := h
  obtain ⟨τ, a1, a2, a3⟩ := m_expr h1 h2 h3 h4 h5
  have g := sum7 (C := C) (L := L) h1.2.2.1
  refine ⟨τ, a1, a2, ?_⟩
  cases hq : sumG (kdT C L) (vlV C L) 7 p with
  | error e => rw [hq] at a3; exact a3
  | ok e =>
    obtain ⟨q, c⟩ := e
    rw [hq] at a3 g
    obtain ⟨g1, g2, g3, -⟩ := g
    obtain ⟨b1, b2, b3, b4⟩ := a3
    exact ⟨⟨b1, b2, b3, by omega, h5, (a2.1 _ _ (by unfold SE; omega)).trans h6.1, h6.2⟩, b4⟩
theorem ML.fs {S : Nat → Nat → Prop} (h : ML σ M C L S0 B0 p s b) (hF : Fs S σ τ) (hS : ∀ k j, S k j → M + 18 ≤ k ∧ k ≤ M + 24) : ML τ M C L S0 B0 p s b := by
  obtain ⟨h1, h2, h3, h4, h5, h6⟩ := h
  have e : ∀ j, τ.1 M j = σ.1 M j := fun j => hF.1 _ _ (fun z => by have := hS _ _ z; omega)
  exact ⟨⟨h1.1.fs hF (fun k j a1 a2 z => by have := hS _ _ z; omega), (e _).trans h1.2.1, h1.2.2.1, h1.2.2.2.1, (e _).trans h1.2.2.2.2⟩, (e _).trans h2, (e _).trans h3, h4, h5, (e _).trans h6.1, h6.2⟩
theorem ML.mu (h : ML σ M C L S0 B0 p s b) {k : Nat} (hk : k < 31) : ∃ τ, fX7_must M (nI (mkd k)) σ = some τ ∧ Fs (fun x j => x = M ∧ (j = 11 ∨ j = 13 ∨ j = 14)) σ τ ∧ (match tkS (kdT C L) k p with
    | .error (e, q) => MF τ M C L e q
    | .ok q => q = p + 1 ∧ ML τ M C L S0 B0 q s b) := by
  obtain ⟨h1, h2, h3, h4, h5, h6⟩ := h
  obtain ⟨τ, a1, a2⟩ := m_must h1 hk
  cases hq : tkS (kdT C L) k p with
  | error e =>
    rw [hq] at a2
    exact ⟨τ, a1, a2.1.mo (fun x j q => by omega), a2.2⟩
  | ok q =>
    rw [hq] at a2
    have hl := tkS_l hq
    have hF : Fs (fun x j => x = M ∧ (j = 11 ∨ j = 13 ∨ j = 14)) σ τ := by rw [a2.1]; exact Fs.rf.wI (by omega)
    exact ⟨τ, a1, hF, hl.1, a2.2, (hF.1 _ _ (by omega)).trans h2, (hF.1 _ _ (by omega)).trans h3, by omega, h5, (hF.1 _ _ (by omega)).trans h6.1, h6.2⟩
/-- what is left of a branch, a fault standing -/
theorem F110 {k q : Nat} (h : MF σ M C L k q) (hb : σ.1 M 33 = nI b) (hb2 : b < 260) (p1 x2 x3 : Int32) : ∃ τ, jX7_tellLaw_110 M p1 x2 x3 σ = some (Sum.inl (x3, τ)) ∧ Fs (fun x j => x = M ∧ j = 33 ∨ (x = M + 23 ∨ x = M + 24) ∧ j = b) σ τ ∧ τ.1 M 33 = nI (b + 1) := by
  obtain ⟨τ, a1, a2, a3⟩ := term_F h hb hb2
  have h2 : MF τ M C L k q := h.fs a2 (fun j q z => by omega)
  refine ⟨τ, ?_, a2, a3⟩
  unfold jX7_tellLaw_110
  rw [must_F h, Option.bind_some, a1, Option.bind_some, must_F h2]; rfl
/-- one branch -/
theorem m_br (h : ML σ M C L S0 B0 p s b) (hk : kdT C L p = 8) (hb4 : b ≤ B0 + 105) (p1 x2 x3 : Int32) : ∃ τ, jX7_tellLaw_38 M p1 x2 x3 σ = some (Sum.inl (x3 + 1, τ)) ∧ (match brS (kdT C L) (vlV C L) p with
    | .error (k, q) => FL σ τ M C L S0 s B0 b k q
    | .ok (q, u, w, x) => ML τ M C L S0 B0 q (s + u.length + w.length + x.length) (b + 1) ∧ brM τ M b s u w x ∧ Fs (SGl M S0 s B0 b) σ τ) := by
  have hB := h.2.2.2.2.2.2
  have h33 := h.2.2.2.2.2.1
  -- the end of it all, once a fault stands before the second side
  have tail22 : ∀ υ k q, MF υ M C L k q → Fs (SGl M S0 s B0 b) σ υ → υ.1 M 33 = nI b → ∃ τ, ((if vin (υ.1 M 33) 260 then (if ((wI υ (M + 22) (((υ.1 M 33)).toNatClampNeg) (υ.1 M 39)).1 M 13) = 0 then ((fX7_expression M (wI υ (M + 22) (((υ.1 M 33)).toNatClampNeg) (υ.1 M 39))).bind (fun σ53 => jX7_tellLaw_110 M p1 x2 (x3 + 1) σ53)) else (jX7_tellLaw_110 M p1 x2 (x3 + 1) (wI υ (M + 22) (((υ.1 M 33)).toNatClampNeg) (υ.1 M 39)))) else none) : Option ((Int32 × Sg) ⊕ ((Sg) ⊕ (Sg)))) = some (Sum.inl (x3 + 1, τ)) ∧ FL σ τ M C L S0 s B0 b k q := by
    intro υ k q hf hF hb
    rw [hb]
    simp (disch := omega) only [vif, nI_clamp]
    have hF2 : Fs (fun x j => x = M + 22 ∧ j = b) υ (wI υ (M + 22) b (υ.1 M 39)) := Fs.rf.wI ⟨rfl, rfl⟩
    have f2 : MF (wI υ (M + 22) b (υ.1 M 39)) M C L k q := hf.fs hF2 (fun j q z => by omega)
    rw [if_neg f2.n.1]
    obtain ⟨τ, a1, a2, a3⟩ := F110 f2 (b := b) (by rw [wI_n (by omega)]; exact hb) (by omega) p1 x2 (x3 + 1)
    exact ⟨τ, a1, f2.fs a2 (fun j q z => by omega), (hF.tr (hF2.mo (fun x j q => by unfold SGl; omega))).tr (a2.mo (fun x j q => by unfold SGl; omega)), b + 1, by omega, by omega, a3⟩
  have tail110 : ∀ υ k q, MF υ M C L k q → Fs (SGl M S0 s B0 b) σ υ → υ.1 M 33 = nI b → ∃ τ, jX7_tellLaw_110 M p1 x2 (x3 + 1) υ = some (Sum.inl (x3 + 1, τ)) ∧ FL σ τ M C L S0 s B0 b k q := by
    intro υ k q hf hF hb
    obtain ⟨τ, a1, a2, a3⟩ := F110 hf hb (by omega) p1 x2 (x3 + 1)
    exact ⟨τ, a1, hf.fs a2 (fun j q z => by omega), hF.tr (a2.mo (fun x j q => by unfold SGl; omega)), b + 1, by omega, by omega, a3⟩
  have se : ∀ {s' : Nat} {x j : Nat}, s ≤ s' → SE M S0 s' x j → SGl M S0 s B0 b x j := fun hs q => Or.inl (SE_mo hs q)
  unfold jX7_tellLaw_38
  rw [h.1.2.2.2.2, if_pos (by decide)]
  dsimp only
  unfold brS
  rcases m_goesOn h.1 (by omega) with ⟨g1, g2, g3⟩ | ⟨g1, τ1, g2, g3, g4⟩
  · have q1 : tkS (kdT C L) 8 p = .ok (p + 1) := by unfold tkS; rw [if_pos hk, if_pos g1]
    rw [q1, g2, Option.bind_some]
    dsimp only
    have hFa : Fs (fun x j => x = M ∧ j = 11) σ (wI σ M 11 (nI (p + 1))) := Fs.rf.wI ⟨rfl, rfl⟩
    have La : ML (wI σ M 11 (nI (p + 1))) M C L S0 B0 (p + 1) s b := ⟨g3, (hFa.1 _ _ (by omega)).trans h.2.1, (hFa.1 _ _ (by omega)).trans h.2.2.1, by have := h.2.2.2.1; omega, h.2.2.2.2.1, (hFa.1 _ _ (by omega)).trans h33, hB⟩
    generalize wI σ M 11 (nI (p + 1)) = σa at hFa La
    have e20 : (wI σa (M + 20) b (vp_nar .boolean 1)).1 M 33 = nI b := by rw [wI_n (by omega)]; exact La.2.2.2.2.2.1
    have e39 : (wI σa (M + 20) b (vp_nar .boolean 1)).1 M 39 = nI s := by rw [wI_n (by omega)]; exact La.2.2.1
    rw [La.2.2.2.2.2.1]
    simp (disch := omega) only [vif, nI_clamp]
    rw [e20, e39]
    simp (disch := omega) only [vif, nI_clamp]
    have hFb : Fs (fun x j => (x = M + 20 ∨ x = M + 21) ∧ j = b) σa (wI (wI σa (M + 20) b (vp_nar .boolean 1)) (M + 21) b (nI s)) := (Fs.rf.wI (by omega)).wI (by omega)
    have Lb := La.fs hFb (fun k j q => by omega)
    have v20 : ¬ (wI (wI σa (M + 20) b (vp_nar .boolean 1)) (M + 21) b (nI s)).1 (M + 20) b = 0 := by rw [wI_n (by omega), wI_k, upd_k]; decide
    have v21 : (wI (wI σa (M + 20) b (vp_nar .boolean 1)) (M + 21) b (nI s)).1 (M + 21) b = nI s := by rw [wI_k, upd_k]
    generalize wI (wI σa (M + 20) b (vp_nar .boolean 1)) (M + 21) b (nI s) = σb at hFb Lb v20 v21
    have Fb : Fs (SGl M S0 s B0 b) σ σb := (hFa.mo (fun x j q => by unfold SGl SE; omega)).tr (hFb.mo (fun x j q => by unfold SGl; omega))
    obtain ⟨σc, c1, c2, c3⟩ := Lb.ex
    rw [c1, Option.bind_some]
    have Fc := Fb.tr (c2.mo (fun x j q => se (Nat.le_refl _) q))
    have c33 : σc.1 M 33 = nI b := (c2.1 _ _ (by unfold SE; omega)).trans Lb.2.2.2.2.2.1
    cases q2 : sumG (kdT C L) (vlV C L) 7 (p + 1) with
    | error e =>
      obtain ⟨k, q⟩ := e
      rw [q2] at c3
      rw [must_F c3, Option.bind_some]
      exact tail22 σc k q c3 Fc c33
    | ok e =>
      obtain ⟨p2, u⟩ := e
      rw [q2] at c3
      obtain ⟨Lc, su⟩ := c3
      dsimp only
      obtain ⟨σd, d1, d2, d3⟩ := Lc.mu (k := 28) (by omega)
      have d1 : fX7_must M 13 σc = some σd := d1
      rw [d1, Option.bind_some]
      have Fd := Fc.tr (d2.mo (fun x j q => by unfold SGl SE; omega))
      have d33 : σd.1 M 33 = nI b := (d2.1 _ _ (by omega)).trans c33
      cases q3 : tkS (kdT C L) 28 p2 with
      | error e =>
        obtain ⟨k, q⟩ := e
        rw [q3] at d3
        exact tail22 σd k q d3 Fd d33
      | ok p3 =>
        rw [q3] at d3
        obtain ⟨e3, Ld⟩ := d3
        dsimp only
        rw [d33, Ld.2.2.1]
        simp (disch := omega) only [vif, nI_clamp]
        have hFe : Fs (fun x j => x = M + 22 ∧ j = b) σd (wI σd (M + 22) b (nI (s + u.length))) := Fs.rf.wI ⟨rfl, rfl⟩
        have Le := Ld.fs hFe (fun k j q => by omega)
        have v22 : (wI σd (M + 22) b (nI (s + u.length))).1 (M + 22) b = nI (s + u.length) := by rw [wI_k, upd_k]
        generalize wI σd (M + 22) b (nI (s + u.length)) = σe at hFe Le v22
        rw [Le.1.2.2.2.2, if_pos rfl]
        have Fe := Fd.tr (hFe.mo (fun x j q => by unfold SGl; omega))
        obtain ⟨σf, f1, f2, f3⟩ := Le.ex
        rw [f1, Option.bind_some]
        have Ff := Fe.tr (f2.mo (fun x j q => se (by omega) q))
        have f33 : σf.1 M 33 = nI b := (f2.1 _ _ (by unfold SE; omega)).trans Le.2.2.2.2.2.1
        cases q4 : sumG (kdT C L) (vlV C L) 7 p3 with
        | error e =>
          obtain ⟨k, q⟩ := e
          rw [q4] at f3
          exact tail110 σf k q f3 Ff f33
        | ok e =>
          obtain ⟨p4, w⟩ := e
          rw [q4] at f3
          obtain ⟨Lf, sw⟩ := f3
          dsimp only
          obtain ⟨σg, g1', g2', g3'⟩ := Lf.mu (k := 9) (by omega)
          have g1' : fX7_must M 29 σf = some σg := g1'
          have Fg := Ff.tr (g2'.mo (fun x j q => by unfold SGl SE; omega))
          have g33 : σg.1 M 33 = nI b := (g2'.1 _ _ (by omega)).trans f33
          unfold jX7_tellLaw_110
          rw [g1', Option.bind_some]
          cases q5 : tkS (kdT C L) 9 p4 with
          | error e =>
            obtain ⟨k, q⟩ := e
            rw [q5] at g3'
            obtain ⟨τ, t1, t2, t3⟩ := term_F g3' g33 (by omega)
            rw [t1, Option.bind_some, must_F (g3'.fs t2 (fun j q z => by omega)), Option.bind_some]
            exact ⟨τ, rfl, g3'.fs t2 (fun j q z => by omega), Fg.tr (t2.mo (fun x j q => by unfold SGl; omega)), b + 1, by omega, by omega, t3⟩
          | ok p5 =>
            rw [q5] at g3'
            obtain ⟨e5, Lg⟩ := g3'
            dsimp only
            unfold fX7_term jX7_term_24
            rw [g33, Lg.2.2.1]
            simp (disch := omega) only [vif, nI_clamp]
            have hFh : Fs (fun x j => x = M + 23 ∧ j = b) σg (wI σg (M + 23) b (nI (s + u.length + w.length))) := Fs.rf.wI ⟨rfl, rfl⟩
            have Lh := Lg.fs hFh (fun k j q => by omega)
            have v23 : (wI σg (M + 23) b (nI (s + u.length + w.length))).1 (M + 23) b = nI (s + u.length + w.length) := by rw [wI_k, upd_k]
            generalize wI σg (M + 23) b (nI (s + u.length + w.length)) = σh at hFh Lh v23
            rw [Lh.1.2.2.2.2, if_pos rfl]
            have Fh := Fg.tr (hFh.mo (fun x j q => by unfold SGl; omega))
            obtain ⟨σi, i1, i2, i3⟩ := Lh.ex
            rw [i1, Option.bind_some]
            have Fi := Fh.tr (i2.mo (fun x j q => se (by omega) q))
            have i33 : σi.1 M 33 = nI b := (i2.1 _ _ (by unfold SE; omega)).trans Lh.2.2.2.2.2.1
            rw [i33]
            simp (disch := omega) only [vif, nI_clamp]
            have hFj : Fs (fun x j => x = M + 24 ∧ j = b ∨ x = M ∧ j = 33) σi (wI (wI σi (M + 24) b (σi.1 M 39)) M 33 ((wI σi (M + 24) b (σi.1 M 39)).1 M 33 + 1)) := (Fs.rf.wI (by omega)).wI (by omega)
            have j33 : (wI (wI σi (M + 24) b (σi.1 M 39)) M 33 ((wI σi (M + 24) b (σi.1 M 39)).1 M 33 + 1)).1 M 33 = nI (b + 1) := by rw [wI_k, upd_k, wI_n (by omega), i33, nI_s]
            have v24 : (wI (wI σi (M + 24) b (σi.1 M 39)) M 33 ((wI σi (M + 24) b (σi.1 M 39)).1 M 33 + 1)).1 (M + 24) b = σi.1 M 39 := by rw [wI_n (by omega), wI_k, upd_k]
            generalize wI (wI σi (M + 24) b (σi.1 M 39)) M 33 ((wI σi (M + 24) b (σi.1 M 39)).1 M 33 + 1) = σj at hFj j33 v24
            rw [Option.bind_some]
            have Fj := Fi.tr (hFj.mo (fun x j q => by unfold SGl; omega))
            cases q6 : sumG (kdT C L) (vlV C L) 7 p5 with
            | error e =>
              obtain ⟨k, q⟩ := e
              rw [q6] at i3
              have fj := i3.fs hFj (fun j q z => by omega)
              rw [must_F fj, Option.bind_some]
              exact ⟨σj, rfl, fj, Fj, b + 1, by omega, by omega, j33⟩
            | ok e =>
              obtain ⟨p6, x⟩ := e
              rw [q6] at i3
              obtain ⟨Li, sx⟩ := i3
              dsimp only
              have Lj : ML σj M C L S0 B0 p6 (s + u.length + w.length + x.length) (b + 1) := ⟨⟨Li.1.1.fs hFj (fun k j a1 a2 => by omega), (hFj.1 _ _ (by omega)).trans Li.1.2.1, Li.1.2.2.1, Li.1.2.2.2.1, (hFj.1 _ _ (by omega)).trans Li.1.2.2.2.2⟩, (hFj.1 _ _ (by omega)).trans Li.2.1, (hFj.1 _ _ (by omega)).trans Li.2.2.1, Li.2.2.2.1, Li.2.2.2.2.1, j33, by omega, by omega, by omega⟩
              obtain ⟨σk, k1, k2, k3⟩ := Lj.mu (k := 10) (by omega)
              have k1 : fX7_must M 30 σj = some σk := k1
              rw [k1, Option.bind_some]
              have Fk := Fj.tr (k2.mo (fun x j q => by unfold SGl SE; omega))
              have k33 : σk.1 M 33 = nI (b + 1) := (k2.1 _ _ (by omega)).trans j33
              cases q7 : tkS (kdT C L) 10 p6 with
              | error e =>
                obtain ⟨k, q⟩ := e
                rw [q7] at k3
                exact ⟨σk, rfl, k3, Fk, b + 1, by omega, by omega, k33⟩
              | ok p7 =>
                rw [q7] at k3
                obtain ⟨e7, Lk⟩ := k3
                have L5 := Lj.2.2.2.1
                have br : ∀ {S : Nat → Nat → Prop} {α β : Sg} {z : Nat}, Fs S α β → (∀ k j, S k j → ¬ (k = z ∧ j = b)) → β.1 z b = α.1 z b := fun {S α β z} hF hS => hF.1 _ _ (fun y => hS _ _ y ⟨rfl, rfl⟩)
                have jk : Fs (fun x j => x = M + 24 ∧ j = b ∨ x = M ∧ (j = 33 ∨ j = 11 ∨ j = 13 ∨ j = 14)) σi σk := (hFj.mo (fun x j q => by omega)).tr (k2.mo (fun x j q => by omega))
                have cq : ∀ {S : Nat → Nat → Prop} {α β : Sg} (i : Nat), Fs S α β → (∀ k j, S k j → (k = M + 25 ∨ k = M + 26) → i ≤ j) → ∀ j, j < i → β.1 (M + 25) j = α.1 (M + 25) j ∧ β.1 (M + 26) j = α.1 (M + 26) j := fun {S α β} i hF hS j hj => ⟨hF.1 _ _ (fun y => by have := hS _ _ y (Or.inl rfl); omega), hF.1 _ _ (fun y => by have := hS _ _ y (Or.inr rfl); omega)⟩
                have ckt : ∀ {α β γ : Sg} {i : Nat}, (∀ j, j < i → β.1 (M + 25) j = α.1 (M + 25) j ∧ β.1 (M + 26) j = α.1 (M + 26) j) → (∀ j, j < i → γ.1 (M + 25) j = β.1 (M + 25) j ∧ γ.1 (M + 26) j = β.1 (M + 26) j) → ∀ j, j < i → γ.1 (M + 25) j = α.1 (M + 25) j ∧ γ.1 (M + 26) j = α.1 (M + 26) j := fun h1 h2 j hj => ⟨(h2 j hj).1.trans (h1 j hj).1, (h2 j hj).2.trans (h1 j hj).2⟩
                refine ⟨σk, rfl, Lk, ⟨?_, ?_, ?_, ?_, ?_, ?_, ?_, ?_⟩, Fk⟩
                · rw [br jk (fun k j y => by omega), br i2 (fun k j y => by unfold SE at y; omega), br hFh (fun k j y => by omega), br g2' (fun k j y => by omega), br f2 (fun k j y => by unfold SE at y; omega), br hFe (fun k j y => by omega), br d2 (fun k j y => by omega), br c2 (fun k j y => by unfold SE at y; omega)]; exact v20
                · rw [br jk (fun k j y => by omega), br i2 (fun k j y => by unfold SE at y; omega), br hFh (fun k j y => by omega), br g2' (fun k j y => by omega), br f2 (fun k j y => by unfold SE at y; omega), br hFe (fun k j y => by omega), br d2 (fun k j y => by omega), br c2 (fun k j y => by unfold SE at y; omega)]; exact v21
                · rw [br jk (fun k j y => by omega), br i2 (fun k j y => by unfold SE at y; omega), br hFh (fun k j y => by omega), br g2' (fun k j y => by omega), br f2 (fun k j y => by unfold SE at y; omega)]; exact v22
                · rw [br jk (fun k j y => by omega), br i2 (fun k j y => by unfold SE at y; omega)]; exact v23
                · rw [br k2 (fun k j y => by omega), v24]; exact Li.2.2.1
                · exact segM_c su (fun j y1 y2 => ckt (cq (s + u.length) d2 (fun k j y => by omega)) (ckt (cq (s + u.length) hFe (fun k j y => by omega)) (ckt (cq (s + u.length) f2 (fun k j y => by unfold SE at y; omega)) (ckt (cq (s + u.length) g2' (fun k j y => by omega)) (ckt (cq (s + u.length) hFh (fun k j y => by omega)) (ckt (cq (s + u.length) i2 (fun k j y => by unfold SE at y; omega)) (cq (s + u.length) jk (fun k j y => by omega))))))) j (by omega))
                · exact segM_c sw (fun j y1 y2 => ckt (cq (s + u.length + w.length) g2' (fun k j y => by omega)) (ckt (cq (s + u.length + w.length) hFh (fun k j y => by omega)) (ckt (cq (s + u.length + w.length) i2 (fun k j y => by unfold SE at y; omega)) (cq (s + u.length + w.length) jk (fun k j y => by omega)))) j (by omega))
                · exact segM_c sx (fun j y1 y2 => cq (s + u.length + w.length + x.length) jk (fun k j y => by omega) j (by omega))
  · have q1 : tkS (kdT C L) 8 p = .error (2, p) := by unfold tkS; rw [if_pos hk, if_neg (by omega)]
    rw [q1, g2, Option.bind_some]
    dsimp only
    have e33 : τ1.1 M 33 = nI b := (g3.1 _ _ (by omega)).trans h33
    have e20 : (wI τ1 (M + 20) b (vp_nar .boolean 1)).1 M 33 = nI b := by rw [wI_n (by omega)]; exact e33
    rw [e33]
    simp (disch := omega) only [vif, nI_clamp]
    rw [e20]
    simp (disch := omega) only [vif, nI_clamp]
    generalize hσb : wI (wI τ1 (M + 20) b (vp_nar .boolean 1)) (M + 21) b ((wI τ1 (M + 20) b (vp_nar .boolean 1)).1 M 39) = σb
    have hFb : Fs (fun x j => (x = M + 20 ∨ x = M + 21) ∧ j = b) τ1 σb := by rw [← hσb]; exact (Fs.rf.wI (by omega)).wI (by omega)
    have fb := g4.fs hFb (fun j q z => by omega)
    have hFc : Fs (fun x j => x = M ∧ j = 43) σb (wI σb M 43 0) := Fs.rf.wI ⟨rfl, rfl⟩
    have fc := fb.fs hFc (fun j q z => by omega)
    rw [expr_F fb, Option.bind_some, must_F fc, Option.bind_some]
    exact tail22 (wI σb M 43 0) 2 p fc (((g3.mo (fun x j q => by unfold SGl SE; omega)).tr (hFb.mo (fun x j q => by unfold SGl; omega))).tr (hFc.mo (fun x j q => by unfold SGl SE; omega))) (by rw [wI_k, upd_n (by omega), hFb.1 _ _ (by omega)]; exact e33)
end MLAW
