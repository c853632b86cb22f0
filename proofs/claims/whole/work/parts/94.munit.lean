section MUNIT
variable {M L p s o S0 : Nat} {σ τ υ : Sg} {C : Nat → Nat} {W : List Nat}
noncomputable def contM (M : Nat) (σ48 : Sg) : Option ((Int32 × Sg) ⊕ ((Sg) ⊕ ((Sg) ⊕ (Sg)))) := (fX7_is M (8 : Int32) σ48).bind (fun q53 => let r51 := q53.1; let σ50 := q53.2; if r51 = 0 then ((fX7_is M (9 : Int32) σ50).bind (fun q84 => let r82 := q84.1; let σ81 := q84.2; if r82 = 0 then ((fX7_is M (10 : Int32) σ81).bind (fun q89 => let r87 := q89.1; let σ86 := q89.2; if r87 = 0 then ((fX7_is M (15 : Int32) σ86).bind (fun q94 => let r92 := q94.1; let σ91 := q94.2; if r92 = 0 then (jX7_expression_186 M 0 (0 : Int32) σ91) else (jX7_expression_181 M 0 σ91))) else (jX7_expression_181 M 0 σ86))) else (jX7_expression_181 M 0 σ81))) else (jX7_expression_181 M 0 σ50))
noncomputable def F12 (M : Nat) : Int32 × Sg → Option ((Int32 × Sg) ⊕ ((Sg) ⊕ ((Sg) ⊕ (Sg)))) := fun st => bX7_expression_12 M 0 st.1 st.2
noncomputable def thn (M : Nat) : (Int32 × Sg) ⊕ ((Sg) ⊕ ((Sg) ⊕ (Sg))) → Option ((Sg) ⊕ ((Sg) ⊕ (Sg))) := Sum.elim (lp (F12 M)) some
theorem lp_el {α β : Type} (f : α → Option (α ⊕ β)) (a : α) : lp f a = (f a).bind (Sum.elim (lp f) some) := by
  rw [lp_eq]
  cases f a with
  | none => rfl
  | some x => cases x <;> rfl
noncomputable def opnd (M : Nat) (σ : Sg) : Option ((Sg) ⊕ ((Sg) ⊕ (Sg))) := lp (F12 M) (1, σ)
noncomputable def aftL (M : Nat) (σ : Sg) : Option ((Sg) ⊕ ((Sg) ⊕ (Sg))) := ((lp (bX7_expression_96 M 0) σ).bind (contM M)).bind (thn M)
noncomputable def finM (M : Nat) (x : (Sg) ⊕ ((Sg) ⊕ (Sg))) : Option Sg := Sum.elim (fun σ96 => some σ96) (fun o95_ => Sum.elim (fun σ97 => if (σ97.1 M 12) ≤ 0 then (jX7_expression_204 M σ97) else ((fX7_fail M (1 : Int32) σ97).bind (fun σ104 => jX7_expression_204 M σ104))) (fun o95__ => (fun σ108 => some σ108) o95__) o95_) x
theorem op_un (h : σ.1 M 13 = 0) : opnd M σ = ((lp (bX7_expression_23 M 0) σ).bind (fun σ24 => (fX7_unit M σ24).bind (fun σ26 => if (σ26.1 M 13) ≤ 0 then ((lp (bX7_expression_96 M 0) σ26).bind (contM M)) else (some (Sum.inr (Sum.inl σ26)))))).bind (thn M) := by
  unfold opnd
  rw [lp_el]
  show (bX7_expression_12 M 0 1 σ).bind (thn M) = _
  conv => lhs; unfold bX7_expression_12
  rw [if_neg one0, if_pos h]
  rfl
/-- the model reads at p, s codes laid, o open, W waiting -/
def MT (σ : Sg) (M : Nat) (C : Nat → Nat) (L S0 p s o : Nat) (W : List Nat) : Prop := MP σ M C L p ∧ MC σ M S0 p s W ∧ σ.1 M 12 = nI o ∧ o ≤ 6
/-- it comes to a fault -/
def FA (M : Nat) (C : Nat → Nat) (L S0 s : Nat) (σ : Sg) (cmp : Option ((Sg) ⊕ ((Sg) ⊕ (Sg)))) (k q : Nat) : Prop := ∃ x τ, cmp = some x ∧ finM M x = some τ ∧ MF τ M C L k q ∧ Fs (SE M S0 s) σ τ
theorem MC.fs {S : Nat → Nat → Prop} (h : MC σ M S0 p s W) (hF : Fs S σ τ) (hS : ∀ j, (j = 39 ∨ j = 43) → ¬ S M j) (h27 : ∀ j, ¬ S (M + 27) j) : MC τ M S0 p s W := by
  obtain ⟨h1, h2, h3, h4⟩ := h
  refine ⟨(hF.1 _ _ (hS _ (Or.inl rfl))).trans h1, (hF.1 _ _ (hS _ (Or.inr rfl))).trans h2, ?_, h4⟩
  rw [hF.row h27]; exact h3
theorem MF.fs {S : Nat → Nat → Prop} {k q : Nat} (h : MF σ M C L k q) (hF : Fs S σ τ) (hS : ∀ j, (j = 13 ∨ j = 14) → ¬ S M j) : MF τ M C L k q := ⟨(hF.1 _ _ (hS _ (Or.inl rfl))).trans h.1, (hF.1 _ _ (hS _ (Or.inr rfl))).trans h.2.1, h.2.2⟩
theorem b23_n (h : MP σ M C L p) (hk : ¬ kdT C L p = 29) : lp (bX7_expression_23 M 0) σ = some σ := by
  refine lp_r ?_
  unfold bX7_expression_23
  rw [show fX7_is M 6 σ = some (if kdT C L p = 29 then 1 else 0, σ) from m_is h (k := 29) (by omega), if_neg hk, Option.bind_some]
  rfl
theorem b23_F {k q : Nat} (h : MF σ M C L k q) : lp (bX7_expression_23 M 0) σ = some σ := by
  refine lp_r ?_
  unfold bX7_expression_23
  rw [m_isF h.n.1, Option.bind_some]
  rfl
theorem unit_F {k q : Nat} (h : MF σ M C L k q) : fX7_unit M σ = some σ := by
  unfold fX7_unit jX7_unit_88
  rw [m_isF h.n.1, Option.bind_some]
  dsimp only
  rw [if_pos rfl, if_neg h.n.1, m_failF h.n.2]; rfl
/-- a fault in what comes first -/
theorem op_F {k q : Nat} (hz : σ.1 M 13 = 0) (hl : lp (bX7_expression_23 M 0) σ = some τ) (hu : fX7_unit M τ = some υ) (hf : MF υ M C L k q) (hF : Fs (SE M S0 s) σ υ) : FA M C L S0 s σ (opnd M σ) k q := by
  refine ⟨Sum.inl υ, υ, ?_, rfl, hf, hF⟩
  rw [op_un hz, hl, Option.bind_some, hu, Option.bind_some, if_neg hf.n.2]
  rfl
theorem mk_var {a : Nat} (ha : a ≤ 32) : (31 ≤ mkd a ∧ mkd a ≤ 39 ↔ 11 ≤ a ∧ a ≤ 19) ∧ (11 ≤ a ∧ a ≤ 19 → mkd a - 31 = a - 11) := by
  have hh : ∀ a : Fin 33, (31 ≤ mkd a.1 ∧ mkd a.1 ≤ 39 ↔ 11 ≤ a.1 ∧ a.1 ≤ 19) ∧ (11 ≤ a.1 ∧ a.1 ≤ 19 → mkd a.1 - 31 = a.1 - 11) := by decide +kernel
  exact hh ⟨a, by omega⟩
/-- a code and its token -/
theorem m_step (h : MT σ M C L S0 p s o W) (hk31 : kdT C L p < 31) (hk29 : ¬ kdT C L p = 29) {k x : Nat} (hu : fX7_unit M σ = (fX7_emit M (nI k) (nI x) σ).bind (fun σ16 => (fX7_goesOn M σ16).bind (fun σ21 => some σ21))) : (p < 400 ∧ ∃ τ, opnd M σ = aftL M τ ∧ MT τ M C L S0 (p + 1) (s + 1) o W ∧ segM (τ.1 (M + 25)) (τ.1 (M + 26)) s [(k, x)] ∧ Fs (SE M S0 s) σ τ) ∨ (p = 400 ∧ FA M C L S0 s σ (opnd M σ) 2 p) := by
  obtain ⟨h1, h2, h3, h4⟩ := h
  have hp := h1.2.2.1
  have hb := h2.2.2.2
  rw [m_emit h2.1 (by omega), Option.bind_some] at hu
  generalize hσ1 : wI (wI (wI σ (M + 25) s (nI k)) (M + 26) s (nI x)) M 39 (nI (s + 1)) = σ1 at hu
  have hF1 : Fs (fun k j => (k = M + 25 ∨ k = M + 26) ∧ j = s ∨ k = M ∧ j = 39) σ σ1 := by rw [← hσ1]; exact ((Fs.rf.wI (by omega)).wI (by omega)).wI (by omega)
  have hP1 : MP σ1 M C L p := ⟨h1.1.fs hF1 (fun k j a1 a2 => by omega), (hF1.1 _ _ (by omega)).trans h1.2.1, hp, h1.2.2.2.1, (hF1.1 _ _ (by omega)).trans h1.2.2.2.2⟩
  rcases m_goesOn hP1 hk31 with ⟨g1, g2, g3⟩ | ⟨g1, τ, g2, g3, g4⟩
  · left
    rw [g2, Option.bind_some] at hu
    have hF2 : Fs (fun k j => (k = M + 25 ∨ k = M + 26) ∧ j = s ∨ k = M ∧ (j = 39 ∨ j = 11)) σ (wI σ1 M 11 (nI (p + 1))) := (hF1.mo (fun k j q => by omega)).wI (by omega)
    refine ⟨g1, wI σ1 M 11 (nI (p + 1)), ?_, ⟨g3, ⟨?_, (hF2.1 _ _ (by omega)).trans h2.2.1, by rw [hF2.row (fun j => by omega)]; exact h2.2.2.1, by omega, h2.2.2.2.2.1, h2.2.2.2.2.2.1, h2.2.2.2.2.2.2.1, by omega⟩, (hF2.1 _ _ (by omega)).trans h3, h4⟩, ⟨?_, ?_, trivial⟩, hF2.mo (fun k j q => by unfold SE; omega)⟩
    · rw [op_un h1.2.2.2.2, b23_n h1 hk29, Option.bind_some, hu, Option.bind_some, if_pos (by rw [g3.2.2.2.2]; decide)]
      rfl
    · rw [wI_k, upd_n (by omega), ← hσ1, wI_k, upd_k]
    · rw [wI_n (by omega), ← hσ1, wI_n (by omega), wI_n (by omega), wI_k, upd_k]
    · rw [wI_n (by omega), ← hσ1, wI_n (by omega), wI_k, upd_k]
  · right
    rw [g2, Option.bind_some] at hu
    refine ⟨g1, op_F h1.2.2.2.2 (b23_n h1 hk29) hu (by rw [g1] at g4 ⊢; exact g4) ((hF1.mo (fun k j q => by unfold SE; omega)).tr (g3.mo (fun k j q => by unfold SE; omega)))⟩
theorem unit_num (h : MP σ M C L p) (hk : kdT C L p = 21) : fX7_unit M σ = (fX7_emit M (nI 0) (nI (vlV C L p)) σ).bind (fun σ16 => (fX7_goesOn M σ16).bind (fun σ21 => some σ21)) := by
  have hp := h.2.2.1
  unfold fX7_unit
  rw [show fX7_is M 2 σ = some (if kdT C L p = 21 then 1 else 0, σ) from m_is h (k := 21) (by omega), if_pos hk, Option.bind_some]
  dsimp only
  rw [if_neg one0, h.2.1]
  simp (disch := omega) only [vif, nI_clamp]
  rw [h.en.2.2.1 hk]
  rfl
theorem unit_var (h : MP σ M C L p) (hk : 11 ≤ kdT C L p ∧ kdT C L p ≤ 19) : fX7_unit M σ = (fX7_emit M (nI 1) (nI (kdT C L p - 11)) σ).bind (fun σ16 => (fX7_goesOn M σ16).bind (fun σ21 => some σ21)) := by
  have hp := h.2.2.1
  obtain ⟨v1, v2⟩ := mk_var (kd_lt C L p)
  have v3 := v1.mpr hk
  unfold fX7_unit
  rw [show fX7_is M 2 σ = some (if kdT C L p = 21 then 1 else 0, σ) from m_is h (k := 21) (by omega), if_neg (by omega), Option.bind_some]
  dsimp only
  rw [if_pos rfl, h.2.2.2.2, if_pos rfl, h.2.1]
  simp (disch := omega) only [vif, nI_clamp]
  rw [h.en.1, if_neg (Int32.not_lt.mpr (show (31 : Int32) ≤ nI (mkd (kdT C L p)) from nI_le (a := 31) (by omega) (by omega))), if_neg (Int32.not_lt.mpr (show nI (mkd (kdT C L p)) ≤ 39 from nI_le (b := 39) (by omega) (by omega))), show nI (mkd (kdT C L p)) - 31 = nI (mkd (kdT C L p) - 31) from pk_sub (b := 31) (by omega), v2 hk]
  rfl
theorem unit_bad (h : MP σ M C L p) (h1 : ¬ kdT C L p = 21) (h2 : ¬ (11 ≤ kdT C L p ∧ kdT C L p ≤ 19)) : ∃ τ, fX7_unit M σ = some τ ∧ Fs (fun x j => x = M ∧ (j = 13 ∨ j = 14)) σ τ ∧ MF τ M C L 1 p := by
  have hp := h.2.2.1
  obtain ⟨v1, v2⟩ := mk_var (kd_lt C L p)
  have hm := mk_lt _ (kd_lt C L p)
  obtain ⟨τ, a1, a2, a3⟩ := m_fail h (k := 1) (Or.inl rfl)
  have a1 : fX7_fail M 1 σ = some τ := a1
  refine ⟨τ, ?_, a2, a3⟩
  unfold fX7_unit jX7_unit_88
  rw [show fX7_is M 2 σ = some (if kdT C L p = 21 then 1 else 0, σ) from m_is h (k := 21) (by omega), if_neg h1, Option.bind_some]
  dsimp only
  rw [if_pos rfl, h.2.2.2.2, if_pos rfl, h.2.1]
  simp (disch := omega) only [vif, nI_clamp]
  rw [h.en.1, a1]
  by_cases q : mkd (kdT C L p) < 31
  · rw [if_pos (Int32.not_le.mp (show ¬ (31 : Int32) ≤ nI (mkd (kdT C L p)) from le_nI (a := 31) (by omega) (by omega) q))]; rfl
  · exact absurd (v1.mp ⟨by omega, by omega⟩) h2
end MUNIT
