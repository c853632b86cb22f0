section MSUM
variable {M L p s o g S0 D0 : Nat} {σ τ υ : Sg} {C : Nat → Nat} {W P R : List Nat}
def URs (M : Nat) (C : Nat → Nat) (L S0 : Nat) (σ : Sg) (s o : Nat) (W : List Nat) (cmp : Option ((Sg) ⊕ ((Sg) ⊕ (Sg)))) (r : Ex) : Prop := match r with
  | .error (k, q) => FA M C L S0 s σ cmp k q
  | .ok (q, c) => ∃ τ, cmp = aftL M τ ∧ MT τ M C L S0 q (s + c.length) o W ∧ segM (τ.1 (M + 25)) (τ.1 (M + 26)) s c ∧ Fs (SE M S0 s) σ τ
/-- with signs that still wait: of the kinds from a on -/
def PRs (M : Nat) (C : Nat → Nat) (L S0 : Nat) (σ : Sg) (s o : Nat) (W : List Nat) (a : Nat) (cmp : Option ((Sg) ⊕ ((Sg) ⊕ (Sg)))) (r : Ex) : Prop := match r with
  | .error (k, q) => FA M C L S0 s σ cmp k q
  | .ok (q, c) => ∃ τ P c0, cmp = aftL M τ ∧ c = c0 ++ flu P ∧ P.length ≤ (28 - a) / 2 ∧ (∀ w, w ∈ P → (w = 8 ∨ w = 9 ∨ w = 10 ∨ w = 15) ∧ (26 ≤ a → w = 10 ∨ w = 15)) ∧ MT τ M C L S0 q (s + c0.length) o (P ++ W) ∧ segM (τ.1 (M + 25)) (τ.1 (M + 26)) s c0 ∧ Fs (SE M S0 s) σ τ ∧ ¬ (a ≤ kdT C L q ∧ kdT C L q ≤ 27)
theorem m_unitS {S : Nat → Ex} (hg : o + g = 6) (hW : W.length ≤ 3 * o + 2) (hS : 0 < g → ∀ σ p s W, MT σ M C L S0 p s (o + 1) W → (W = [] ∨ ∃ r, W = 6 :: r) → W.length ≤ 3 * (o + 1) → PRs M C L S0 σ s (o + 1) W 24 (opnd M σ) (S p)) (h : MT σ M C L S0 p s o W) : URs M C L S0 σ s o W (opnd M σ) (unS (kdT C L) (vlV C L) S g p) := by
  have hp := h.1.2.2.1
  unfold unS
  by_cases q1 : kdT C L p = 21
  · rw [if_pos q1]
    rcases m_step h (by omega) (by omega) (unit_num h.1 q1) with ⟨a1, τ, a2, a3, a4, a5⟩ | ⟨a1, a2⟩
    · rw [if_pos a1]
      exact ⟨τ, a2, a3, a4, a5⟩
    · rw [if_neg (by omega)]
      exact a2
  · rw [if_neg q1]
    by_cases q2 : 11 ≤ kdT C L p ∧ kdT C L p ≤ 19
    · rw [if_pos q2]
      rcases m_step h (by omega) (by omega) (unit_var h.1 q2) with ⟨a1, τ, a2, a3, a4, a5⟩ | ⟨a1, a2⟩
      · rw [if_pos a1]
        exact ⟨τ, a2, a3, a4, a5⟩
      · rw [if_neg (by omega)]
        exact a2
    · rw [if_neg q2]
      by_cases q3 : kdT C L p = 29
      · rw [if_pos q3]
        have ho := h.2.2.2
        by_cases q4 : g = 0
        · rw [if_pos q4]
          exact m_openF h q3 (Or.inl (by omega)) (by omega)
        · rw [if_neg q4]
          by_cases q5 : p < 400
          · rw [if_pos q5]
            obtain ⟨τ, a1, a2, a3⟩ := m_open h q3 (by omega) q5 (by omega)
            have hs := hS (by omega) τ (p + 1) s (6 :: W) a2 (Or.inr ⟨W, rfl⟩) (by show W.length + 1 ≤ _; omega)
            rw [a1]
            cases hq : S (p + 1) with
            | error e =>
              obtain ⟨k, x⟩ := e
              rw [hq] at hs
              exact FA.pre hs a3 (Nat.le_refl _)
            | ok e =>
              obtain ⟨x, c⟩ := e
              rw [hq] at hs
              obtain ⟨τ2, P, c0, b1, b2, b3, b4, b5, b6, b7, b8⟩ := hs
              dsimp only
              by_cases q6 : kdT C L x = 30
              · rw [if_pos q6]
                rcases m_close b5 q6 (fun w hw => (b4 w hw).1) with ⟨d1, τ3, d2, d3, d4, d5⟩ | ⟨d1, d2⟩
                · rw [if_pos d1]
                  have hl : c.length = c0.length + P.length := by rw [b2, List.length_append]; unfold flu; rw [List.length_map]
                  refine ⟨τ3, by rw [b1, d2], ?_, ?_, a3.tr (b7.tr (d5.mo (fun k j q => SE_mo (by omega) q)))⟩
                  · rw [hl, ← Nat.add_assoc]; exact d3
                  · rw [b2]
                    exact segM_a (segM_f b6 d5 (by omega)) d4
                · rw [if_neg (by omega)]
                  exact (FA.pre (FA.eq d2 b1) (a3.tr b7) (by omega))
              · rw [if_neg q6]
                exact FA.pre (FA.eq (m_endF b5 b8 q6 (by omega)) b1) (a3.tr b7) (by omega)
          · rw [if_neg q5]
            exact m_openF h q3 (Or.inr (by omega)) (by omega)
      · rw [if_neg q3]
        obtain ⟨τ, a1, a2, a3⟩ := unit_bad h.1 q1 q2
        exact op_F h.1.2.2.2.2 (b23_n h.1 q3) a1 a3 (a2.mo (fun k j q => by unfold SE; omega))
theorem flu_l (P : List Nat) : (flu P).length = P.length := by unfold flu; rw [List.length_map]
theorem ec_k {a : Nat} (ha : a = 24 ∨ a = 26) {k : Nat} (hk : k = a ∨ k = a + 1) : ecN (mkd k) = if k = a then (if a = 24 then 2 else 4) else (if a = 24 then 3 else 5) := by
  rcases ha with rfl | rfl <;> rcases hk with rfl | rfl <;> rfl
/-- products -/
theorem m_prL {u : Nat → Ex} (hgd : ∀ p, p ≤ 400 → GD (kdT C L) D0 p (u p)) (hW : W.length ≤ 3 * o + 1) (hWt : W = [] ∨ ∃ w r, W = w :: r ∧ (w = 6 ∨ w = 8 ∨ w = 9)) (ho : o ≤ 6) (hu : ∀ σ p s w, (w = 10 ∨ w = 15) → MT σ M C L S0 p s o (w :: W) → URs M C L S0 σ s o (w :: W) (opnd M σ) (u p)) : ∀ (f p : Nat) (c c0 : Rp) (P : List Nat) (σ τ : Sg), 401 ≤ f + p → c = c0 ++ flu P → P.length ≤ 1 → (∀ w, w ∈ P → w = 10 ∨ w = 15) → MT τ M C L S0 p (s + c0.length) o (P ++ W) → segM (τ.1 (M + 25)) (τ.1 (M + 26)) s c0 → Fs (SE M S0 s) σ τ → PRs M C L S0 σ s o W 26 (aftL M τ) (oxL (kdT C L) 26 4 u f p c)
  | 0, p, c, c0, P, σ, τ, hf, hc, hP1, hP, hT, hs, hF => by have := hT.1.2.2.1; omega
  | f + 1, p, c, c0, P, σ, τ, hf, hc, hP1, hP, hT, hs, hF => by
    have hp := hT.1.2.2.1
    rw [oxL_s]
    unfold stS
    by_cases q : kdT C L p = 26 ∨ kdT C L p = 26 + 1
    · rw [if_pos q]
      rcases m_op hT (by omega) (fun w hw => ⟨by have := hP w hw; omega, fun _ => hP w hw⟩) (by
        rcases hWt with z | ⟨w, r, z1, z2⟩
        · exact Or.inl z
        · refine Or.inr ⟨w, r, z1, ?_⟩
          rcases z2 with z2 | z2
          · exact Or.inl z2
          · exact Or.inr ⟨by omega, z2⟩) (by omega) with ⟨a1, τ2, a2, a3, a4, a5⟩ | ⟨a1, a2⟩
      · rw [if_pos a1]
        have hk : mkd (kdT C L p) = 10 ∨ mkd (kdT C L p) = 15 := by rcases q with q | q <;> rw [q] <;> decide
        have hu2 := hu τ2 (p + 1) (s + c0.length + P.length) (mkd (kdT C L p)) hk a3
        have gd := hgd (p + 1) (by omega)
        cases hq : u (p + 1) with
        | error e =>
          obtain ⟨k, x⟩ := e
          rw [hq] at hu2
          exact FA.eq (FA.pre hu2 (hF.tr (a5.mo (fun k j q => SE_mo (by omega) q))) (by omega)) a2
        | ok e =>
          obtain ⟨x, c'⟩ := e
          rw [hq] at hu2 gd
          obtain ⟨τ3, b1, b2, b3, b4⟩ := hu2
          obtain ⟨g1, -⟩ := gd
          have fF : Fs (SE M S0 s) σ τ3 := hF.tr ((a5.mo (fun k j q => SE_mo (by omega) q)).tr (b4.mo (fun k j q => SE_mo (by omega) q)))
          have hl : (c ++ c').length = c0.length + P.length + c'.length := by rw [hc, List.length_append, List.length_append, flu_l]
          have := m_prL hgd hW hWt ho hu f x (c ++ (c' ++ [(if kdT C L p = 26 then 4 else 4 + 1, 0)])) (c ++ c') [mkd (kdT C L p)] σ τ3 (by omega) (by
            rw [← List.append_assoc]
            show c ++ c' ++ _ = c ++ c' ++ [(ecN (mkd (kdT C L p)), 0)]
            rw [ec_k (a := 26) (Or.inr rfl) q]
            rfl) (by show 1 ≤ 1; omega) (fun w hw => by rw [List.mem_singleton.mp hw]; exact hk) (by rw [hl, show s + (c0.length + P.length + c'.length) = s + c0.length + P.length + c'.length by omega]; exact b2) (by
            refine segM_a ?_ ?_
            · rw [hc]
              refine segM_a (segM_f (segM_f hs a5 (by omega)) b4 (by omega)) (segM_f a4 b4 (by rw [flu_l]; exact Nat.le_refl _))
            · rw [hc, List.length_append, flu_l, ← Nat.add_assoc]; exact b3) fF
          rw [← b1, ← a2] at this
          exact this
      · rw [if_neg (by omega)]
        exact FA.pre a2 hF (by omega)
    · rw [if_neg q]
      exact ⟨τ, P, c0, rfl, hc, by omega, fun w hw => ⟨by have := hP w hw; omega, fun _ => hP w hw⟩, hT, hs, hF, by omega⟩
theorem m_prS {u : Nat → Ex} (hgd : ∀ p, p ≤ 400 → GD (kdT C L) D0 p (u p)) (hW : W.length ≤ 3 * o + 1) (hWt : W = [] ∨ ∃ w r, W = w :: r ∧ (w = 6 ∨ w = 8 ∨ w = 9)) (hu : ∀ W σ p s, W.length ≤ 3 * o + 2 → MT σ M C L S0 p s o W → URs M C L S0 σ s o W (opnd M σ) (u p)) (h : MT σ M C L S0 p s o W) : PRs M C L S0 σ s o W 26 (opnd M σ) (oxS (kdT C L) 26 4 u p) := by
  have ho := h.2.2.2
  unfold oxS
  have h1 := hu W σ p s (by omega) h
  cases hq : u p with
  | error e =>
    obtain ⟨k, x⟩ := e
    rw [hq] at h1
    exact h1
  | ok e =>
    obtain ⟨x, c⟩ := e
    rw [hq] at h1
    obtain ⟨τ, b1, b2, b3, b4⟩ := h1
    have := m_prL hgd hW hWt ho (fun σ p s w hw hT => hu (w :: W) σ p s (by show W.length + 1 ≤ _; omega) hT) 401 x c c [] σ τ (by omega) (by show c = c ++ []; rw [List.append_nil]) (by show 0 ≤ 1; omega) (fun w hw => by cases hw) b2 b3 b4
    rw [← b1] at this
    exact this
/-- sums -/
theorem m_smL {u : Nat → Ex} (hgd : ∀ p, p ≤ 400 → GD (kdT C L) D0 p (u p)) (hW : W.length ≤ 3 * o) (hWt : W = [] ∨ ∃ r, W = 6 :: r) (ho : o ≤ 6) (hu : ∀ σ p s w, (w = 8 ∨ w = 9) → MT σ M C L S0 p s o (w :: W) → PRs M C L S0 σ s o (w :: W) 26 (opnd M σ) (u p)) : ∀ (f p : Nat) (c c0 : Rp) (P : List Nat) (σ τ : Sg), 401 ≤ f + p → c = c0 ++ flu P → P.length ≤ 2 → (∀ w, w ∈ P → w = 8 ∨ w = 9 ∨ w = 10 ∨ w = 15) → MT τ M C L S0 p (s + c0.length) o (P ++ W) → segM (τ.1 (M + 25)) (τ.1 (M + 26)) s c0 → Fs (SE M S0 s) σ τ → ¬ (26 ≤ kdT C L p ∧ kdT C L p ≤ 27) → PRs M C L S0 σ s o W 24 (aftL M τ) (oxL (kdT C L) 24 2 u f p c)
  | 0, p, c, c0, P, σ, τ, hf, hc, hP1, hP, hT, hs, hF, hn => by have := hT.1.2.2.1; omega
  | f + 1, p, c, c0, P, σ, τ, hf, hc, hP1, hP, hT, hs, hF, hn => by
    have hp := hT.1.2.2.1
    rw [oxL_s]
    unfold stS
    by_cases q : kdT C L p = 24 ∨ kdT C L p = 24 + 1
    · rw [if_pos q]
      rcases m_op hT (by omega) (fun w hw => ⟨hP w hw, fun z => by omega⟩) (by
        rcases hWt with z | ⟨r, z⟩
        · exact Or.inl z
        · exact Or.inr ⟨6, r, z, Or.inl rfl⟩) (by omega) with ⟨a1, τ2, a2, a3, a4, a5⟩ | ⟨a1, a2⟩
      · rw [if_pos a1]
        have hk : mkd (kdT C L p) = 8 ∨ mkd (kdT C L p) = 9 := by rcases q with q | q <;> rw [q] <;> decide
        have hu2 := hu τ2 (p + 1) (s + c0.length + P.length) (mkd (kdT C L p)) hk a3
        have gd := hgd (p + 1) (by omega)
        cases hq : u (p + 1) with
        | error e =>
          obtain ⟨k, x⟩ := e
          rw [hq] at hu2
          exact FA.eq (FA.pre hu2 (hF.tr (a5.mo (fun k j q => SE_mo (by omega) q))) (by omega)) a2
        | ok e =>
          obtain ⟨x, c'⟩ := e
          rw [hq] at hu2 gd
          obtain ⟨τ3, P3, c3, b1, b2, b3, b4, b5, b6, b7, b8⟩ := hu2
          obtain ⟨g1, -⟩ := gd
          have fF : Fs (SE M S0 s) σ τ3 := hF.tr ((a5.mo (fun k j q => SE_mo (by omega) q)).tr (b7.mo (fun k j q => SE_mo (by omega) q)))
          have hl : (c ++ c3).length = c0.length + P.length + c3.length := by rw [hc, List.length_append, List.length_append, flu_l]
          have eP : (P3 ++ [mkd (kdT C L p)]) ++ W = P3 ++ mkd (kdT C L p) :: W := by rw [List.append_assoc]; rfl
          have := m_smL hgd hW hWt ho hu f x (c ++ (c' ++ [(if kdT C L p = 24 then 2 else 2 + 1, 0)])) (c ++ c3) (P3 ++ [mkd (kdT C L p)]) σ τ3 (by omega) (by
            have e1 : flu (P3 ++ [mkd (kdT C L p)]) = flu P3 ++ [(ecN (mkd (kdT C L p)), 0)] := by unfold flu; rw [List.map_append]; rfl
            rw [e1, b2, ec_k (a := 24) (Or.inl rfl) q, List.append_assoc, List.append_assoc]
            rfl) (by rw [List.length_append]; show P3.length + 1 ≤ 2; omega) (fun w hw => by
            rcases List.mem_append.mp hw with z | z
            · exact (b4 w z).1
            · rw [List.mem_singleton.mp z]; omega) (by rw [hl, eP, show s + (c0.length + P.length + c3.length) = s + c0.length + P.length + c3.length by omega]; exact b5) (by
            refine segM_a ?_ ?_
            · rw [hc]
              refine segM_a (segM_f (segM_f hs a5 (by omega)) b7 (by omega)) (segM_f a4 b7 (by rw [flu_l]; exact Nat.le_refl _))
            · rw [hc, List.length_append, flu_l, ← Nat.add_assoc]; exact b6) fF b8
          rw [← b1, ← a2] at this
          exact this
      · rw [if_neg (by omega)]
        exact FA.pre a2 hF (by omega)
    · rw [if_neg q]
      exact ⟨τ, P, c0, rfl, hc, by omega, fun w hw => ⟨hP w hw, fun z => by omega⟩, hT, hs, hF, by omega⟩
theorem m_smS {u : Nat → Ex} (hgd : ∀ p, p ≤ 400 → GD (kdT C L) D0 p (u p)) (hW : W.length ≤ 3 * o) (hWt : W = [] ∨ ∃ r, W = 6 :: r) (hu : ∀ W σ p s, W.length ≤ 3 * o + 1 → (W = [] ∨ ∃ w r, W = w :: r ∧ (w = 6 ∨ w = 8 ∨ w = 9)) → MT σ M C L S0 p s o W → PRs M C L S0 σ s o W 26 (opnd M σ) (u p)) (h : MT σ M C L S0 p s o W) : PRs M C L S0 σ s o W 24 (opnd M σ) (oxS (kdT C L) 24 2 u p) := by
  have ho := h.2.2.2
  unfold oxS
  have h1 := hu W σ p s (by omega) (by
    rcases hWt with z | ⟨r, z⟩
    · exact Or.inl z
    · exact Or.inr ⟨6, r, z, Or.inl rfl⟩) h
  cases hq : u p with
  | error e =>
    obtain ⟨k, x⟩ := e
    rw [hq] at h1
    exact h1
  | ok e =>
    obtain ⟨x, c⟩ := e
    rw [hq] at h1
    obtain ⟨τ, P, c0, b1, b2, b3, b4, b5, b6, b7, b8⟩ := h1
    have := m_smL hgd hW hWt ho (fun σ p s w hw hT => hu (w :: W) σ p s (by show W.length + 1 ≤ _; omega) (Or.inr ⟨w, W, rfl, by omega⟩) hT) 401 x c c0 P σ τ (by omega) b2 (by omega) (fun w hw => (b4 w hw).1) b5 b6 b7 b8
    rw [← b1] at this
    exact this
theorem m_sumG : ∀ (g o : Nat) (W : List Nat) (σ : Sg) (p s : Nat), o + g = 6 → W.length ≤ 3 * o → (W = [] ∨ ∃ r, W = 6 :: r) → MT σ M C L S0 p s o W → PRs M C L S0 σ s o W 24 (opnd M σ) (sumG (kdT C L) (vlV C L) (g + 1) p)
  | g, o, W, σ, p, s, hg, hW, hWt, h => by
    have hV : ∀ p, kdT C L p = 21 → vlV C L p ≤ 9999 := fun p hp => vlV_le hp
    have gu : ∀ p, p ≤ 400 → GD (kdT C L) (2 * g + 1) p (unS (kdT C L) (vlV C L) (sumG (kdT C L) (vlV C L) g) g p) := fun p hp => un_gd hV hp (by omega) (fun _ p hp => sum_gd hV g p hp)
    have gp : ∀ p, p ≤ 400 → GD (kdT C L) (2 * g + 2) p (oxS (kdT C L) 26 4 (unS (kdT C L) (vlV C L) (sumG (kdT C L) (vlV C L) g) g) p) := fun p hp => oxS_gd (by omega) (by omega) (by omega) gu p hp
    show PRs M C L S0 σ s o W 24 (opnd M σ) (oxS (kdT C L) 24 2 (oxS (kdT C L) 26 4 (unS (kdT C L) (vlV C L) (sumG (kdT C L) (vlV C L) g) g)) p)
    refine m_smS gp hW hWt (fun W σ p s hW hWt h => m_prS gu hW hWt (fun W σ p s hW h => m_unitS hg hW (fun h0 σ p s W h hWt hW => ?_) h) h) h
    obtain ⟨g', rfl⟩ : ∃ g', g = g' + 1 := ⟨g - 1, by omega⟩
    exact m_sumG g' (o + 1) W σ p s (by omega) hW hWt h
/-- an expression, by the model -/
theorem m_expr (h1 : MP σ M C L p) (h12 : σ.1 M 12 = 0) (h39 : σ.1 M 39 = nI s) (hb : s ≤ S0 + p) (hS0 : S0 ≤ 420) : ∃ τ, fX7_expression M σ = some τ ∧ Fs (SE M S0 s) σ τ ∧ (match sumG (kdT C L) (vlV C L) 7 p with
    | .error (k, q) => MF τ M C L k q
    | .ok (q, c) => MP τ M C L q ∧ τ.1 M 12 = 0 ∧ τ.1 M 39 = nI (s + c.length) ∧ segM (τ.1 (M + 25)) (τ.1 (M + 26)) s c) := by
  have hp := h1.2.2.1
  have hF0 : Fs (fun k j => k = M ∧ j = 43) σ (wI σ M 43 0) := Fs.rf.wI ⟨rfl, rfl⟩
  generalize hσ1 : wI σ M 43 0 = σ1 at hF0
  have hT : MT σ1 M C L S0 p s 0 [] := ⟨⟨h1.1.fs hF0 (fun k j a1 a2 => by omega), (hF0.1 _ _ (by omega)).trans h1.2.1, hp, h1.2.2.2.1, (hF0.1 _ _ (by omega)).trans h1.2.2.2.2⟩, ⟨(hF0.1 _ _ (by omega)).trans h39, by rw [← hσ1, wI_k, upd_k]; rfl, trivial, by show s + 0 ≤ _; omega, (fun w hw => by cases hw), by show 0 ≤ 24; omega, hS0, hp⟩, (hF0.1 _ _ (by omega)).trans h12, by omega⟩
  have un : fX7_expression M σ = (opnd M σ1).bind (finM M) := by
    unfold fX7_expression opnd F12 finM
    dsimp only
    rw [hσ1, show σ1.1 M 12 = 0 from (hF0.1 _ _ (by omega)).trans h12]
  have r := m_sumG 6 0 [] σ1 p s (by omega) (by show 0 ≤ 0; omega) (Or.inl rfl) hT
  rw [un]
  cases hq : sumG (kdT C L) (vlV C L) 7 p with
  | error e =>
    obtain ⟨k, q⟩ := e
    rw [hq] at r
    obtain ⟨x, τ, b1, b2, b3, b4⟩ := r
    exact ⟨τ, by rw [b1, Option.bind_some, b2], (hF0.mo (fun k j q => by unfold SE; omega)).tr b4, b3⟩
  | ok e =>
    obtain ⟨q, c⟩ := e
    rw [hq] at r
    obtain ⟨τ, P, c0, b1, b2, b3, b4, b5, b6, b7, b8⟩ := r
    have hP0 : P ++ [] = P := List.append_nil P
    obtain ⟨τ2, d1, d2, d3, d4, d5⟩ := m_out (M := M) (S0 := S0) (p := q) 0 (R := []) (Or.inl rfl) P τ (s + c0.length) (fun w hw => ⟨(b4 w hw).1, fun z => absurd rfl z⟩) b5.2.1
    refine ⟨τ2, ?_, (hF0.mo (fun k j q => by unfold SE; omega)).tr (b7.tr (d2.mo (fun k j q => SE_mo (by omega) q))), ⟨⟨b5.1.1.fs d2 (fun k j a1 a2 z => by unfold SE at z; omega), (d5 11 (by omega) (by omega)).trans b5.1.2.1, b5.1.2.2.1, b5.1.2.2.2.1, (d5 13 (by omega) (by omega)).trans b5.1.2.2.2.2⟩, (d5 12 (by omega) (by omega)).trans b5.2.2.1, ?_, ?_⟩⟩
    · rw [b1, m_end b5 b8 (Or.inr rfl), Option.bind_some]
      show (if (τ.1 M 12) ≤ 0 then (jX7_expression_204 M τ) else ((fX7_fail M (1 : Int32) τ).bind (fun σ104 => jX7_expression_204 M σ104))) = some τ2
      rw [b5.2.2.1, if_pos (by decide)]
      unfold jX7_expression_204
      rw [d1]; rfl
    · rw [d3.1, b2, List.length_append, flu_l, ← Nat.add_assoc]
    · rw [b2]
      exact segM_a (segM_f b6 d2 (Nat.le_refl _)) d4
end MSUM
