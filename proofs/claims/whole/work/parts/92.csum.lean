section CEXPR3
variable {t L p s g D0 : Nat} {σ τ υ : Sg} {C : Nat → Nat}
/-- a sign and what stands behind it -/
def stS (K : Nat → Nat) (a b : Nat) (u : Nat → Ex) (p : Nat) : Option Ex := if K p = a ∨ K p = a + 1 then some (if p < 400 then (match u (p + 1) with
    | .error e => .error e
    | .ok (q, c') => .ok (q, c' ++ [(if K p = a then b else b + 1, 0)])) else .error (2, p)) else none
theorem oxL_s (K : Nat → Nat) (a b : Nat) (u : Nat → Ex) (f p : Nat) (c : Rp) : oxL K a b u (f + 1) p c = match stS K a b u p with
    | none => .ok (p, c)
    | some (.error e) => .error e
    | some (.ok (q, c')) => oxL K a b u f q (c ++ c') := by
  rw [show oxL K a b u (f + 1) p c = if K p = a ∨ K p = a + 1 then (if p < 400 then (match u (p + 1) with
    | .error e => .error e
    | .ok (q, c') => oxL K a b u f q (c ++ c' ++ [(if K p = a then b else b + 1, 0)])) else .error (2, p)) else .ok (p, c) from rfl]
  unfold stS
  by_cases q : K p = a ∨ K p = a + 1
  · rw [if_pos q, if_pos q]
    by_cases q2 : p < 400
    · rw [if_pos q2, if_pos q2]
      cases u (p + 1) with
      | error e => rfl
      | ok e =>
        obtain ⟨x, c'⟩ := e
        show oxL K a b u f x (c ++ c' ++ _) = oxL K a b u f x (c ++ (c' ++ _))
        rw [List.append_assoc]
    · rw [if_neg q2, if_neg q2]
  · rw [if_neg q, if_neg q]
/-- signs and what stands behind them -/
theorem c_loop {a b : Nat} (hab : a + 1 < 31) {B : Int32 × Sg → Option ((Int32 × Sg) ⊕ (Sg ⊕ (Sg ⊕ Sg)))} {u : Nat → Ex} (hgd : ∀ p, p ≤ 400 → GD (kdT C L) D0 p (u p)) (hB : ∀ τ p s i, CS τ t C L p s → i ≤ 400 → ∃ o τ', B (nI i, τ) = some o ∧ (match stS (kdT C L) a b u p with
    | none => o = Sum.inr (Sum.inl τ) ∧ τ' = τ
    | some e => ∃ r, RX τ τ' t C L s r e ∧ o = (if r = 0 then Sum.inr (Sum.inr (Sum.inl τ')) else Sum.inl (nI (i + 1), τ')))) (p0 : Nat) : ∀ (d : Nat) (f i p : Nat) (c : Rp) (σ τ : Sg), 401 - p ≤ d → f + i = 402 → 1 ≤ i → p0 + 2 * i ≤ p + 1 → Fs (SB t) σ τ → CS τ t C L p (s + c.length) → segC (τ.1 (t + 8)) s c → (∀ j, j < s → τ.1 (t + 8) j = σ.1 (t + 8) j) → τ.1 26 3 = σ.1 26 3 → ∃ o τ' r, lp B (nI i, τ) = some o ∧ RX σ τ' t C L s r (oxL (kdT C L) a b u f p c) ∧ o = (if r = 0 then Sum.inr (Sum.inl τ') else Sum.inl τ')
  | 0, f, i, p, c, σ, τ, hd, hf, hi, hpi, hF, hC, hs, h8, h3 => by have := hC.2.2.2.1; omega
  | d + 1, f, i, p, c, σ, τ, hd, hf, hi, hpi, hF, hC, hs, h8, h3 => by
    have hp := hC.2.2.2.1
    obtain ⟨f', rfl⟩ : ∃ f', f = f' + 1 := ⟨f - 1, by omega⟩
    rw [oxL_s]
    obtain ⟨o, τ', b1, b2⟩ := hB τ p (s + c.length) i hC (by omega)
    cases hq : stS (kdT C L) a b u p with
    | none =>
      rw [hq] at b2
      obtain ⟨rfl, rfl⟩ := b2
      exact ⟨Sum.inl τ', τ', 1, lp_r b1, ⟨hF, rfl, hC, hs, h8, h3⟩, by rw [if_neg one0]⟩
    | some e =>
      rw [hq] at b2
      obtain ⟨r, r1, r2⟩ := b2
      cases e with
      | error e =>
        obtain ⟨k, q⟩ := e
        obtain ⟨x1, x2, x3⟩ := r1
        rw [if_pos x2] at r2
        subst r2
        exact ⟨_, τ', 0, lp_r b1, ⟨hF.tr x1, rfl, x3⟩, by rw [if_pos rfl]⟩
      | ok e =>
        obtain ⟨q, c'⟩ := e
        obtain ⟨x1, x2, x3, x4, x5, x6⟩ := r1
        rw [if_neg (by rw [x2]; exact one0)] at r2
        subst r2
        have hq2 : p + 2 ≤ q := by
          unfold stS at hq
          by_cases z : kdT C L p = a ∨ kdT C L p = a + 1
          · rw [if_pos z] at hq
            by_cases z2 : p < 400
            · rw [if_pos z2] at hq
              have := hgd (p + 1) (by omega)
              cases hu : u (p + 1) with
              | error e => rw [hu] at hq; cases hq
              | ok e =>
                obtain ⟨y, cc⟩ := e
                rw [hu] at hq this
                have e1 : y = q := by injection hq with hq; injection hq with hq; injection hq
                obtain ⟨y1, -⟩ := this
                omega
            · rw [if_neg z2] at hq; cases hq
          · rw [if_neg z] at hq; cases hq
        have hl : (c ++ c').length = c.length + c'.length := List.length_append
        obtain ⟨o, τ2, r2, o1, o2, o3⟩ := c_loop hab hgd hB p0 d f' (i + 1) q (c ++ c') σ τ' (by omega) (by omega) (by omega) (by omega) (hF.tr x1) (by rw [hl, ← Nat.add_assoc]; exact x3) (segC_a (segC_c hs (fun j a1 a2 => x5 j (by omega))) x4) (fun j hj => (x5 j (by omega)).trans (h8 j hj)) (x6.trans h3)
        exact ⟨o, τ2, r2, (lp_l b1).trans o1, o2, o3⟩
theorem c_prodB (ht : t = 2 ∨ t = 14) {rs : Nat → Int32 → Sg → Option (Int32 × Sg)} {dg : Int32} {u : Nat → Ex} (hgd : ∀ p, p ≤ 400 → GD (kdT C L) D0 p (u p)) (cu : ∀ σ p s, CS σ t C L p s → ∃ r τ, fX1_readUnitB rs 26 dg σ = some (r, τ) ∧ RX σ τ t C L s r (u p)) (h : CS σ t C L p s) : ∃ r τ, fX1_readProductB rs 26 dg σ = some (r, τ) ∧ RX σ τ t C L s r (oxS (kdT C L) 26 4 u p) := by
  have hB : ∀ τ p s i, CS τ t C L p s → i ≤ 400 → ∃ o τ', (fun st : Int32 × Sg => bX1_readProductB_12 rs 26 dg st.1 st.2) (nI i, τ) = some o ∧ (match stS (kdT C L) 26 4 u p with
    | none => o = Sum.inr (Sum.inl τ) ∧ τ' = τ
    | some e => ∃ r, RX τ τ' t C L s r e ∧ o = (if r = 0 then Sum.inr (Sum.inr (Sum.inl τ')) else Sum.inl (nI (i + 1), τ'))) := by
    intro τ p s i hC hi
    have hp := hC.2.2.2.1
    have hss := hC.2.2.2.2.2.2
    have hkl := kd_lt C L p
    show ∃ o τ', bX1_readProductB_12 rs 26 dg (nI i) τ = some o ∧ _
    unfold bX1_readProductB_12 stS
    rw [if_neg (Int32.not_lt.mpr (show nI i ≤ 400 from nI_le (b := 400) hi (by omega))), c_kind hC, Option.bind_some]
    dsimp only
    have j38 : ∀ k : Nat, (k = 26 ∨ k = 26 + 1) → kdT C L p = k → ∃ o τ', jX1_readProductB_38 rs 26 dg (nI i) (nI k) τ = some o ∧ ∃ r, RX τ τ' t C L s r (if p < 400 then (match u (p + 1) with
    | .error e => .error e
    | .ok (q, c') => .ok (q, c' ++ [(if kdT C L p = 26 then 4 else 4 + 1, 0)])) else .error (2, p)) ∧ o = (if r = 0 then Sum.inr (Sum.inr (Sum.inl τ')) else Sum.inl (nI (i + 1), τ')) := by
      intro k hk hkk
      unfold jX1_readProductB_38 jX1_readProductB_74
      obtain ⟨r, τ1, t1, t2, t3⟩ := c_take ht hC (k := k) (by omega)
      rw [t1, Option.bind_some]
      dsimp only
      rcases t3 with ⟨-, t4, rfl, t5, t6⟩ | ⟨rfl, e, y, t4, t5⟩
      · rw [if_neg one0, if_pos t4]
        obtain ⟨r2, τ2, u1, u2⟩ := cu τ1 (p + 1) s t6
        have gd := hgd (p + 1) (by omega)
        have pre := RX.pre t2 u2 (fun j hj => by rw [t5, wI_n (by omega)]) (by rw [t5, wI_k, upd_n (by omega)])
        rw [u1, Option.bind_some]
        dsimp only
        cases hq : u (p + 1) with
        | error e =>
          rw [hq] at pre
          obtain ⟨p1, p2, p3⟩ := pre
          rw [p2, if_pos rfl]
          exact ⟨_, τ2, rfl, 0, ⟨p1, rfl, p3⟩, by rw [if_pos rfl]⟩
        | ok e =>
          obtain ⟨x, c'⟩ := e
          rw [hq] at pre gd
          obtain ⟨p1, p2, p3, p4, p5, p6⟩ := pre
          obtain ⟨g1, g2, g3, g4, g5⟩ := gd
          rw [p2, if_neg one0, p3.2.2.1]
          have go : ∀ b : Nat, b < 16 → (if kdT C L p = 26 then 4 else 4 + 1) = b → ∃ o τ', ((fX0_put (t + 7) (nI b) 0 τ2).bind (fun q27 => some (Sum.inl (nI i + 1, q27.2)))) = some o ∧ ∃ r, RX τ τ' t C L s r (.ok (x, c' ++ [(if kdT C L p = 26 then 4 else 4 + 1, 0)])) ∧ o = (if r = 0 then (Sum.inr (Sum.inr (Sum.inl τ')) : (Int32 × Sg) ⊕ (Sg ⊕ (Sg ⊕ Sg))) else Sum.inl (nI (i + 1), τ')) := by
            intro b hb eb
            obtain ⟨τ3, a1, a2, a3, a4, a5, a6⟩ := c_put0 ht p3 (k := b) (x := 0) hb (by omega) (by omega)
            have a1 : fX0_put (t + 7) (nI b) 0 τ2 = some (nI (s + c'.length), τ3) := a1
            rw [a1, Option.bind_some, nI_s, eb]
            have hl : (c' ++ [(b, 0)]).length = c'.length + 1 := List.length_append
            refine ⟨_, τ3, rfl, 1, ⟨p1.tr a2, rfl, p3.mv a2 (fun k j b1 b2 z => by unfold SB at z; omega) ((a6 1).trans p3.2.1) p3.2.2.2.1 p3.2.2.2.2.1 (by rw [hl, ← Nat.add_assoc]; exact a5) (by rw [hl]; omega), segC_a (segC_c p4 (fun j b1 b2 => a4 j (by omega))) ⟨by rw [a3], trivial⟩, fun j hj => (a4 j (by omega)).trans (p5 j hj), (a6 3).trans p6⟩, by rw [if_neg one0]⟩
          by_cases z : k = 26
          · rw [if_pos (show nI k = 26 by rw [z]; rfl)]
            exact go 4 (by omega) (if_pos (by omega))
          · rw [if_neg (show ¬ nI k = 26 from ne_nI (b := 26) (by omega) (by omega) z)]
            exact go (4 + 1) (by omega) (if_neg (by omega))
      · rw [if_pos rfl]
        rcases y with ⟨-, y2, rfl⟩ | ⟨y1, -⟩
        · rw [if_neg y2]
          exact ⟨_, τ1, rfl, 0, ⟨t2, rfl, t4, t5⟩, by rw [if_pos rfl]⟩
        · exact absurd hkk y1
    by_cases q1 : kdT C L p = 26
    · rw [if_pos (show nI (kdT C L p) = 26 by rw [q1]; rfl), if_pos (Or.inl q1)]
      exact j38 (kdT C L p) (Or.inl q1) rfl
    · rw [if_neg (show ¬ nI (kdT C L p) = 26 from ne_nI (b := 26) (by omega) (by omega) q1)]
      by_cases q2 : kdT C L p = 26 + 1
      · rw [if_pos (show nI (kdT C L p) = 27 by rw [q2]; rfl), if_pos (Or.inr q2)]
        exact j38 (kdT C L p) (Or.inr q2) rfl
      · rw [if_neg (show ¬ nI (kdT C L p) = 27 from ne_nI (b := 27) (by omega) (by omega) q2), if_neg (by omega)]
        exact ⟨_, τ, rfl, rfl, rfl⟩
  unfold fX1_readProductB oxS
  obtain ⟨r, τ, u1, u2⟩ := cu σ p s h
  have gd := hgd p h.2.2.2.1
  rw [u1, Option.bind_some]
  dsimp only
  cases hq : u p with
  | error e =>
    rw [hq] at u2
    obtain ⟨p1, p2, p3⟩ := u2
    rw [p2, if_pos rfl]
    exact ⟨0, τ, rfl, p1, rfl, p3⟩
  | ok e =>
    obtain ⟨x, c⟩ := e
    rw [hq] at u2 gd
    obtain ⟨p1, p2, p3, p4, p5, p6⟩ := u2
    obtain ⟨g1, g2, g3, g4, g5⟩ := gd
    rw [p2, if_neg one0]
    obtain ⟨o, τ2, r2, o1, o2, o3⟩ := c_loop (a := 26) (b := 4) (B := fun st : Int32 × Sg => bX1_readProductB_12 rs 26 dg st.1 st.2) (by omega) hgd hB p 401 401 1 x c σ τ (by omega) (by omega) (by omega) (by omega) p1 p3 p4 p5 p6
    have o1 : lp (fun st : Int32 × Sg => bX1_readProductB_12 rs 26 dg st.1 st.2) (1, τ) = some o := o1
    rw [o1, Option.bind_some]
    by_cases z : r2 = 0
    · rw [if_pos z] at o3
      subst o3
      refine ⟨0, τ2, rfl, ?_⟩
      rw [z] at o2
      exact o2
    · rw [if_neg z] at o3
      subst o3
      have hr1 : r2 = 1 := by
        obtain ⟨-, o2⟩ := o2
        show r2 = 1
        cases hx : oxL (kdT C L) 26 4 u 401 x c with
        | error e => rw [hx] at o2; exact absurd o2.1 z
        | ok e => rw [hx] at o2; exact o2.1
      refine ⟨1, τ2, rfl, ?_⟩
      rw [hr1] at o2
      exact o2
theorem c_sumB (ht : t = 2 ∨ t = 14) {rs : Nat → Int32 → Sg → Option (Int32 × Sg)} {dg : Int32} {u : Nat → Ex} (hgd : ∀ p, p ≤ 400 → GD (kdT C L) D0 p (u p)) (cu : ∀ σ p s, CS σ t C L p s → ∃ r τ, fX1_readProductB rs 26 dg σ = some (r, τ) ∧ RX σ τ t C L s r (u p)) (h : CS σ t C L p s) : ∃ r τ, fX1_readSumB rs 26 dg σ = some (r, τ) ∧ RX σ τ t C L s r (oxS (kdT C L) 24 2 u p) := by
  have hB : ∀ τ p s i, CS τ t C L p s → i ≤ 400 → ∃ o τ', (fun st : Int32 × Sg => bX1_readSumB_12 rs 26 dg st.1 st.2) (nI i, τ) = some o ∧ (match stS (kdT C L) 24 2 u p with
    | none => o = Sum.inr (Sum.inl τ) ∧ τ' = τ
    | some e => ∃ r, RX τ τ' t C L s r e ∧ o = (if r = 0 then Sum.inr (Sum.inr (Sum.inl τ')) else Sum.inl (nI (i + 1), τ'))) := by
    intro τ p s i hC hi
    have hp := hC.2.2.2.1
    have hss := hC.2.2.2.2.2.2
    have hkl := kd_lt C L p
    show ∃ o τ', bX1_readSumB_12 rs 26 dg (nI i) τ = some o ∧ _
    unfold bX1_readSumB_12 stS
    rw [if_neg (Int32.not_lt.mpr (show nI i ≤ 400 from nI_le (b := 400) hi (by omega))), c_kind hC, Option.bind_some]
    dsimp only
    have j38 : ∀ k : Nat, (k = 24 ∨ k = 24 + 1) → kdT C L p = k → ∃ o τ', jX1_readSumB_38 rs 26 dg (nI i) (nI k) τ = some o ∧ ∃ r, RX τ τ' t C L s r (if p < 400 then (match u (p + 1) with
    | .error e => .error e
    | .ok (q, c') => .ok (q, c' ++ [(if kdT C L p = 24 then 2 else 2 + 1, 0)])) else .error (2, p)) ∧ o = (if r = 0 then Sum.inr (Sum.inr (Sum.inl τ')) else Sum.inl (nI (i + 1), τ')) := by
      intro k hk hkk
      unfold jX1_readSumB_38 jX1_readSumB_74
      obtain ⟨r, τ1, t1, t2, t3⟩ := c_take ht hC (k := k) (by omega)
      rw [t1, Option.bind_some]
      dsimp only
      rcases t3 with ⟨-, t4, rfl, t5, t6⟩ | ⟨rfl, e, y, t4, t5⟩
      · rw [if_neg one0, if_pos t4]
        obtain ⟨r2, τ2, u1, u2⟩ := cu τ1 (p + 1) s t6
        have gd := hgd (p + 1) (by omega)
        have pre := RX.pre t2 u2 (fun j hj => by rw [t5, wI_n (by omega)]) (by rw [t5, wI_k, upd_n (by omega)])
        rw [u1, Option.bind_some]
        dsimp only
        cases hq : u (p + 1) with
        | error e =>
          rw [hq] at pre
          obtain ⟨p1, p2, p3⟩ := pre
          rw [p2, if_pos rfl]
          exact ⟨_, τ2, rfl, 0, ⟨p1, rfl, p3⟩, by rw [if_pos rfl]⟩
        | ok e =>
          obtain ⟨x, c'⟩ := e
          rw [hq] at pre gd
          obtain ⟨p1, p2, p3, p4, p5, p6⟩ := pre
          obtain ⟨g1, g2, g3, g4, g5⟩ := gd
          rw [p2, if_neg one0, p3.2.2.1]
          have go : ∀ b : Nat, b < 16 → (if kdT C L p = 24 then 2 else 2 + 1) = b → ∃ o τ', ((fX0_put (t + 7) (nI b) 0 τ2).bind (fun q27 => some (Sum.inl (nI i + 1, q27.2)))) = some o ∧ ∃ r, RX τ τ' t C L s r (.ok (x, c' ++ [(if kdT C L p = 24 then 2 else 2 + 1, 0)])) ∧ o = (if r = 0 then (Sum.inr (Sum.inr (Sum.inl τ')) : (Int32 × Sg) ⊕ (Sg ⊕ (Sg ⊕ Sg))) else Sum.inl (nI (i + 1), τ')) := by
            intro b hb eb
            obtain ⟨τ3, a1, a2, a3, a4, a5, a6⟩ := c_put0 ht p3 (k := b) (x := 0) hb (by omega) (by omega)
            have a1 : fX0_put (t + 7) (nI b) 0 τ2 = some (nI (s + c'.length), τ3) := a1
            rw [a1, Option.bind_some, nI_s, eb]
            have hl : (c' ++ [(b, 0)]).length = c'.length + 1 := List.length_append
            refine ⟨_, τ3, rfl, 1, ⟨p1.tr a2, rfl, p3.mv a2 (fun k j b1 b2 z => by unfold SB at z; omega) ((a6 1).trans p3.2.1) p3.2.2.2.1 p3.2.2.2.2.1 (by rw [hl, ← Nat.add_assoc]; exact a5) (by rw [hl]; omega), segC_a (segC_c p4 (fun j b1 b2 => a4 j (by omega))) ⟨by rw [a3], trivial⟩, fun j hj => (a4 j (by omega)).trans (p5 j hj), (a6 3).trans p6⟩, by rw [if_neg one0]⟩
          by_cases z : k = 24
          · rw [if_pos (show nI k = 24 by rw [z]; rfl)]
            exact go 2 (by omega) (if_pos (by omega))
          · rw [if_neg (show ¬ nI k = 24 from ne_nI (b := 24) (by omega) (by omega) z)]
            exact go (2 + 1) (by omega) (if_neg (by omega))
      · rw [if_pos rfl]
        rcases y with ⟨-, y2, rfl⟩ | ⟨y1, -⟩
        · rw [if_neg y2]
          exact ⟨_, τ1, rfl, 0, ⟨t2, rfl, t4, t5⟩, by rw [if_pos rfl]⟩
        · exact absurd hkk y1
    by_cases q1 : kdT C L p = 24
    · rw [if_pos (show nI (kdT C L p) = 24 by rw [q1]; rfl), if_pos (Or.inl q1)]
      exact j38 (kdT C L p) (Or.inl q1) rfl
    · rw [if_neg (show ¬ nI (kdT C L p) = 24 from ne_nI (b := 24) (by omega) (by omega) q1)]
      by_cases q2 : kdT C L p = 24 + 1
      · rw [if_pos (show nI (kdT C L p) = 25 by rw [q2]; rfl), if_pos (Or.inr q2)]
        exact j38 (kdT C L p) (Or.inr q2) rfl
      · rw [if_neg (show ¬ nI (kdT C L p) = 25 from ne_nI (b := 25) (by omega) (by omega) q2), if_neg (by omega)]
        exact ⟨_, τ, rfl, rfl, rfl⟩
  unfold fX1_readSumB oxS
  obtain ⟨r, τ, u1, u2⟩ := cu σ p s h
  have gd := hgd p h.2.2.2.1
  rw [u1, Option.bind_some]
  dsimp only
  cases hq : u p with
  | error e =>
    rw [hq] at u2
    obtain ⟨p1, p2, p3⟩ := u2
    rw [p2, if_pos rfl]
    exact ⟨0, τ, rfl, p1, rfl, p3⟩
  | ok e =>
    obtain ⟨x, c⟩ := e
    rw [hq] at u2 gd
    obtain ⟨p1, p2, p3, p4, p5, p6⟩ := u2
    obtain ⟨g1, g2, g3, g4, g5⟩ := gd
    rw [p2, if_neg one0]
    obtain ⟨o, τ2, r2, o1, o2, o3⟩ := c_loop (a := 24) (b := 2) (B := fun st : Int32 × Sg => bX1_readSumB_12 rs 26 dg st.1 st.2) (by omega) hgd hB p 401 401 1 x c σ τ (by omega) (by omega) (by omega) (by omega) p1 p3 p4 p5 p6
    have o1 : lp (fun st : Int32 × Sg => bX1_readSumB_12 rs 26 dg st.1 st.2) (1, τ) = some o := o1
    rw [o1, Option.bind_some]
    by_cases z : r2 = 0
    · rw [if_pos z] at o3
      subst o3
      refine ⟨0, τ2, rfl, ?_⟩
      rw [z] at o2
      exact o2
    · rw [if_neg z] at o3
      subst o3
      have hr1 : r2 = 1 := by
        obtain ⟨-, o2⟩ := o2
        show r2 = 1
        cases hx : oxL (kdT C L) 24 2 u 401 x c with
        | error e => rw [hx] at o2; exact absurd o2.1 z
        | ok e => rw [hx] at o2; exact o2.1
      refine ⟨1, τ2, rfl, ?_⟩
      rw [hr1] at o2
      exact o2
theorem c_sumD (ht : t = 2 ∨ t = 14) : ∀ (g : Nat) (σ : Sg) (p s : Nat), g ≤ 6 → CS σ t C L p s → ∃ r τ, fX1_readSumD (g + 2) 26 (nI (6 - g)) σ = some (r, τ) ∧ RX σ τ t C L s r (sumG (kdT C L) (vlV C L) (g + 1) p)
  | g, σ, p, s, hg, h => by
    have hV : ∀ p, kdT C L p = 21 → vlV C L p ≤ 9999 := fun p hp => vlV_le hp
    have gu : ∀ p, p ≤ 400 → GD (kdT C L) (2 * g + 1) p (unS (kdT C L) (vlV C L) (sumG (kdT C L) (vlV C L) g) g p) := fun p hp => un_gd hV hp (by omega) (fun _ p hp => sum_gd hV g p hp)
    have gp : ∀ p, p ≤ 400 → GD (kdT C L) (2 * g + 2) p (oxS (kdT C L) 26 4 (unS (kdT C L) (vlV C L) (sumG (kdT C L) (vlV C L) g) g) p) := fun p hp => oxS_gd (by omega) (by omega) (by omega) gu p hp
    show ∃ r τ, fX1_readSumB (fX1_readSumD (g + 1)) 26 (nI (6 - g)) σ = some (r, τ) ∧ RX σ τ t C L s r (oxS (kdT C L) 24 2 (oxS (kdT C L) 26 4 (unS (kdT C L) (vlV C L) (sumG (kdT C L) (vlV C L) g) g)) p)
    refine c_sumB ht gp (fun σ p s h => c_prodB ht gu (fun σ p s h => c_unit ht hg (fun h0 σ p s h => ?_) h) h) h
    obtain ⟨g', rfl⟩ : ∃ g', g = g' + 1 := ⟨g - 1, by omega⟩
    have := c_sumD ht g' σ p s (by omega) h
    rw [show 7 - (g' + 1) = 6 - g' by omega]
    exact this
theorem c_sum (ht : t = 2 ∨ t = 14) (h : CS σ t C L p s) : ∃ r τ, fX1_readSum 26 0 σ = some (r, τ) ∧ RX σ τ t C L s r (sumG (kdT C L) (vlV C L) 7 p) := c_sumD ht 6 σ p s (by omega) h
end CEXPR3
