def ifsC : Nat → Br → Rp
  | _, [] => []
  | s, (u, w, x) :: bs => brC s u w x ++ ifsC (s + u.length + w.length + x.length + 2) bs
theorem lawC_of {c : Nat → Int32} {f : Rp} : ∀ {bs : Br} {s : Nat}, segC c s (ifsC s bs ++ f ++ [(7, 0)]) → lawC c s bs f ∧ s + (ifsC s bs ++ f ++ [(7, 0)]).length = lawE s bs f
  | [], s, h => by
    have h : segC c s (f ++ [(7, 0)]) := h
    obtain ⟨h1, h2⟩ := segC_i h
    refine ⟨⟨h1, h2.1⟩, ?_⟩
    show s + (f ++ [((7 : Nat), (0 : Nat))]).length = s + f.length + 1
    rw [List.length_append]
    rfl
  | (u, w, x) :: bs, s, h => by
    have e : ifsC s ((u, w, x) :: bs) ++ f ++ [(7, 0)] = brC s u w x ++ (ifsC (s + u.length + w.length + x.length + 2) bs ++ f ++ [(7, 0)]) := by
      show brC s u w x ++ ifsC (s + u.length + w.length + x.length + 2) bs ++ f ++ [(7, 0)] = _
      simp only [List.append_assoc]
    rw [e] at h ⊢
    obtain ⟨h1, h2⟩ := segC_i h
    rw [brC_l, show s + (u.length + w.length + x.length + 2) = s + u.length + w.length + x.length + 2 by omega] at h2
    obtain ⟨a1, a2⟩ := lawC_of h2
    unfold brC at h1
    obtain ⟨h1, b7⟩ := segC_i h1
    obtain ⟨h1, bx⟩ := segC_i h1
    obtain ⟨h1, b6⟩ := segC_i h1
    obtain ⟨bu, bw⟩ := segC_i h1
    have l1 : (u ++ w).length = u.length + w.length := List.length_append
    have l2 : (u ++ w ++ [((6 : Nat), s + u.length + w.length + x.length + 2)]).length = u.length + w.length + 1 := by simp only [List.length_append, List.length_cons, List.length_nil]
    have l3 : (u ++ w ++ [((6 : Nat), s + u.length + w.length + x.length + 2)] ++ x).length = u.length + w.length + 1 + x.length := by rw [List.length_append, l2]
    refine ⟨⟨bu, bw, ?_, ?_, ?_, a1⟩, ?_⟩
    · have := b6.1
      rw [l1, ← Nat.add_assoc] at this
      exact this
    · rw [l2, show s + (u.length + w.length + 1) = s + u.length + w.length + 1 by omega] at bx
      exact bx
    · have := b7.1
      rw [l3, show s + (u.length + w.length + 1 + x.length) = s + u.length + w.length + x.length + 1 by omega] at this
      exact this
    · rw [List.length_append, brC_l]
      show _ = lawE (s + u.length + w.length + x.length + 2) bs f
      rw [← a2]
      omega
section CLAW2
variable {t L p s : Nat} {σ τ υ : Sg} {C : Nat → Nat}
theorem c_ifs (ht : t = 2 ∨ t = 14) (p1 : Int32) : ∀ (n i : Nat) (c : Rp) (τ : Sg) (p : Nat), i + n = 4 → CQ σ τ t C L s c p → ∃ o υ, lp (fun st : Int32 × Sg => bX1_readLaw_45 26 p1 st.1 st.2) (nI i, τ) = some o ∧ (match ifS (kdT C L) (vlV C L) n p with
    | .error (k, q) => (o = Sum.inl υ ∧ k = 2 ∧ ∃ c', CQ σ υ t C L s c' q) ∨ (o = Sum.inr (Sum.inl υ) ∧ CF σ υ t C L k q)
    | .ok (q, bs) => o = Sum.inr (Sum.inr υ) ∧ CQ σ υ t C L s (c ++ ifsC (s + c.length) bs) q ∧ p ≤ q)
  | n, i, c, τ, p, hi, h => by
    have hkl := kd_lt C L p
    by_cases q8 : kdT C L p = 8
    · match n with
      | 0 =>
        refine ⟨Sum.inl τ, τ, lp_r ?_, ?_⟩
        · show bX1_readLaw_45 26 p1 (nI i) τ = _
          unfold bX1_readLaw_45
          rw [if_neg (Int32.not_lt.mpr (show nI i ≤ 4 from nI_le (b := 4) (by omega) (by omega))), c_kind h.2.1, Option.bind_some]
          dsimp only
          rw [q8, if_pos (by decide), nI_s, if_neg (show ¬ nI (i + 1) ≤ 4 from le_nI (b := 4) (by omega) (by omega) (by omega))]
        · unfold ifS
          rw [if_pos q8]
          exact Or.inl ⟨rfl, rfl, c, h⟩
      | n + 1 =>
        obtain ⟨r, υ, a1, a2⟩ := c_if ht h q8
        have st : bX1_readLaw_45 26 p1 (nI i) τ = if r = 0 then (some (Sum.inr (Sum.inr (Sum.inl υ)))) else (some (Sum.inl (nI (i + 1), υ))) := by
          unfold bX1_readLaw_45
          rw [if_neg (Int32.not_lt.mpr (show nI i ≤ 4 from nI_le (b := 4) (by omega) (by omega))), c_kind h.2.1, Option.bind_some]
          dsimp only
          rw [q8, if_pos (by decide), nI_s, if_pos (show nI (i + 1) ≤ 4 from nI_le (b := 4) (by omega) (by omega)), a1, Option.bind_some]
        rw [show ifS (kdT C L) (vlV C L) (n + 1) p = if kdT C L p = 8 then (match brS (kdT C L) (vlV C L) p with
    | .error e => .error e
    | .ok (q, b) => match ifS (kdT C L) (vlV C L) n q with
      | .error e => .error e
      | .ok (q', bs) => .ok (q', b :: bs)) else .ok (p, []) from rfl, if_pos q8]
        cases hb : brS (kdT C L) (vlV C L) p with
        | error e =>
          obtain ⟨k, q⟩ := e
          rw [hb] at a2
          rw [a2.1, if_pos rfl] at st
          exact ⟨_, υ, lp_r st, Or.inr ⟨rfl, a2.2⟩⟩
        | ok e =>
          obtain ⟨q, u, w, x⟩ := e
          rw [hb] at a2
          obtain ⟨b1, b2, b3⟩ := a2
          rw [b1, if_neg one0] at st
          obtain ⟨o, ω, d1, d2⟩ := c_ifs ht p1 n (i + 1) _ υ q (by omega) b2
          refine ⟨o, ω, (lp_l st).trans d1, ?_⟩
          dsimp only
          cases hc : ifS (kdT C L) (vlV C L) n q with
          | error e =>
            obtain ⟨k, y⟩ := e
            rw [hc] at d2
            exact d2
          | ok e =>
            obtain ⟨q', bs⟩ := e
            rw [hc] at d2
            obtain ⟨f1, f2, f3⟩ := d2
            refine ⟨f1, ?_, by omega⟩
            rw [show c ++ ifsC (s + c.length) ((u, w, x) :: bs) = c ++ brC (s + c.length) u w x ++ ifsC (s + (c ++ brC (s + c.length) u w x).length) bs from by
              show c ++ (brC (s + c.length) u w x ++ ifsC (s + c.length + u.length + w.length + x.length + 2) bs) = _
              rw [List.append_assoc, List.length_append, brC_l, show s + (c.length + (u.length + w.length + x.length + 2)) = s + c.length + u.length + w.length + x.length + 2 by omega]]
            exact f2
    · refine ⟨Sum.inr (Sum.inr τ), τ, lp_r ?_, ?_⟩
      · show bX1_readLaw_45 26 p1 (nI i) τ = _
        unfold bX1_readLaw_45
        rw [if_neg (Int32.not_lt.mpr (show nI i ≤ 4 from nI_le (b := 4) (by omega) (by omega))), c_kind h.2.1, Option.bind_some]
        dsimp only
        rw [if_neg (show ¬ nI (kdT C L p) = 8 from ne_nI (b := 8) (by omega) (by omega) q8)]
      · have e : ifS (kdT C L) (vlV C L) n p = .ok (p, []) := by
          cases n <;> (unfold ifS; rw [if_neg q8])
        rw [e]
        refine ⟨rfl, ?_, Nat.le_refl _⟩
        show CQ σ τ t C L s (c ++ []) p
        rw [List.append_nil]; exact h
theorem tkS_l {K : Nat → Nat} {k p q : Nat} (h : tkS K k p = .ok q) : q = p + 1 ∧ p < 400 ∧ K p = k := by
  unfold tkS at h
  by_cases z : K p = k
  · rw [if_pos z] at h
    by_cases y : p < 400
    · rw [if_pos y] at h
      injection h with h
      exact ⟨h.symm, y, z⟩
    · rw [if_neg y] at h; cases h
  · rw [if_neg z] at h; cases h
/-- a branch has fewer steps than tokens -/
theorem brS_l {p q : Nat} {u w x : Rp} (hp : p ≤ 400) (h : brS (kdT C L) (vlV C L) p = .ok (q, u, w, x)) : u.length + w.length + x.length + 4 + p ≤ q ∧ q ≤ 400 := by
  unfold brS at h
  cases q1 : tkS (kdT C L) 8 p with
  | error e => rw [q1] at h; cases h
  | ok p1 =>
    rw [q1] at h
    dsimp only at h
    have t1 := tkS_l q1
    have g1 := sum7 (C := C) (L := L) (p := p1) (by omega)
    cases q2 : sumG (kdT C L) (vlV C L) 7 p1 with
    | error e => rw [q2] at h; cases h
    | ok e =>
      obtain ⟨p2, u1⟩ := e
      rw [q2] at h g1
      dsimp only at h
      obtain ⟨g11, g12, g13, -⟩ := g1
      cases q3 : tkS (kdT C L) 28 p2 with
      | error e => rw [q3] at h; cases h
      | ok p3 =>
        rw [q3] at h
        dsimp only at h
        have t3 := tkS_l q3
        have g3 := sum7 (C := C) (L := L) (p := p3) (by omega)
        cases q4 : sumG (kdT C L) (vlV C L) 7 p3 with
        | error e => rw [q4] at h; cases h
        | ok e =>
          obtain ⟨p4, w1⟩ := e
          rw [q4] at h g3
          dsimp only at h
          obtain ⟨g31, g32, g33, -⟩ := g3
          cases q5 : tkS (kdT C L) 9 p4 with
          | error e => rw [q5] at h; cases h
          | ok p5 =>
            rw [q5] at h
            dsimp only at h
            have t5 := tkS_l q5
            have g5 := sum7 (C := C) (L := L) (p := p5) (by omega)
            cases q6 : sumG (kdT C L) (vlV C L) 7 p5 with
            | error e => rw [q6] at h; cases h
            | ok e =>
              obtain ⟨p6, x1⟩ := e
              rw [q6] at h g5
              dsimp only at h
              obtain ⟨g51, g52, g53, -⟩ := g5
              cases q7 : tkS (kdT C L) 10 p6 with
              | error e => rw [q7] at h; cases h
              | ok p7 =>
                rw [q7] at h
                have t7 := tkS_l q7
                injection h with h
                injection h with e1 e2
                injection e2 with e3 e4
                injection e4 with e5 e6
                subst e1 e3 e5 e6
                omega
/-- what a law writes, besides -/
def SBl (t k : Nat) : Nat → Nat → Prop := fun x j => SB t x j ∨ x = t + 9 ∧ j = k
theorem c_law (ht : t = 2 ∨ t = 14) (h : CS σ t C L p s) {k : Nat} (hk : k < 4) : ∃ r τ, fX1_readLaw 26 (nI k) σ = some (r, τ) ∧ Fs (SBl t k) σ τ ∧ (match lawS (kdT C L) (vlV C L) k p with
    | .error (e, q) => r = 0 ∧ τ.1 26 3 = nI e ∧ τ.1 26 4 = nI (poT C L q)
    | .ok (q, bs, f) => r = 1 ∧ CS τ t C L q (s + (ifsC s bs ++ f ++ [(7, 0)]).length) ∧ segC (τ.1 (t + 8)) s (ifsC s bs ++ f ++ [(7, 0)]) ∧ (∀ j, j < s → τ.1 (t + 8) j = σ.1 (t + 8) j) ∧ τ.1 (t + 9) k = nI s ∧ τ.1 26 3 = σ.1 26 3) := by
  have up : ∀ {x j : Nat}, SB t x j → SBl t k x j := fun q => Or.inl q
  unfold fX1_readLaw lawS
  obtain ⟨r1, υ1, a1, a2⟩ := (CQ.rf h).tk ht (k := 3 + k) (by omega)
  rw [show (3 : Int32) + nI k = nI (3 + k) from nI_add 3 k, a1, Option.bind_some]
  dsimp only
  cases q1 : tkS (kdT C L) (3 + k) p with
  | error e =>
    rw [q1] at a2
    rw [a2.1, if_pos rfl]
    exact ⟨0, υ1, rfl, a2.2.1.mo (fun _ _ => up), rfl, a2.2.2⟩
  | ok p1 =>
    rw [q1] at a2
    obtain ⟨ra, e1, A2⟩ := a2
    rw [ra, if_neg one0]
    obtain ⟨r2, υ2, b1, b2⟩ := A2.tk ht (k := 23) (by omega)
    have b1 : fX1_take 26 23 υ1 = some (r2, υ2) := b1
    rw [b1, Option.bind_some]
    dsimp only
    cases q2 : tkS (kdT C L) 23 p1 with
    | error e =>
      rw [q2] at b2
      rw [b2.1, if_pos rfl]
      exact ⟨0, υ2, rfl, b2.2.1.mo (fun _ _ => up), rfl, b2.2.2⟩
    | ok p2 =>
      rw [q2] at b2
      obtain ⟨rb, e2, B2⟩ := b2
      have b7 : υ2.1 (t + 7) 1 = nI s := B2.2.1.2.2.2.2.2.1
      rw [rb, if_neg one0, B2.2.1.2.2.1, b7]
      simp (disch := omega) only [vif, nI_clamp]
      have hF3 : Fs (fun x j => x = t + 9 ∧ j = k) υ2 (wI υ2 (t + 7 + 2) k (nI s)) := Fs.rf.wI ⟨by omega, rfl⟩
      generalize hυ3 : wI υ2 (t + 7 + 2) k (nI s) = υ3 at hF3
      have C3 : CS υ3 t C L p2 s := B2.2.1.mv hF3 (fun k j a1 a2 z => by omega) ((hF3.1 _ _ (by omega)).trans B2.2.1.2.1) B2.2.1.2.2.2.1 B2.2.1.2.2.2.2.1 ((hF3.1 _ _ (by omega)).trans b7) (by have := h.2.2.2.2.2.2; omega)
      have pre : Fs (SBl t k) σ υ3 := (B2.1.mo (fun _ _ => up)).tr (hF3.mo (fun x j q => Or.inr q))
      have k9 : υ3.1 (t + 9) k = nI s := by rw [← hυ3, show t + 7 + 2 = t + 9 from rfl, wI_k, upd_k]
      have k8 : ∀ j, j < s → υ3.1 (t + 8) j = σ.1 (t + 8) j := fun j hj => (hF3.1 _ _ (by omega)).trans (B2.2.2.2.1 j hj)
      have k3 : υ3.1 26 3 = σ.1 26 3 := (hF3.1 _ _ (by omega)).trans B2.2.2.2.2
      obtain ⟨o, υ4, c1, c2⟩ := c_ifs ht (nI k) 4 0 [] υ3 p2 (by omega) (CQ.rf C3)
      have c1 : lp (fun st : Int32 × Sg => bX1_readLaw_45 26 (nI k) st.1 st.2) (0, υ3) = some o := c1
      rw [c1, Option.bind_some]
      cases q3 : ifS (kdT C L) (vlV C L) 4 p2 with
      | error e =>
        obtain ⟨ek, eq⟩ := e
        rw [q3] at c2
        rcases c2 with ⟨rfl, rfl, c', c3⟩ | ⟨rfl, c3⟩
        · refine ⟨0, wI (wI υ4 26 3 2) 26 4 (nI (poT C L eq)), ?_, ?_, rfl, ?_, ?_⟩
          · show ((fX1_stop 26 2 υ4).bind (fun q35 => some (q35.1, q35.2))) = _
            rw [c_stop c3.2.1]; rfl
          · exact (pre.tr (c3.1.mo (fun _ _ => up))).tr ((Fs.rf.wI (by unfold SBl SB; omega)).wI (by unfold SBl SB; omega))
          · rw [wI_k, upd_n (by omega), wI_k, upd_k]; rfl
          · rw [wI_k, upd_k]
        · exact ⟨0, υ4, rfl, pre.tr (c3.1.mo (fun _ _ => up)), rfl, c3.2⟩
      | ok e =>
        obtain ⟨p3, bs⟩ := e
        rw [q3] at c2
        obtain ⟨rfl, c3, c4⟩ := c2
        have c3 : CQ υ3 υ4 t C L s (ifsC s bs) p3 := c3
        show ∃ r τ, ((fX1_readSum 26 0 υ4).bind (fun q42 => if q42.1 = 0 then (some ((0 : Int32), q42.2)) else ((fX0_put ((q42.2.2.2.1 26 2) + 7) (7 : Int32) (0 : Int32) q42.2).bind (fun q49 => (fX1_take 26 (22 : Int32) q49.2).bind (fun q54 => some (q54.1, q54.2)))))) = some (r, τ) ∧ _
        have g3 := sum7 (C := C) (L := L) c3.2.1.2.2.2.1
        obtain ⟨r5, υ5, d1, d2⟩ := c_sum ht c3.2.1
        rw [d1, Option.bind_some]
        dsimp only
        cases q4 : sumG (kdT C L) (vlV C L) 7 p3 with
        | error e =>
          obtain ⟨ek, eq⟩ := e
          rw [q4] at d2
          have d2 := c3.err d2
          rw [d2.1, if_pos rfl]
          exact ⟨0, υ5, rfl, pre.tr (d2.2.1.mo (fun _ _ => up)), rfl, d2.2.2⟩
        | ok e =>
          obtain ⟨p4, f⟩ := e
          rw [q4] at d2 g3
          obtain ⟨rd, D2⟩ := c3.sum d2
          have hb3 := c3.2.1.2.2.2.2.2.2
          obtain ⟨g31, g32, g33, -⟩ := g3
          have hl : (ifsC s bs ++ f).length = (ifsC s bs).length + f.length := List.length_append
          rw [rd, if_neg one0, D2.2.1.2.2.1]
          -- two tokens told the law, so there is room
          have room : s + (ifsC s bs).length ≤ p3 + 6 := by
            have key : ∀ (n p : Nat) (s : Nat) (bs : Br) (q : Nat), p ≤ 400 → ifS (kdT C L) (vlV C L) n p = .ok (q, bs) → (ifsC s bs).length + p ≤ q := by
              intro n
              induction n with
              | zero =>
                intro p s bs q hp hq
                unfold ifS at hq
                split at hq
                · cases hq
                · injection hq with hq
                  injection hq with e1 e2
                  subst e1 e2
                  show 0 + p ≤ p; omega
              | succ n ih =>
                intro p s bs q hp hq
                rw [show ifS (kdT C L) (vlV C L) (n + 1) p = if kdT C L p = 8 then (match brS (kdT C L) (vlV C L) p with
    | .error e => .error e
    | .ok (q, b) => match ifS (kdT C L) (vlV C L) n q with
      | .error e => .error e
      | .ok (q', bs) => .ok (q', b :: bs)) else .ok (p, []) from rfl] at hq
                split at hq
                · cases hb : brS (kdT C L) (vlV C L) p with
                  | error e => rw [hb] at hq; cases hq
                  | ok e =>
                    obtain ⟨q1, u, w, x⟩ := e
                    rw [hb] at hq
                    dsimp only at hq
                    have hbr := brS_l hp hb
                    cases hi : ifS (kdT C L) (vlV C L) n q1 with
                    | error e => rw [hi] at hq; cases hq
                    | ok e =>
                      obtain ⟨q2, bs2⟩ := e
                      rw [hi] at hq
                      injection hq with hq
                      injection hq with e1 e2
                      subst e1 e2
                      have := ih q1 (s + u.length + w.length + x.length + 2) bs2 q2 hbr.2 hi
                      show (brC s u w x ++ ifsC (s + u.length + w.length + x.length + 2) bs2).length + p ≤ q2
                      rw [List.length_append, brC_l]
                      omega
                · injection hq with hq
                  injection hq with e1 e2
                  subst e1 e2
                  show 0 + p ≤ p; omega
            have := key 4 p2 s bs p3 B2.2.1.2.2.2.1 q3
            have := h.2.2.2.2.2.2
            omega
          obtain ⟨υ6, f1, f2⟩ := D2.put ht (k := 7) (x := 0) (by omega) (by omega) (by rw [hl]; omega)
          have f1 : fX0_put (t + 7) 7 0 υ5 = some (nI (s + (ifsC s bs ++ f).length), υ6) := f1
          rw [f1, Option.bind_some]
          dsimp only
          obtain ⟨r7, υ7, i1, i2⟩ := f2.tk ht (k := 22) (by omega)
          have i1 : fX1_take 26 22 υ6 = some (r7, υ7) := i1
          rw [i1, Option.bind_some]
          cases q5 : tkS (kdT C L) 22 p4 with
          | error e =>
            rw [q5] at i2
            exact ⟨r7, υ7, rfl, pre.tr (i2.2.1.mo (fun _ _ => up)), i2.1, i2.2.2⟩
          | ok p5 =>
            rw [q5] at i2
            obtain ⟨ri, e5, I2⟩ := i2
            refine ⟨r7, υ7, rfl, pre.tr (I2.1.mo (fun _ _ => up)), ri, I2.2.1, I2.2.2.1, fun j hj => (I2.2.2.2.1 j hj).trans (k8 j hj), ?_, I2.2.2.2.2.trans k3⟩
            rw [I2.1.1 _ _ (by unfold SB; omega)]; exact k9
end CLAW2
