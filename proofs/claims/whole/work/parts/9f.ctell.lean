section CTELL4
variable {t L p s : Nat} {σ τ υ : Sg} {C : Nat → Nat} {X Y : TS}
theorem CTY.f1 (h : CTY σ t C L X s) (hF : Fs (fun k j => k = 26 ∧ j = 1) σ τ) (ht : t = 2 ∨ t = 14) : CTY τ t C L X s := by
  have hl : LAc τ C L X.la := by
    have := h.1
    unfold LAc at this ⊢
    rw [hF.1 26 5 (by omega), hF.1 26 6 (by omega)]; exact this
  exact h.la (hF.mo (fun k j q => by omega)) hl ht
theorem c_h78 (ht : t = 2 ∨ t = 14) (hn : X.n < 8) {la1 : Option (Nat × Nat)} (hla : la1 = nt X.la (decide (¬ hoI X.nm X.n (vlV C L (p + 1)) = -1)) 3 (p + 1)) (hC : CS υ t C L (p + 1) s) (hF : FJ (SBt t) (fun k => k = t + 1) σ υ) (hY : kdT C L (p + 1) = 20 → CTY υ t C L (mkT X.n X.m X.sd X.nm X.go X.co X.tp X.dr X.bx X.bo X.lb X.lf la1) s ∧ υ.2.1 (t + 1) X.n = lN (vlV C L (p + 1))) : ∃ r τ, jX1_readHouse_78 26 (nI X.n) υ = some (r, τ) ∧ CR1 σ τ t C L r (mapT (tksS (kdT C L) [20, 21, 21, 21, 22] (p + 1)) (hoX (vlV C L) X p)) := by
  unfold jX1_readHouse_78
  by_cases k20 : kdT C L (p + 1) = 20
  · obtain ⟨Y0, n0⟩ := hY k20
    obtain ⟨r1, τ1, a1, a2, a3⟩ := c_tk ht hC (k := 20) (by omega)
    have a1 : fX1_take 26 20 υ = some (r1, τ1) := a1
    rw [a1, Option.bind_some]
    dsimp only
    show ∃ r τ, _ ∧ CR1 σ τ t C L r (mapT (match tkS (kdT C L) 20 (p + 1) with
      | .error e => .error e
      | .ok q => tksS (kdT C L) [21, 21, 21, 22] q) (hoX (vlV C L) X p))
    have f1 := hF.tr (a2.mo (fun _ _ => SB_t)).fj
    cases q1 : tkS (kdT C L) 20 (p + 1) with
    | error e =>
      rw [q1] at a3
      rw [a3.1, if_pos rfl]
      exact ⟨0, τ1, rfl, f1, rfl, a3.2⟩
    | ok p2 =>
      rw [q1] at a3
      obtain ⟨ra, e2, a4, C1⟩ := a3
      rw [ra, if_neg one0]
      have Y1 := Y0.f1 (F26 a4) ht
      have n1 : τ1.2.1 (t + 1) X.n = lN (vlV C L (p + 1)) := by rw [(F26 a4).2]; exact n0
      obtain ⟨r2, τ2, b1, b2, b3, b4, b5, b6⟩ := c_num ht C1 Y1 f1 (m := 23) (i := X.n) (by omega) (c := t + 2) (Or.inl rfl) (Nat.le_refl _)
      have b1 : fX1_intHere 26 23 τ1 = some (r2, τ2) := b1
      rw [b1, Option.bind_some]
      dsimp only
      rw [C1.2.2.1]
      simp (disch := omega) only [vif, nI_clamp]
      have n2 : (wI τ2 (t + 2) X.n r2).2.1 (t + 1) X.n = lN (vlV C L (p + 1)) := by rw [wI_2, b2]; exact n1
      generalize wI τ2 (t + 2) X.n r2 = υ2 at b3 b4 b5 b6 n2
      by_cases k2 : kdT C L p2 = 21
      · obtain ⟨g2, Y2⟩ := b6 k2
        obtain ⟨r3, τ3, c1, c2, c3⟩ := c_tk ht b3 (k := 21) (by omega)
        have c1 : fX1_take 26 21 υ2 = some (r3, τ3) := c1
        rw [c1, Option.bind_some]
        dsimp only
        show ∃ r τ, _ ∧ CR1 σ τ t C L r (mapT (match tkS (kdT C L) 21 p2 with
          | .error e => .error e
          | .ok q => tksS (kdT C L) [21, 21, 22] q) (hoX (vlV C L) X p))
        have f3 := b4.tr (c2.mo (fun _ _ => SB_t)).fj
        cases q2 : tkS (kdT C L) 21 p2 with
        | error e =>
          rw [q2] at c3
          rw [c3.1, if_pos rfl]
          exact ⟨0, τ3, rfl, f3, rfl, c3.2⟩
        | ok p3 =>
          rw [q2] at c3
          obtain ⟨rc, e3, c4, C3⟩ := c3
          rw [rc, if_neg one0]
          have Y3 := Y2.f1 (F26 c4) ht
          have n3 : τ3.2.1 (t + 1) X.n = lN (vlV C L (p + 1)) := by rw [(F26 c4).2]; exact n2
          have g3 : τ3.1 (t + 2) X.n = nI (vlV C L p2) := ((F26 c4).1 _ _ (by omega)).trans g2
          obtain ⟨r4, τ4, d1, d2, d3, d4, d5, d6⟩ := c_num ht C3 Y3 f3 (m := 23) (i := X.n) (by omega) (c := t + 3) (Or.inr (Or.inl rfl)) (Nat.le_refl _)
          have d1 : fX1_intHere 26 23 τ3 = some (r4, τ4) := d1
          rw [d1, Option.bind_some]
          dsimp only
          rw [C3.2.2.1]
          have n4 : (wI τ4 (t + 3) X.n r4).2.1 (t + 1) X.n = lN (vlV C L (p + 1)) := by rw [wI_2, d2]; exact n3
          generalize wI τ4 (t + 3) X.n r4 = υ4 at d3 d4 d5 d6 n4
          have g4 : υ4.1 (t + 2) X.n = nI (vlV C L p2) := (d5 _ _ (by omega) (by omega)).trans g3
          by_cases k3 : kdT C L p3 = 21
          · obtain ⟨o4, Y4⟩ := d6 k3
            obtain ⟨r5, τ5, i1, i2, i3⟩ := c_tk ht d3 (k := 21) (by omega)
            have i1 : fX1_take 26 21 υ4 = some (r5, τ5) := i1
            rw [i1, Option.bind_some]
            dsimp only
            show ∃ r τ, _ ∧ CR1 σ τ t C L r (mapT (match tkS (kdT C L) 21 p3 with
              | .error e => .error e
              | .ok q => tksS (kdT C L) [21, 22] q) (hoX (vlV C L) X p))
            have f5 := d4.tr (i2.mo (fun _ _ => SB_t)).fj
            cases q3 : tkS (kdT C L) 21 p3 with
            | error e =>
              rw [q3] at i3
              rw [i3.1, if_pos rfl]
              exact ⟨0, τ5, rfl, f5, rfl, i3.2⟩
            | ok p4 =>
              rw [q3] at i3
              obtain ⟨ri, e4, i4, C5⟩ := i3
              rw [ri, if_neg one0]
              have Y5 := Y4.f1 (F26 i4) ht
              have n5 : τ5.2.1 (t + 1) X.n = lN (vlV C L (p + 1)) := by rw [(F26 i4).2]; exact n4
              have g5 : τ5.1 (t + 2) X.n = nI (vlV C L p2) := ((F26 i4).1 _ _ (by omega)).trans g4
              have o5 : τ5.1 (t + 3) X.n = nI (vlV C L p3) := ((F26 i4).1 _ _ (by omega)).trans o4
              obtain ⟨r6, τ6, j1, j2, j3, j4, j5, j6⟩ := c_num ht C5 Y5 f5 (m := 9) (i := X.n) (by omega) (c := t + 4) (Or.inr (Or.inr rfl)) (Nat.le_refl _)
              have j1 : fX1_intHere 26 9 τ5 = some (r6, τ6) := j1
              rw [j1, Option.bind_some]
              dsimp only
              rw [C5.2.2.1]
              have n6 : (wI τ6 (t + 4) X.n r6).2.1 (t + 1) X.n = lN (vlV C L (p + 1)) := by rw [wI_2, j2]; exact n5
              generalize wI τ6 (t + 4) X.n r6 = υ6 at j3 j4 j5 j6 n6
              have g6 : υ6.1 (t + 2) X.n = nI (vlV C L p2) := (j5 _ _ (by omega) (by omega)).trans g5
              have o6 : υ6.1 (t + 3) X.n = nI (vlV C L p3) := (j5 _ _ (by omega) (by omega)).trans o5
              have e60 : υ6.1 t 0 = nI X.n := (j5 _ _ (by omega) (by omega)).trans Y5.2.2.1.1
              rw [j3.2.2.1, e60, nI_s]
              have hF7 : Fs (fun k j => k = t ∧ j = 0) υ6 (wI υ6 t 0 (nI (X.n + 1))) := Fs.rf.wI ⟨rfl, rfl⟩
              have v0 : (wI υ6 t 0 (nI (X.n + 1))).1 t 0 = nI (X.n + 1) := by rw [wI_k, upd_k]
              generalize wI υ6 t 0 (nI (X.n + 1)) = υ7 at hF7 v0
              have C7 : CS υ7 t C L p4 s := j3.m1 hF7 (fun k j q => by omega) ht
              have f7 := j4.tr (hF7.mo (fun k j q => by unfold SBt; omega)).fj
              by_cases k4 : kdT C L p4 = 21
              · obtain ⟨w6, Y6⟩ := j6 k4
                have Y7 : CTY υ7 t C L (hoX (vlV C L) X p) s := by
                  obtain ⟨h2, h3, h4, h5, h6, h7, h8, h9, h10, h11⟩ := Y6
                  have e : ∀ k j, ¬ (k = t ∧ j = 0) → υ7.1 k j = υ6.1 k j := hF7.1
                  refine ⟨?_, (e _ _ (by omega)).trans h3, ⟨v0, by show X.n + 1 ≤ 8; omega⟩, ⟨(e _ _ (by omega)).trans h5.1, h5.2⟩, (e _ _ (by omega)).trans h6, (e _ _ (by omega)).trans h7, fun x hx => ?_, fun x hx => ?_, fun x hx => ?_, fun k hk => ?_⟩
                  · have h2 : LAc υ6 C L (nt (nt (nt la1 (decide (23 < vlV C L p2)) 5 p2) (decide (23 < vlV C L p3)) 5 p3) (decide (9 < vlV C L p4)) 5 p4) := h2
                    show LAc υ7 C L (nt (nt (nt (nt X.la (decide (¬ hoI X.nm X.n (vlV C L (p + 1)) = -1)) 3 (p + 1)) (decide (23 < vlV C L (p + 2))) 5 (p + 2)) (decide (23 < vlV C L (p + 3))) 5 (p + 3)) (decide (9 < vlV C L (p + 4))) 5 (p + 4))
                    rw [← hla, show p + 2 = p2 by omega, show p + 3 = p3 by omega, show p + 4 = p4 by omega]
                    unfold LAc at h2 ⊢
                    rw [e 26 5 (by omega), e 26 6 (by omega)]; exact h2
                  · rw [hF7.2]
                    have hx : x < X.n + 1 := hx
                    show υ6.2.1 (t + 1) x = lN (uN X.nm X.n (vlV C L (p + 1)) x) ∧ uN X.nm X.n (vlV C L (p + 1)) x < 2 ^ 63
                    unfold uN
                    by_cases z : x = X.n
                    · rw [if_pos z, z]; exact ⟨n6, vlV_63 k20⟩
                    · rw [if_neg z]; exact h8 x (by show x < X.n; omega)
                  · rw [e _ _ (by omega), e _ _ (by omega), e _ _ (by omega)]
                    have hx : x < X.n + 1 := hx
                    show υ6.1 (t + 2) x = nI (uN X.go X.n (vlV C L (p + 2)) x) ∧ υ6.1 (t + 3) x = nI (uN X.co X.n (vlV C L (p + 3)) x) ∧ υ6.1 (t + 4) x = nI (uN X.tp X.n (vlV C L (p + 4)) x)
                    unfold uN
                    by_cases z : x = X.n
                    · rw [if_pos z, if_pos z, if_pos z, z, show p + 2 = p2 by omega, show p + 3 = p3 by omega, show p + 4 = p4 by omega]; exact ⟨g6, o6, w6⟩
                    · rw [if_neg z, if_neg z, if_neg z]; exact h9 x (by show x < X.n; omega)
                  · rw [e _ _ (by omega), e _ _ (by omega)]; exact h10 x hx
                  · obtain ⟨q, x1, x2, x3⟩ := h11 k hk
                    exact ⟨q, (e _ _ (by omega)).trans x1, fun c' hc' => x2 c' (fun j hj => (hc' j hj).trans (e _ _ (by omega))), x3⟩
                refine c_toks ht C7 Y7 f7 (k := 21) (by omega) (fun q υ hC hY hF => ?_) (fun υ => rfl)
                refine c_toks ht hC hY hF (k := 22) (by omega) (fun q υ hC hY hF => ⟨1, υ, rfl, c_end hC hY hF⟩) (fun υ => rfl)
              · exact c_no ht C7 f7 (k := 21) (by omega) k4 (fun υ => rfl)
          · exact c_no ht d3 d4 (k := 21) (by omega) k3 (fun υ => rfl)
      · exact c_no ht b3 b4 (k := 21) (by omega) k2 (fun υ => rfl)
  · exact c_no ht hC hF (k := 20) (by omega) k20 (fun υ => rfl)
theorem c_houseT (ht : t = 2 ∨ t = 14) (h : CTX σ t C L X p s) (hn : ¬ X.n = 8) : ∃ r τ, fX1_readHouse 26 σ = some (r, τ) ∧ CR1 σ τ t C L r (mapT (tksS (kdT C L) [0, 20, 21, 21, 21, 22] p) (hoX (vlV C L) X p)) := by
  have hn8 := h.2.2.2.1.2
  unfold fX1_readHouse
  rw [h.1.2.2.1, h.2.2.2.1.1, if_pos (Int32.not_le.mp (show ¬ (8 : Int32) ≤ nI X.n from le_nI (a := 8) (by omega) (by omega) (by omega)))]
  dsimp only
  obtain ⟨r1, τ1, a1, a2, a3⟩ := c_tk ht h.1 (k := 0) (by omega)
  have a1 : fX1_take 26 0 σ = some (r1, τ1) := a1
  rw [a1, Option.bind_some]
  dsimp only
  show ∃ r τ, _ ∧ CR1 σ τ t C L r (mapT (match tkS (kdT C L) 0 p with
    | .error e => .error e
    | .ok q => tksS (kdT C L) [20, 21, 21, 21, 22] q) (hoX (vlV C L) X p))
  have f1 : FJ (SBt t) (fun k => k = t + 1) σ τ1 := (a2.mo (fun _ _ => SB_t)).fj
  cases q1 : tkS (kdT C L) 0 p with
  | error e =>
    rw [q1] at a3
    rw [a3.1, if_pos rfl]
    exact ⟨0, τ1, rfl, f1, rfl, a3.2⟩
  | ok p1 =>
    rw [q1] at a3
    obtain ⟨ra, e1, a4, C1⟩ := a3
    subst e1
    rw [ra, if_neg one0]
    have T1 : CTX τ1 t C L X (p + 1) s := h.fs C1 (F26 a4) (fun k j q => by omega) ht
    obtain ⟨v, v1, v2⟩ := c_value C1
    rw [v1, Option.bind_some]
    dsimp only
    rw [C1.2.2.1]
    simp (disch := omega) only [vif, nI_clamp]
    have Cw : CS (wJ τ1 (t + 1) X.n v) t C L (p + 1) s := C1.wJ ht
    have Yw : CTY (wJ τ1 (t + 1) X.n v) t C L X s := T1.y.wJ (Nat.le_refl _)
    have fw : FJ (SBt t) (fun k => k = t + 1) σ (wJ τ1 (t + 1) X.n v) := f1.wJ rfl
    have nw : (wJ τ1 (t + 1) X.n v).2.1 (t + 1) X.n = v := by rw [wJ_k, pk_uLs]
    generalize wJ τ1 (t + 1) X.n v = τw at Cw Yw fw nw
    rw [c_kind Cw, Option.bind_some]
    dsimp only
    have hkl := kd_lt C L (p + 1)
    by_cases k20 : kdT C L (p + 1) = 20
    · rw [if_pos (show nI (kdT C L (p + 1)) = 20 by rw [k20]; rfl)]
      obtain ⟨v', v3, v4⟩ := c_value Cw
      rw [v3, Option.bind_some]
      dsimp only
      rw [Cw.2.2.1, v4 (Or.inl k20), c_named hn8 Yw.2.2.1.1 Yw.2.2.2.2.2.2.1 (vlV_63 k20), Option.bind_some]
      dsimp only
      have nv : τw.2.1 (t + 1) X.n = lN (vlV C L (p + 1)) := by rw [nw]; exact v2 (Or.inl k20)
      by_cases z : hoI X.nm X.n (vlV C L (p + 1)) = -1
      · rw [if_pos z]
        refine c_h78 ht (by omega) (la1 := X.la) (by rw [decide_eq_false (fun y => y z), nt_f]) Cw fw (fun _ => ⟨Yw, nv⟩)
      · rw [if_neg z]
        obtain ⟨τ3, c1, c2, c3⟩ := c_note Cw Yw.1 (k := 3) (by omega)
        have c1 : fX1_note 26 3 τw = some τ3 := c1
        rw [c1, Option.bind_some]
        exact c_h78 ht (by omega) (la1 := nt X.la true 3 (p + 1)) (by rw [decide_eq_true z]) (Cw.n5 ht c2) (fw.tr (c2.mo (fun k j q => by unfold SBt; omega)).fj) (fun _ => ⟨Yw.la (c2.mo (fun k j q => by omega)) c3 ht, by rw [c2.2]; exact nv⟩)
    · rw [if_neg (show ¬ nI (kdT C L (p + 1)) = 20 from ne_nI (b := 20) (by omega) (by omega) k20)]
      exact c_h78 ht (by omega) (la1 := nt X.la (decide (¬ hoI X.nm X.n (vlV C L (p + 1)) = -1)) 3 (p + 1)) rfl Cw fw (fun z => absurd z k20)
/-- one tell, by the class -/
theorem c_tell (ht : t = 2 ∨ t = 14) (h : CTX σ t C L X p s) : ∃ r τ, fX1_readTell 26 σ = some (r, τ) ∧ CR1 σ τ t C L r (tellS (kdT C L) (vlV C L) X p) := by
  have hkl := kd_lt C L p
  have stp : ∀ e : Nat, ∃ r τ, ((fX1_stop 26 (nI e) σ).bind (fun q => some (q.1, q.2))) = some (r, τ) ∧ CR1 σ τ t C L r (.error (e, p)) := fun e => by
    rw [c_stop h.1, Option.bind_some]
    exact ⟨0, _, rfl, (((Fs.rf.wI (S := SBt t) (by unfold SBt; omega)).wI (by unfold SBt; omega))).fj, rfl, by rw [wI_k, upd_n (by omega), wI_k, upd_k], by rw [wI_k, upd_k]⟩
  have bind1 : ∀ (x : Option (Int32 × Sg)) (o : Except (Nat × Nat) (Nat × TS)), (∃ r τ, x = some (r, τ) ∧ CR1 σ τ t C L r o) → ∃ r τ, (x.bind (fun q => some (q.1, q.2))) = some (r, τ) ∧ CR1 σ τ t C L r o := fun x o ⟨r, τ, a1, a2⟩ => ⟨r, τ, by rw [a1]; rfl, a2⟩
  unfold fX1_readTell tellS
  rw [c_kind h.1, Option.bind_some]
  dsimp only
  by_cases k0 : kdT C L p = 0
  · rw [if_pos (show nI (kdT C L p) = 0 by rw [k0]; rfl), if_pos k0]
    by_cases z : X.n = 8
    · rw [if_pos z]
      refine bind1 _ _ ?_
      unfold fX1_readHouse
      rw [h.1.2.2.1, h.2.2.2.1.1, if_neg (by rw [z]; decide)]
      exact stp 2
    · rw [if_neg z]
      exact bind1 _ _ (c_houseT ht h z)
  · rw [if_neg (show ¬ nI (kdT C L p) = 0 from ne_nI (b := 0) (by omega) (by omega) k0), if_neg k0]
    by_cases k1 : kdT C L p = 1
    · rw [if_pos (show nI (kdT C L p) = 1 by rw [k1]; rfl), if_pos k1]
      by_cases z : X.m = 6
      · rw [if_pos z]
        refine bind1 _ _ ?_
        unfold fX1_readSpare
        rw [h.1.2.2.1, h.2.2.2.2.1.1, if_neg (by rw [z]; decide)]
        exact stp 2
      · rw [if_neg z]
        exact bind1 _ _ (c_spare ht h z)
    · rw [if_neg (show ¬ nI (kdT C L p) = 1 from ne_nI (b := 1) (by omega) (by omega) k1), if_neg k1]
      by_cases k2 : kdT C L p = 2
      · rw [if_pos (show nI (kdT C L p) = 2 by rw [k2]; rfl), if_pos k2]
        exact bind1 _ _ (c_both2 ht h)
      · rw [if_neg (show ¬ nI (kdT C L p) = 2 from ne_nI (b := 2) (by omega) (by omega) k2), if_neg k2, if_neg (Int32.not_lt.mpr (show (3 : Int32) ≤ nI (kdT C L p) from nI_le (a := 3) (by omega) (by omega)))]
        by_cases k3 : kdT C L p ≤ 6
        · rw [if_neg (Int32.not_lt.mpr (show nI (kdT C L p) ≤ 6 from nI_le (b := 6) (by omega) (by omega))), if_pos (show 3 ≤ kdT C L p ∧ kdT C L p ≤ 6 by omega), show nI (kdT C L p) - 3 = nI (kdT C L p - 3) from pk_sub (b := 3) (by omega)]
          exact bind1 _ _ (c_law2 ht h (by omega))
        · rw [if_pos (Int32.not_le.mp (show ¬ nI (kdT C L p) ≤ 6 from le_nI (b := 6) (by omega) (by omega) (by omega))), if_neg (show ¬ (3 ≤ kdT C L p ∧ kdT C L p ≤ 6) by omega)]
          unfold jX1_readTell_53
          by_cases k7 : kdT C L p = 7
          · rw [if_pos (show nI (kdT C L p) = 7 by rw [k7]; rfl), if_pos k7]
            exact bind1 _ _ (c_seed ht h)
          · rw [if_neg (show ¬ nI (kdT C L p) = 7 from ne_nI (b := 7) (by omega) (by omega) k7), if_neg k7]
            exact stp 1
end CTELL4
