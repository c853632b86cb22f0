section CCOME
variable {a t n m : Nat} {σ τ : Sg} {ρ ρ' : Nat → Int32} {bo : Nat → Bool} {dr : Nat → Int32} {lb : Nat → Br} {lf : Nat → Rp}
theorem CR.late (hc : CR σ a n m ρ) (hn : n ≤ 8) (hm : m ≤ 6) {w : Nat} (hw : w < n) : CR (wI σ a 5 (σ.1 a 5 ||| (1 : Int32) <<< (nI w &&& 31))) a n m (upd ρ (56 + w) 1) := by
  refine hc.ms hn hm (fun x hx hx2 hx3 => upd_n (by omega)) (fun k j hkj => ?_) ?_ ?_ ?_ ?_
  · rw [wI_a, if_neg (by omega)]
  · rw [wI_a, if_neg (by omega), hc.1.2.1]
    exact congrArg nI (mk8_c fun i hi => by unfold stF; rw [upd_n (by omega)])
  · rw [wI_a, if_neg (by omega), hc.1.2.2.1]
    exact congrArg nI (mk8_c fun i hi => by unfold stF; rw [upd_n (by omega)])
  · rw [wI_a, if_neg (by omega), hc.1.2.2.2.1]
    exact congrArg nI (mk8_c fun i hi => by unfold ktF; rw [upd_n (by omega)])
  · rw [wI_a, if_pos ⟨rfl, rfl⟩, hc.1.2.2.2.2.1, mk8_set _ (by omega)]
    refine congrArg nI (mk8_c fun i hi => ?_)
    unfold fset ktF
    by_cases q : i = w
    · subst q; rw [if_pos rfl, upd_k, decide_eq_true ⟨hw, rfl⟩]
    · rw [if_neg q, upd_n (by omega)]
theorem CR.outs (hc : CR σ a n m ρ) (hn : n ≤ 8) (hm : m ≤ 6) {w : Nat} (hw : w < n) (h1 : ρ (40 + w) = 1) : CR (wI σ a 3 (σ.1 a 3 ||| (1 : Int32) <<< (nI w &&& 31))) a n m (upd ρ (40 + w) 2) := by
  refine hc.ms hn hm (fun x hx hx2 hx3 => upd_n (by omega)) (fun k j hkj => ?_) ?_ ?_ ?_ ?_
  · rw [wI_a, if_neg (by omega)]
  · rw [wI_a, if_neg (by omega), hc.1.2.1]
    refine congrArg nI (mk8_c fun i hi => ?_)
    unfold stF
    by_cases q : i = w
    · subst q; rw [upd_k, h1, decide_eq_false (fun z => absurd z.2 (by decide)), decide_eq_false (fun z => absurd z.2 (by decide))]
    · rw [upd_n (by omega)]
  · rw [wI_a, if_pos ⟨rfl, rfl⟩, hc.1.2.2.1, mk8_set _ (by omega)]
    refine congrArg nI (mk8_c fun i hi => ?_)
    unfold fset stF
    by_cases q : i = w
    · subst q; rw [if_pos rfl, upd_k, decide_eq_true ⟨hw, rfl⟩]
    · rw [if_neg q, upd_n (by omega)]
  · rw [wI_a, if_neg (by omega), hc.1.2.2.2.1]
    exact congrArg nI (mk8_c fun i hi => by unfold ktF; rw [upd_n (by omega)])
  · rw [wI_a, if_neg (by omega), hc.1.2.2.2.2.1]
    exact congrArg nI (mk8_c fun i hi => by unfold ktF; rw [upd_n (by omega)])
theorem lot24 (p0 p1 p2 x4 s0 s1 : Int32) : jX2_lot_24 p0 p1 p2 x4 s0 s1 σ = some (.inl (mix s0 s1, x4 + 1, σ)) := by
  unfold jX2_lot_24 mix
  rfl
theorem c_lot (sd wh : Int32) : fX2_lot 100 sd wh σ = some (lot sd wh, σ) := by
  have s0 : (fun st : Int32 × Int32 × Sg => bX2_lot_5 100 sd wh st.1 st.2.1 st.2.2) (sd, 0, σ) = some (.inl (mix sd 133, 0 + 1, σ)) := by
    show bX2_lot_5 100 sd wh sd 0 σ = _
    unfold bX2_lot_5
    rw [if_neg (show ¬ (2 : Int32) ≤ 0 by decide), if_pos rfl, lot24]
  have s1 : (fun st : Int32 × Int32 × Sg => bX2_lot_5 100 sd wh st.1 st.2.1 st.2.2) (mix sd 133, 0 + 1, σ) = some (.inl (mix (mix sd 133) wh, 0 + 1 + 1, σ)) := by
    show bX2_lot_5 100 sd wh (mix sd 133) (0 + 1) σ = _
    unfold bX2_lot_5
    rw [if_neg (show ¬ (2 : Int32) ≤ 0 + 1 by decide), if_neg (show ¬ (0 + 1 : Int32) = 0 by decide), lot24]
  have s2 : (fun st : Int32 × Int32 × Sg => bX2_lot_5 100 sd wh st.1 st.2.1 st.2.2) (mix (mix sd 133) wh, 0 + 1 + 1, σ) = some (.inr (mix (mix sd 133) wh, σ)) := by
    show bX2_lot_5 100 sd wh (mix (mix sd 133) wh) (0 + 1 + 1) σ = _
    unfold bX2_lot_5
    rw [if_pos (show (2 : Int32) ≤ 0 + 1 + 1 by decide)]
  unfold fX2_lot
  rw [lp_l s0, lp_l s1, lp_r s2, Option.bind_some]
  dsimp only
  rw [if_neg (show ¬ (100 : Int32) ≤ 0 by decide), if_pos (show ¬ (100 : Int32) = 0 by decide)]
  unfold lot
  rfl
theorem isLate_v (h : CA σ a t n m bo dr lb lf) (hc : CR σ a n m ρ) {w : Nat} (hw : w < n) : ∃ τ, Fs (SL t) σ τ ∧ fX2_isLate a (nI w) σ = some (nI (b2n (decide (lot (σ.1 a 8) (32 * ρ 84 + nI w) < latV n lb lf ρ w))), τ) := by
  have hn := h.2.2.1.1
  obtain ⟨τ, υ, g1, g2, g3, g4, g5⟩ := setLaw_v h hc (k := 3) (by decide) 0 (ρ (16 + w)) 0 (nI w) 0
  refine ⟨υ, g2, ?_⟩
  have ha := h.1
  have e8 : υ.1 a 8 = σ.1 a 8 := g2.1 _ _ (fun q => by unfold SL at q; omega)
  have e1 : υ.1 a 1 = ρ 84 := (g2.1 _ _ (fun q => by unfold SL at q; omega)).trans hc.1.1
  unfold fX2_isLate
  simp (disch := omega) only [vif, nI_clamp]
  rw [(hc.2.1 w hw).2.2.1, g3, Option.bind_some, g4]
  have g5 : fX0_valueOf (t + 7) 3 τ = _ := g5
  rw [g5, Option.bind_some]
  dsimp only
  rw [c_lot, Option.bind_some, e8, e1, i_clamp 0 100 _ (by decide)]
  dsimp only
  unfold latV
  generalize lot (σ.1 a 8) (32 * ρ 84 + nI w) = L
  generalize clamp 0 100 (lawV (vs ρ n 0 (ρ (16 + w)) 0 (nI w) 0) (lb 3) (lf 3)) = C
  by_cases q : L < C
  · rw [if_neg (Int32.not_le.mpr q), decide_eq_true q]; rfl
  · rw [if_pos (Int32.not_lt.mp q), decide_eq_false q]; rfl
theorem vs_c {wt tp ot wh ky : Int32} (hn : n ≤ 8) (e : ∀ x, (x = 84 ∨ 40 ≤ x ∧ x < 48) → ρ' x = ρ x) : vs ρ' n wt tp ot wh ky = vs ρ n wt tp ot wh ky := by
  have st : ∀ q, cnt8 (stF n ρ' q) = cnt8 (stF n ρ q) := fun q => cnt8_c fun i hi => by unfold stF; rw [e _ (by omega)]
  unfold vs
  funext j
  rw [e 84 (by omega), st, st]
theorem latV_c (hn : n ≤ 8) {w : Nat} (e : ∀ x, (x = 84 ∨ 40 ≤ x ∧ x < 48 ∨ x = 16 + w) → ρ' x = ρ x) : latV n lb lf ρ' w = latV n lb lf ρ w := by
  unfold latV
  rw [vs_c (ρ := ρ) hn (fun x hx => e x (by omega)), e (16 + w) (by omega)]
theorem coS_o {hr sd still lost : Int32} {wf : Nat → Bool} {x j : Nat} (h1 : x ≠ 40 + j) (h2 : x ≠ 56 + j) : coS n lb lf hr sd still lost wf j ρ x = ρ x := by
  unfold coS
  split
  · rw [upd_n h2]
  · split
    · rw [upd_n h2, upd_n h2]
    · rw [upd_n h1, upd_n h2]
def clr (i : Nat) (R : Nat → Int32) : Nat → Int32 := fun x => if 56 + i ≤ x ∧ x < 64 then 0 else R x
theorem clr_u {i x : Nat} {R : Nat → Int32} {v : Int32} (hi : i < 8) (hx : x < 56 ∨ x = 56 + i) : clr (i + 1) (upd (upd R (56 + i) 0) x v) = upd (clr i R) x v := by
  funext y
  unfold clr
  simp only [upd_a]
  by_cases q : y = x
  · rw [if_pos q, if_pos q, if_neg (by omega)]
  · rw [if_neg q, if_neg q]
    by_cases q2 : y = 56 + i
    · rw [if_neg (by omega), if_pos q2, if_pos (by omega)]
    · rw [if_neg q2]
      by_cases q3 : 56 + i ≤ y ∧ y < 64
      · rw [if_pos (by omega), if_pos q3]
      · rw [if_neg (by omega), if_neg q3]
theorem clr_0 {i : Nat} {R : Nat → Int32} (hi : i < 8) : clr (i + 1) (upd R (56 + i) 0) = clr i R := by
  funext y
  unfold clr
  simp only [upd_a]
  by_cases q2 : y = 56 + i
  · rw [if_neg (by omega), if_pos q2, if_pos (by omega)]
  · rw [if_neg q2]
    by_cases q3 : 56 + i ≤ y ∧ y < 64
    · rw [if_pos (by omega), if_pos q3]
    · rw [if_neg (by omega), if_neg q3]
theorem letPeopleCome_v (h : CA σ a t n m bo dr lb lf) (hc : CR σ a n m ρ) (hv : RV n m ρ) {wf : Nat → Bool} {sd still lost : Int32} (h6 : σ.1 a 6 = nI (mk8 (fun i => decide (nI i = lost)))) (h7 : σ.1 a 7 = still) (h8 : σ.1 a 8 = sd) : ∃ τ, Fs (SC a t) σ τ ∧ fX2_letPeopleCome a (nI (mk8 (fun i => decide (i < n) && wf i))) σ = some τ ∧ CR τ a n m (foldU (coS n lb lf (irem (ρ 84) 24) sd still lost wf) n ρ) := by
  have hn := h.2.2.1.1
  have hm := h.2.2.1.2
  generalize hhr : irem (ρ 84) 24 = hr
  have ko : ∀ υ, Fs (SC a t) σ υ → ∀ j, 6 ≤ j → j ≤ 9 → υ.1 a j = σ.1 a j := fun υ q j h1 h2 => q.1 _ _ (fun z => by have := h.1; unfold SC at z; omega)
  have c0 : CR (wI σ a 5 0) a n m (clr 0 ρ) := by
    refine hc.ms hn hm (fun x hx hx2 hx3 => ?_) (fun k j hkj => ?_) ?_ ?_ ?_ ?_
    · unfold clr; rw [if_neg (by omega)]
    · rw [wI_a, if_neg (by omega)]
    · rw [wI_a, if_neg (by omega), hc.1.2.1]
      exact congrArg nI (mk8_c fun i hi => by unfold stF clr; rw [if_neg (by omega)])
    · rw [wI_a, if_neg (by omega), hc.1.2.2.1]
      exact congrArg nI (mk8_c fun i hi => by unfold stF clr; rw [if_neg (by omega)])
    · rw [wI_a, if_neg (by omega), hc.1.2.2.2.1]
      exact congrArg nI (mk8_c fun i hi => by unfold ktF clr; rw [if_neg (by omega)])
    · rw [wI_a, if_pos ⟨rfl, rfl⟩]
      exact ((mk8_z _).mpr (fun i hi => by unfold ktF clr; rw [if_pos (by omega), decide_eq_false (fun z => absurd z.2 (by decide))])).symm
  obtain ⟨τ, h1, h2, h3⟩ := lp_inv (f := fun st : Int32 × Sg => bX2_letPeopleCome_21 a (nI (mk8 (fun i => decide (i < n) && wf i))) hr (nI (mk8 (ktF n ρ 56))) st.1 st.2) n (fun i τ => Fs (SC a t) σ τ ∧ CR τ a n m (clr i (foldU (coS n lb lf hr sd still lost wf) i ρ))) (fun i τ hi hI => by
      obtain ⟨hF, hc'⟩ := hI
      have hτ := h.fs hF
      have hv' := rv_fold (rv_coS (lb := lb) (lf := lf) hr sd still lost wf hn hm) hv i (by omega)
      have e56 : foldU (coS n lb lf hr sd still lost wf) i ρ (56 + i) = ρ (56 + i) := foldU_out (fun j ρ hj => coS_o (by omega) (by omega))
      have e84 : foldU (coS n lb lf hr sd still lost wf) i ρ 84 = ρ 84 := foldU_out (fun j ρ hj => coS_o (by omega) (by omega))
      show ∃ τ', bX2_letPeopleCome_21 a _ hr _ (nI i) τ = _ ∧ Fs (SC a t) σ τ' ∧ CR τ' a n m (clr (i + 1) (coS n lb lf hr sd still lost wf i (foldU (coS n lb lf hr sd still lost wf) i ρ)))
      generalize foldU (coS n lb lf hr sd still lost wf) i ρ = R at *
      have b40 : clr i R (40 + i) = R (40 + i) := by unfold clr; rw [if_neg (by omega)]
      have b8 : clr i R (8 + i) = R (8 + i) := by unfold clr; rw [if_neg (by omega)]
      have elat : latV n lb lf (clr i R) i = latV n lb lf (upd R (56 + i) 0) i := latV_c hn (fun x hx => by unfold clr; rw [if_neg (by omega), upd_n (by omega)])
      have c84 : clr i R 84 = R 84 := by unfold clr; rw [if_neg (by omega)]
      unfold bX2_letPeopleCome_21
      rw [hτ.2.1, hτ.2.2.2.1, if_neg (le_nI (by omega) (by omega) hi), fX6_bit_v _ (by omega), Option.bind_some, ktF_t hi, ← e56]
      dsimp only
      -- what comes of each way
      have out : ∃ τ', some (Sum.inl (nI (i + 1), τ)) = (some (Sum.inl (nI (i + 1), τ')) : Option ((Int32 × Sg) ⊕ Sg)) ∧ Fs (SC a t) σ τ' ∧ CR τ' a n m (clr (i + 1) (upd R (56 + i) 0)) := ⟨τ, rfl, hF, by rw [clr_0 (by omega)]; exact hc'⟩
      have B : R (40 + i) = 1 → ∀ υ, Fs (SL t) τ υ → ∃ τ', jX2_letPeopleCome_139 a (nI (mk8 (fun i => decide (i < n) && wf i))) hr (nI (mk8 (ktF n ρ 56))) (nI i) υ = some (.inl (nI (i + 1), τ')) ∧ Fs (SC a t) σ τ' ∧ CR τ' a n m (clr (i + 1) (upd (upd R (56 + i) 0) (40 + i) 2)) := by
        intro q1 υ hυ
        unfold jX2_letPeopleCome_139 jX2_letPeopleCome_152
        dsimp only
        rw [nI_s]
        refine ⟨_, rfl, (hF.tr (hυ.mo (fun _ _ => SL_SC))).wI (SC_0 _ (by omega)), ?_⟩
        rw [clr_u (by omega) (by omega)]
        exact (hc'.sl h.1 hυ).outs hn hm hi (by rw [b40]; exact q1)
      have J : ∀ b : Bool, b = decide (R (56 + i) = 1) → ∃ τ', jX2_letPeopleCome_48 a (nI (mk8 (fun i => decide (i < n) && wf i))) hr (nI (mk8 (ktF n ρ 56))) (nI i) (nI (b2n b)) τ = some (.inl (nI (i + 1), τ')) ∧ Fs (SC a t) σ τ' ∧ CR τ' a n m (clr (i + 1) (coS n lb lf hr sd still lost wf i R)) := by
        intro b hb
        unfold jX2_letPeopleCome_48
        rw [hc'.1.2.1, hc'.1.2.2.1, ko τ hF 6 (by omega) (by omega), h6, mk8_or, mk8_or, mk8_or, fX6_bit_v _ (by omega), Option.bind_some, stF_t hi, stF_t hi, b40, decide_eq_true hi, Bool.true_and]
        dsimp only
        unfold jX2_letPeopleCome_79
        simp (disch := omega) only [vif, nI_clamp]
        rw [(hc'.2.1 i hi).2.1, b8]
        unfold coS
        dsimp only
        by_cases q1 : R (40 + i) = 1
        · cases hwi : wf i
          · by_cases q2 : nI i = lost
            · rw [if_pos (Or.inr (Or.inr (Or.inl q2))), decide_eq_true q2, if_neg (show ¬ nI (b2n (decide (R (40 + i) = 0) || decide (R (40 + i) = 2) || false || true)) = 0 by rw [Bool.or_true]; decide), if_pos (by decide)]
              unfold jX2_letPeopleCome_152
              dsimp only
              rw [nI_s]
              exact out
            · rw [decide_eq_false q2, q1, if_pos (show nI (b2n (decide ((1 : Int32) = 0) || decide ((1 : Int32) = 2) || false || false)) = 0 by decide), if_neg (show ¬ (1 : Int32) = 0 by decide)]
              have K : ∃ τ', jX2_letPeopleCome_102 a (nI (mk8 (fun i => decide (i < n) && wf i))) hr (nI (mk8 (ktF n ρ 56))) (nI i) (nI (b2n b)) τ = some (.inl (nI (i + 1), τ')) ∧ Fs (SC a t) σ τ' ∧ CR τ' a n m (clr (i + 1) (if ¬ R (56 + i) = 1 ∧ still = 0 ∧ lot sd (32 * R 84 + nI i) < latV n lb lf (upd R (56 + i) 0) i then upd (upd R (56 + i) 0) (56 + i) 1 else upd (upd R (56 + i) 0) (40 + i) 2)) := by
                unfold jX2_letPeopleCome_102
                rw [ko τ hF 7 (by omega) (by omega), h7]
                by_cases q56 : R (56 + i) = 1
                · rw [hb, decide_eq_true q56, if_neg (show ¬ nI (b2n true) = 0 by decide), if_neg (fun z => z.1 q56)]
                  exact B q1 τ Fs.rf
                · rw [hb, decide_eq_false q56, if_pos (show nI (b2n false) = 0 by decide)]
                  by_cases q7 : still = 0
                  · rw [if_pos q7]
                    obtain ⟨υ, g1, g2⟩ := isLate_v hτ hc' hi
                    rw [ko τ hF 8 (by omega) (by omega), h8, elat, c84] at g2
                    rw [g2, Option.bind_some]
                    dsimp only
                    by_cases q8 : lot sd (32 * R 84 + nI i) < latV n lb lf (upd R (56 + i) 0) i
                    · rw [decide_eq_true q8, if_neg (show ¬ nI (b2n true) = 0 by decide), if_pos (show ¬ R (56 + i) = 1 ∧ still = 0 ∧ lot sd (32 * R 84 + nI i) < latV n lb lf (upd R (56 + i) 0) i from ⟨q56, q7, q8⟩)]
                      unfold jX2_letPeopleCome_152
                      dsimp only
                      rw [nI_s]
                      refine ⟨_, rfl, (hF.tr (g1.mo (fun _ _ => SL_SC))).wI (SC_0 _ (by omega)), ?_⟩
                      rw [clr_u (by omega) (by omega)]
                      exact (hc'.sl h.1 g1).late hn hm hi
                    · rw [decide_eq_false q8, if_pos (show nI (b2n false) = 0 by decide), if_neg (fun z => q8 z.2.2)]
                      exact B q1 υ g1
                  · rw [if_neg q7, if_neg (fun z => q7 z.2.1)]
                    exact B q1 τ Fs.rf
              by_cases q3 : R (8 + i) = hr
              · rw [if_pos q3, if_neg (fun z => by rcases z with z | z | z | z; exact z rfl; cases z; exact q2 z; exact z.1 q3)]
                exact K
              · rw [if_neg q3]
                by_cases q56 : R (56 + i) = 1
                · rw [hb, decide_eq_true q56, if_neg (show ¬ nI (b2n true) = 0 by decide), if_neg (fun z => by rcases z with z | z | z | z; exact z rfl; cases z; exact q2 z; exact z.2 q56)]
                  rw [hb, decide_eq_true q56] at K
                  exact K
                · rw [hb, decide_eq_false q56, if_pos (show nI (b2n false) = 0 by decide), if_pos (Or.inr (Or.inr (Or.inr ⟨q3, q56⟩)))]
                  unfold jX2_letPeopleCome_152
                  dsimp only
                  rw [nI_s]
                  exact out
          · rw [if_pos (Or.inr (Or.inl rfl)), if_neg (show ¬ nI (b2n (decide (R (40 + i) = 0) || decide (R (40 + i) = 2) || true || decide (nI i = lost))) = 0 by rw [Bool.or_true, Bool.true_or]; decide), if_pos (by decide)]
            unfold jX2_letPeopleCome_152
            dsimp only
            rw [nI_s]
            exact out
        · have ev : (decide (R (40 + i) = 0) || decide (R (40 + i) = 2)) = true := by
            rcases (hv'.1 i hi).1 with e | e | e
            · rw [e]; rfl
            · exact absurd e q1
            · rw [e]; rfl
          rw [if_pos (Or.inl q1), ev, if_neg (show ¬ nI (b2n (true || wf i || decide (nI i = lost))) = 0 by rw [Bool.true_or, Bool.true_or]; decide), if_pos (by decide)]
          unfold jX2_letPeopleCome_152
          dsimp only
          rw [nI_s]
          exact out
      by_cases q : R (56 + i) = 1
      · rw [decide_eq_true q, if_pos (show nI (b2n true) = 1 by decide)]
        exact J true (by rw [decide_eq_true q])
      · rw [decide_eq_false q, if_neg (show ¬ nI (b2n false) = 1 by decide)]
        exact J false (by rw [decide_eq_false q])) (fun τ hI => by
      have hτ := h.fs hI.1
      show bX2_letPeopleCome_21 a _ _ _ (nI n) τ = _
      unfold bX2_letPeopleCome_21
      rw [hτ.2.1, hτ.2.2.2.1, if_pos (Int32.le_refl _)]) ⟨Fs.rf.wI (SC_0 _ (by omega)), c0⟩
  have h1 : lp (fun st : Int32 × Sg => bX2_letPeopleCome_21 a (nI (mk8 (fun i => decide (i < n) && wf i))) hr (nI (mk8 (ktF n ρ 56))) st.1 st.2) (0, wI σ a 5 0) = some τ := h1
  refine ⟨τ, h2, ?_, ?_⟩
  · unfold fX2_letPeopleCome
    dsimp only
    rw [hc.1.1, hhr, hc.1.2.2.2.2.1, h1]
    rfl
  · generalize foldU (coS n lb lf hr sd still lost wf) n ρ = R at *
    refine h3.ms hn hm (fun x hx hx2 hx3 => ?_) (fun _ _ _ => rfl) ?_ ?_ ?_ ?_
    · unfold clr; rw [if_neg (by omega)]
    · rw [h3.1.2.1]; exact congrArg nI (mk8_c fun i hi => by unfold stF clr; rw [if_neg (by omega)])
    · rw [h3.1.2.2.1]; exact congrArg nI (mk8_c fun i hi => by unfold stF clr; rw [if_neg (by omega)])
    · rw [h3.1.2.2.2.1]; exact congrArg nI (mk8_c fun i hi => by unfold ktF clr; rw [if_neg (by omega)])
    · rw [h3.1.2.2.2.2.1]
      refine congrArg nI (mk8_c fun i hi => ?_)
      unfold ktF clr
      by_cases q : i < n
      · rw [if_neg (by omega)]
      · rw [decide_eq_false (fun z => q z.1), decide_eq_false (fun z => q z.1)]
end CCOME
