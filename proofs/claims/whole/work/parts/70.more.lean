section MORE
variable {M a t t' ℓ n m : Nat} {bo : Nat → Bool} {dr : Nat → Int32} {lb : Nat → Br} {lf : Nat → Rp} {sd : Int32} {kw : Nat → Int64} {σ τ : Sg} {ρ : Nat → Int32}
/-- who may open, bit by bit -/
def opR (n : Nat) (bo : Nat → Bool) (ρ : Nat → Int32) (w : Nat) (x : Int32) : Int32 := if ¬ ρ (40 + rigN n w) = 1 ∧ bo (rigN n w) = true then x ||| (1 : Int32) <<< (nI (rigN n w) &&& 31) else x
def opL (n : Nat) (ρ : Nat → Int32) (w : Nat) (x : Int32) : Int32 := if ¬ ρ (40 + lefN n w) = 1 then x ||| (1 : Int32) <<< (nI (lefN n w) &&& 31) else x
theorem c_open58 (h : CA σ a t n m bo dr lb lf) (hc : CR σ a n m ρ) (hv : RV n m ρ) {w : Nat} (hw : w < n) (p x : Int32) : jX2_openersOf_58 a p (nI (rigN n w)) x σ = some (opR n bo ρ w x, σ) := by
  have hn := h.2.2.1.1
  have hr := rigN_lt hw
  unfold jX2_openersOf_58 opR
  rw [isOut_v h hc hv hr, Option.bind_some]
  dsimp only
  by_cases q : ρ (40 + rigN n w) = 1
  · rw [decide_eq_true q, if_neg (show ¬ nI (b2n true) = 0 by decide), if_neg (fun z => z.1 q)]
  · rw [decide_eq_false q, if_pos (show nI (b2n false) = 0 by decide), h.2.1, h.2.2.2.2.2.1, fX6_bit_v _ (by omega), Option.bind_some, decide_eq_true hr, Bool.true_and]
    dsimp only
    cases hb : bo (rigN n w)
    · rw [if_neg (show ¬ nI (b2n false) = 1 by decide), if_neg (fun z => by cases z.2)]
    · rw [if_pos (show nI (b2n true) = 1 by decide), if_pos ⟨q, rfl⟩]
theorem c_open42 (h : CA σ a t n m bo dr lb lf) (hc : CR σ a n m ρ) (hv : RV n m ρ) {w : Nat} (hw : w < n) (p x : Int32) : jX2_openersOf_42 a p (nI (lefN n w)) (nI (rigN n w)) x σ = some (opR n bo ρ w (opL n ρ w x), σ) := by
  have hn := h.2.2.1.1
  have hl := lefN_lt hw
  unfold jX2_openersOf_42 opL
  rw [isOut_v h hc hv hl, Option.bind_some]
  dsimp only
  by_cases q : ρ (40 + lefN n w) = 1
  · rw [decide_eq_true q, if_neg (show ¬ nI (b2n true) = 0 by decide), if_neg (fun z => z q), c_open58 h hc hv hw]
  · rw [decide_eq_false q, if_pos (show nI (b2n false) = 0 by decide), if_pos q, c_open58 h hc hv hw]
def opV (n m : Nat) (bo : Nat → Bool) (dr ρ : Nat → Int32) (w : Nat) : Int32 := if n = 1 then 1 else opR n bo ρ w (opL n ρ w (if hsB m dr ρ w = true then 0 ||| (1 : Int32) <<< (nI w &&& 31) else 0))
theorem c_openers (h : CA σ a t n m bo dr lb lf) (hc : CR σ a n m ρ) (hv : RV n m ρ) {w : Nat} (hw : w < n) : fX2_openersOf a (nI w) σ = some (opV n m bo dr ρ w, σ) := by
  have hn := h.2.2.1.1
  unfold fX2_openersOf opV jX2_openersOf_34
  rw [c_leftOf h hw, Option.bind_some]
  dsimp only
  rw [c_rightOf h hw, Option.bind_some]
  dsimp only
  rw [h.2.1, h.2.2.2.1]
  by_cases q : n = 1
  · subst q
    have e0 : w = 0 := by omega
    subst e0
    rw [if_pos (show nI 1 = 1 from rfl), if_pos rfl, c_open42 h hc hv hw]
    unfold opR opL
    have el : lefN 1 0 = 0 := rfl
    have er : rigN 1 0 = 0 := rfl
    rw [el, er]
    congr 2
    split <;> split <;> decide
  · rw [if_neg (show ¬ nI n = 1 from ne_nI (b := 1) (by omega) (by omega) q), if_neg q, c_hasSpare h hc hw, Option.bind_some]
    dsimp only
    cases hs : hsB m dr ρ w
    · rw [if_pos (show nI (b2n false) = 0 by decide), if_neg (by decide), c_open42 h hc hv hw]
    · rw [if_neg (show ¬ nI (b2n true) = 0 by decide), if_pos rfl, c_open42 h hc hv hw]
theorem m_openers (h : MS σ M ℓ n m bo dr lb lf) {w : Nat} (hw : w < n) : ((fX7_canOwn M (nI w) σ).bind (fun q15 => let r13 := q15.1; let σ12 := q15.2; if r13 = 0 then (jX7_openers_30 M (nI w) (0 : Int32) σ12) else ((let x2_38 := ((0 : Int32) ||| ((1 : Int32) <<< (nI w &&& 31))); jX7_openers_30 M (nI w) x2_38 σ12)))) = some (opV n m bo dr (σ.1 (M + 31)) w, σ) := by
  have hn := h.1.2.2.1
  have R : ∀ x, jX7_openers_48 M (nI w) x σ = some (if n = 1 then x else opR n bo (σ.1 (M + 31)) w x, σ) := by
    intro x
    unfold jX7_openers_48 opR
    rw [canRight_v h hw, Option.bind_some]
    dsimp only
    by_cases q : n = 1
    · rw [decide_eq_true q, if_pos (show nI (b2n (!true && _)) = 0 from rfl), if_pos q]
    · rw [decide_eq_false q, if_neg q]
      by_cases q1 : σ.1 (M + 31) (40 + rigN n w) = 1
      · rw [decide_eq_true q1, if_pos (show nI (b2n (!false && (!true && _))) = 0 from rfl), if_neg (fun z => z.1 q1)]
      · rw [decide_eq_false q1]
        cases hb : bo (rigN n w)
        · rw [if_pos (show nI (b2n (!false && (!false && false))) = 0 by decide), if_neg (fun z => by cases z.2)]
        · rw [if_neg (show ¬ nI (b2n (!false && (!false && true))) = 0 by decide), if_pos ⟨q1, rfl⟩, rightOf_w h.1 hw]
          rfl
  have L : ∀ x, jX7_openers_30 M (nI w) x σ = some (if n = 1 then x else opR n bo (σ.1 (M + 31)) w (opL n (σ.1 (M + 31)) w x), σ) := by
    intro x
    unfold jX7_openers_30 opL
    rw [canLeft_v h hw, Option.bind_some]
    dsimp only
    by_cases q : n = 1
    · rw [decide_eq_true q, if_pos (show nI (b2n (!true && _)) = 0 from rfl), R, if_pos q, if_pos q]
    · rw [decide_eq_false q]
      by_cases q1 : σ.1 (M + 31) (40 + lefN n w) = 1
      · rw [decide_eq_true q1, if_pos (show nI (b2n (!false && !true)) = 0 by decide), R, if_neg q, if_neg q, if_neg (fun z => z q1)]
      · rw [decide_eq_false q1, if_neg (show ¬ nI (b2n (!false && !false)) = 0 by decide), leftOf_w h.1 hw, Option.bind_some, if_pos q1]
        dsimp only
        rw [R, if_neg q, if_neg q]
  rw [canOwn_v h, Option.bind_some]
  dsimp only
  unfold opV
  by_cases q : n = 1
  · subst q
    have e0 : w = 0 := by omega
    subst e0
    rw [decide_eq_true rfl, if_neg (show ¬ nI (b2n (true || _)) = 0 from by rw [Bool.true_or]; decide), L, if_pos rfl, if_pos rfl]
    congr 2
  · rw [decide_eq_false q, Bool.false_or, if_neg q]
    cases hs : hsB m dr (σ.1 (M + 31)) w
    · rw [if_pos (show nI (b2n false) = 0 by decide), L, if_neg q, if_neg (by decide)]
    · rw [if_neg (show ¬ nI (b2n true) = 0 by decide), L, if_neg q, if_pos rfl]
theorem ag_openers (h : RLp M t t' ℓ n m bo dr lb lf sd kw σ) (p1 : Int32) : Ag (fX6_openers 0 p1) (fX7_openers M p1) (RLp M t t' ℓ n m bo dr lb lf sd kw) σ := by
  have hn := h.n8
  show ∃ r σ1 σ2, fX6_openers 0 p1 σ = some (r, σ1) ∧ fX7_openers M p1 σ1 = some (r, σ2) ∧ RLp M t t' ℓ n m bo dr lb lf sd kw σ2
  unfold fX6_openers fX7_openers
  rcases arg p1 (n := n) (by omega) with q | ⟨w, hw, rfl⟩
  · exact ⟨-1, σ, σ, by rw [c_isH0 h q]; rfl, by rw [m_isH0 h.ms.1 q]; rfl, h⟩
  · obtain ⟨τ, k1, k2, k3, -, -, -, k4⟩ := m_copies h
    have mo := m_openers k4.ms hw
    rw [k3] at mo
    refine ⟨opV n m bo dr (nowR M σ) w, σ, τ, ?_, ?_, k4⟩
    · rw [c_isH1 h hw, Option.bind_some]
      dsimp only
      rw [if_neg one0]
      simp only [Nat.zero_add]
      rw [c_openers h.ca h.crn h.rvn hw]; rfl
    · rw [m_isH1 h.ms.1 hw, Option.bind_some]
      dsimp only
      rw [if_neg one0, k2, Option.bind_some]
      exact mo
/-- the spare that is soonest there -/
def soS (dr : Nat → Int32) (dy : Nat → Nat) (w : Nat) : Nat → Option Nat
  | 0 => none
  | i + 1 => if dr i = nI w then (match soS dr dy w i with
      | none => some i
      | some e => if dy i < dy e then some i else some e) else soS dr dy w i
def fwI (dy : Nat → Nat) (q : Option Nat) : Int32 := match q with
  | some e => nI (dy e)
  | none => -2
theorem soS_lt (dr : Nat → Int32) (dy : Nat → Nat) (w : Nat) : ∀ {i e : Nat}, soS dr dy w i = some e → e < i
  | 0, _, h => by cases h
  | i + 1, e, h => by
    unfold soS at h
    split at h
    · split at h
      · cases h; omega
      · rename_i e' h'
        have := soS_lt dr dy w h'
        split at h
        · cases h; omega
        · cases h; omega
    · exact Nat.lt_succ_of_lt (soS_lt dr dy w h)
theorem ag_soonest (h : RLp M t t' ℓ n m bo dr lb lf sd kw σ) (p1 p2 : Int32) : Ag (fX6_soonest 0 p1 p2) (fX7_soonest M p1 p2) (RLp M t t' ℓ n m bo dr lb lf sd kw) σ := by
  have hn := h.n8
  have hm := h.m6
  have hl := h.ms.1.1
  show ∃ r σ1 σ2, fX6_soonest 0 p1 p2 σ = some (r, σ1) ∧ fX7_soonest M p1 p2 σ1 = some (r, σ2) ∧ RLp M t t' ℓ n m bo dr lb lf sd kw σ2
  unfold fX6_soonest fX7_soonest
  rcases arg p1 (n := n) (by omega) with q | ⟨w, hw, rfl⟩
  · exact ⟨-1, σ, σ, by rw [c_isH0 h q]; rfl, by rw [m_isH0 h.ms.1 q]; rfl, h⟩
  · rw [c_isH1 h hw, Option.bind_some]
    dsimp only
    rw [if_neg one0]
    rcases either p2 with hp | ⟨h0, h1, hp⟩
    · rw [c_ei1 hp, Option.bind_some]
      dsimp only
      rw [if_neg one0]
      have eb : ∀ e, e < m → σ.1 (M + 30) (72 + e) = nI (σ.1 (M + 30) (72 + e)).toNatClampNeg ∧ (σ.1 (M + 30) (72 + e)).toNatClampNeg < n := fun e he => by
        obtain ⟨b, hb, q⟩ := h.nbox he
        rw [q, nI_clamp (by omega)]; exact ⟨rfl, hb⟩
      generalize hdy : (fun e => dyN n (σ.1 (M + 30) (72 + e)).toNatClampNeg w) = dy
      have dyl : ∀ e, e < m → dy e < n := fun e he => by
        rw [← hdy]
        have := (eb e he).2
        show dyN n _ w < n
        unfold dyN
        split <;> omega
      have cw : ∀ e, e < m → fX2_waysOf 31 (nI e) (nI w) σ = some (nI (dy e), σ) := fun e he => by rw [← hdy]; exact c_ways h he hw (eb e he).2 (eb e he).1
      have mw : ∀ e, e < m → fX7_daysTo M (nI e) (nI w) σ = some (nI (dy e), σ) := fun e he => by rw [← hdy]; exact m_days h he hw (eb e he).2 (eb e he).1
      have pos : ∀ {e : Nat}, e < 8 → ¬ nI e = -2 ∧ ¬ nI e < 0 := fun {e} he => ⟨fun z => by
        have : (0 : Int32) ≤ nI e := nI_n1 (by omega)
        rw [z] at this
        exact absurd this (by decide), Int32.not_lt.mpr (nI_n1 (by omega))⟩
      have cl : lp (fun st : Int32 × Int32 × Int32 × Sg => bX6_soonest_27 0 (nI w) p2 st.1 st.2.1 st.2.2.1 st.2.2.2) (-2, -2, 0, σ) = some (fsI (soS dr dy w m), fwI dy (soS dr dy w m), σ) := by
        refine lpn (f := fun st : Int32 × Int32 × Int32 × Sg => bX6_soonest_27 0 (nI w) p2 st.1 st.2.1 st.2.2.1 st.2.2.2) (fun i => (fsI (soS dr dy w i), fwI dy (soS dr dy w i), nI i, σ)) m (fun i hi => ?_) ?_ 0 (by omega)
        · show bX6_soonest_27 0 (nI w) p2 (fsI (soS dr dy w i)) (fwI dy (soS dr dy w i)) (nI i) σ = some (Sum.inl (fsI (soS dr dy w (i + 1)), fwI dy (soS dr dy w (i + 1)), nI (i + 1), σ))
          rw [show soS dr dy w (i + 1) = if dr i = nI w then (match soS dr dy w i with | none => some i | some e => if dy i < dy e then some i else some e) else soS dr dy w i from rfl]
          unfold bX6_soonest_27 jX6_soonest_78 jX6_soonest_85
          rw [h.1.2.2.1, h.ct.2.2.1, if_neg (le_nI (by omega) (by omega) hi)]
          simp (disch := omega) only [vif, nI_clamp, Nat.zero_add]
          rw [h.ct.2.2.2.2.1 i hi, nI_s]
          by_cases qd : dr i = nI w
          · rw [if_pos qd, if_pos qd, cw i hi, Option.bind_some]
            dsimp only
            cases hq : soS dr dy w i with
            | none => rw [if_pos (show fsI none = -2 from rfl)]; rfl
            | some e =>
              have he := soS_lt dr dy w hq
              have d1 := dyl i hi
              have d2 := dyl e (by omega)
              rw [if_neg (show ¬ fsI (some e) = -2 from (pos (by omega)).1)]
              show (if nI (dy e) ≤ nI (dy i) then _ else _) = _
              dsimp only
              by_cases ql : dy i < dy e
              · rw [if_neg (le_nI (by omega) (by omega) ql), if_pos ql]; rfl
              · rw [if_pos (nI_le (by omega) (by omega)), if_neg ql]
          · rw [if_neg qd, if_neg qd]
        · show bX6_soonest_27 0 (nI w) p2 _ _ (nI m) σ = _
          unfold bX6_soonest_27
          rw [h.1.2.2.1, h.ct.2.2.1, if_pos (Int32.le_refl _)]
      have ml : lp (fun st : Int32 × Int32 × Sg => bX7_soonest_25 M (nI w) p2 st.1 st.2.1 st.2.2) (-2, 0, σ) = some (fsI (soS dr dy w m), σ) := by
        refine lpn (f := fun st : Int32 × Int32 × Sg => bX7_soonest_25 M (nI w) p2 st.1 st.2.1 st.2.2) (fun i => (fsI (soS dr dy w i), nI i, σ)) m (fun i hi => ?_) ?_ 0 (by omega)
        · show bX7_soonest_25 M (nI w) p2 (fsI (soS dr dy w i)) (nI i) σ = some (Sum.inl (fsI (soS dr dy w (i + 1)), nI (i + 1), σ))
          rw [show soS dr dy w (i + 1) = if dr i = nI w then (match soS dr dy w i with | none => some i | some e => if dy i < dy e then some i else some e) else soS dr dy w i from rfl]
          have hX := h.ms.1
          unfold bX7_soonest_25 jX7_soonest_78 jX7_soonest_81
          rw [if_pos hX.vl, hX.cl, hX.2.2.2.2.2, if_neg (le_nI (by omega) (by omega) hi), hX.2.1, k6, nI_add]
          simp (disch := omega) only [vif, nI_clamp]
          rw [h.ms.2.1 i hi, nI_s]
          by_cases qd : dr i = nI w
          · rw [if_pos qd, if_pos qd]
            cases hq : soS dr dy w i with
            | none => rw [if_pos (show fsI none < 0 by decide)]; rfl
            | some e =>
              have he := soS_lt dr dy w hq
              have d1 := dyl i hi
              have d2 := dyl e (by omega)
              rw [if_neg (show ¬ fsI (some e) < 0 from (pos (by omega)).2), mw i hi, Option.bind_some]
              dsimp only
              show ((fX7_daysTo M (nI e) (nI w) σ).bind _) = _
              rw [mw e (by omega), Option.bind_some]
              dsimp only
              by_cases ql : dy i < dy e
              · rw [if_neg (le_nI (by omega) (by omega) ql), if_pos ql]; rfl
              · rw [if_pos (nI_le (by omega) (by omega)), if_neg ql]
          · rw [if_neg qd, if_neg qd]
        · have hX := h.ms.1
          show bX7_soonest_25 M (nI w) p2 _ (nI m) σ = _
          unfold bX7_soonest_25
          rw [if_pos hX.vl, hX.cl, hX.2.2.2.2.2, if_pos (Int32.le_refl _)]
      refine ⟨if p2 = 0 then fsI (soS dr dy w m) else fwI dy (soS dr dy w m), σ, σ, ?_, ?_, h⟩
      · rw [cl, Option.bind_some]
        dsimp only
        by_cases q0 : p2 = 0
        · rw [if_pos q0, if_pos q0]
        · rw [if_neg q0, if_neg q0]
      · rw [m_isH1 h.ms.1 hw, Option.bind_some]
        dsimp only
        rw [if_neg one0, m_ei1 hp, Option.bind_some]
        dsimp only
        rw [if_neg one0, ml, Option.bind_some]
        dsimp only
        unfold jX7_soonest_95
        cases hq : soS dr dy w m with
        | none =>
          rw [if_pos (show fsI none < 0 by decide)]
          by_cases q0 : p2 = 0
          · rw [if_pos q0]
          · rw [if_neg q0]; rfl
        | some e =>
          have he := soS_lt dr dy w hq
          rw [if_neg (show ¬ fsI (some e) < 0 from (pos (by omega)).2)]
          by_cases q0 : p2 = 0
          · rw [if_pos q0, if_pos q0]
          · rw [if_neg q0, if_neg q0]
            show ((fX7_daysTo M (nI e) (nI w) σ).bind _) = _
            rw [mw e (by omega)]; rfl
    · refine ⟨-1, σ, σ, ?_, ?_, h⟩
      · rw [c_ei0 h0 h1]; rfl
      · rw [m_isH1 h.ms.1 hw, Option.bind_some]
        dsimp only
        rw [if_neg one0, in_0 hp]; rfl
theorem RT.fc {S : Nat → Nat → Prop} {r : Nat} (h : RT M t t' ℓ n m bo dr lb lf sd σ) (hF : Fc S r σ τ) (hr : r ≠ 0) (hS : ∀ k j, (2 ≤ k ∧ k ≤ 11 ∨ 14 ≤ k ∧ k ≤ 23 ∨ M + 9 ≤ k ∧ k ≤ M + 26 ∨ k = M ∧ j = 18) → ¬ S k j) : RT M t t' ℓ n m bo dr lb lf sd τ := by
  obtain ⟨hM, ht, ht1, ht2, ht3, ht4, ht5, ht6, ht7⟩ := h
  exact ⟨hM, ht, (hF.2.2.1 _ _ (fun q => hr q.1.symm)).trans ht1, (hF.2.2.1 _ _ (fun q => hr q.1.symm)).trans ht2, ht3.fc hF (fun x j a1 a2 => hS _ _ (by omega)), ht4.fc hF (fun k j q a1 => hS _ _ (by omega)), (hF.1 _ _ (hS _ _ (by omega))).trans ht5, (hF.1 _ _ (hS _ _ (by omega))).trans ht6, ht7⟩
theorem RH.fc {S : Nat → Nat → Prop} {r : Nat} (h : RH M t n m sd σ) (hF : Fc S r σ τ) (hr : r < 55 ∨ 415 ≤ r) (hS : ∀ k j, (k = 0 ∧ (j = 10 ∨ j = 11) ∨ k = M ∧ j = 53 ∨ k = M + 33 ∨ 55 ≤ k ∧ k < 415) → ¬ S k j) : RH M t n m sd τ := by
  obtain ⟨u, pn, hu, u1, u2, u3, u4⟩ := h
  have e33 : ∀ j, τ.1 (M + 33) j = σ.1 (M + 33) j := fun j => hF.1 _ _ (hS _ _ (by omega))
  refine ⟨u, pn, hu, (hF.1 _ _ (hS _ _ (by omega))).trans u1, (hF.1 _ _ (hS _ _ (by omega))).trans u2, (hF.1 _ _ (hS _ _ (by omega))).trans u3, fun i hi => ?_⟩
  rw [funext fun x => e33 (88 * i + x)]
  exact (u4 i hi).fc hF (by omega) (fun x j a1 a2 => hS _ _ (by omega))
theorem RK.fc {S : Nat → Nat → Prop} {r : Nat} (h : RK M t n m sd σ) (hF : Fc S r σ τ) (hr : r < 415 ∨ 442 ≤ r) (hS : ∀ k j, (k = 0 ∧ j = 13 ∨ k = M + 38 ∨ k = M + 39 ∨ 415 ≤ k ∧ k < 442) → ¬ S k j) : RK M t n m sd τ := by
  obtain ⟨hs, s1, s2, s3⟩ := h
  have e39 : ∀ j, τ.1 (M + 39) j = σ.1 (M + 39) j := fun j => hF.1 _ _ (hS _ _ (by omega))
  refine ⟨hs, (hF.1 _ _ (hS _ _ (by omega))).trans s1, s2, fun s hs3 => ⟨(hF.1 _ _ (hS _ _ (by omega))).trans (s3 s hs3).1, fun q => ?_⟩⟩
  rw [funext fun x => e39 (88 * s + x)]
  exact ((s3 s hs3).2 q).fc hF (by omega) (fun x j a1 a2 => hS _ _ (by omega))
theorem RO.fc {S : Nat → Nat → Prop} {r : Nat} (h : RO M n σ) (hF : Fc S r σ τ) (hS : ∀ k j, (k = 0 ∧ (j = 15 ∨ j = 16) ∨ k = 53 ∨ k = M ∧ j = 61 ∨ k = M + 35 ∨ k = M + 36) → ¬ S k j) : RO M n τ := by
  obtain ⟨k, k1, k2, k3, k4⟩ := h
  refine ⟨k, k1, (hF.1 _ _ (hS _ _ (by omega))).trans k2, (hF.1 _ _ (hS _ _ (by omega))).trans k3, fun i hi => ?_⟩
  rw [hF.1 53 i (hS _ _ (by omega)), hF.1 (M + 35) i (hS _ _ (by omega)), hF.1 (M + 36) i (hS _ _ (by omega)), hF.1 0 15 (hS _ _ (by omega))]
  exact k4 i hi
theorem RP.fc {S : Nat → Nat → Prop} {r : Nat} (h : RP M σ) (hF : Fc S r σ τ) (hS : ∀ k j, (k = 0 ∧ (j = 1 ∨ j = 2) ∨ k = 1 ∨ k = M ∧ (j = 2 ∨ j = 17) ∨ k = M + 1) → ¬ S k j) : RP M τ := by
  obtain ⟨⟨L, l1, l2, l3, l4⟩, p1⟩ := h
  refine ⟨⟨L, l1, (hF.1 _ _ (hS _ _ (by omega))).trans l2, (hF.1 _ _ (hS _ _ (by omega))).trans l3, fun i hi => ?_⟩, ?_⟩
  · rw [hF.1 1 i (hS _ _ (by omega)), hF.1 (M + 1) i (hS _ _ (by omega))]; exact l4 i hi
  · rw [hF.1 0 2 (hS _ _ (by omega)), hF.1 M 17 (hS _ _ (by omega))]; exact p1
theorem RF.fc {S : Nat → Nat → Prop} {r : Nat} (h : RF M kw σ) (hF : Fc S r σ τ) (hr : r ≠ 51 ∧ r ≠ 52) : RF M kw τ := by
  obtain ⟨f1, f2, f3⟩ := h
  exact ⟨fun i hi => (hF.2.2.1 _ _ (by omega)).trans (f1 i hi), fun i hi => (hF.2.2.1 _ _ (by omega)).trans (f2 i hi), fun k hk => by rw [hF.2.1]; exact f3 k hk⟩
theorem now_fc {S : Nat → Nat → Prop} {r : Nat} (h : CE σ 31 t n m sd (σ.1 (M + 30))) (hF : Fc S r σ τ) (hr : r ≠ 31) (hS : ∀ k j, (31 ≤ k ∧ k ≤ 39 ∨ k = M + 30) → ¬ S k j) : CE τ 31 t n m sd (τ.1 (M + 30)) := by
  rw [show τ.1 (M + 30) = σ.1 (M + 30) from funext fun j => hF.1 _ _ (hS _ _ (by omega))]
  exact h.fc hF (by omega) (fun x j a1 a2 => hS _ _ (by omega))
theorem ag_forget (h : RLp M t t' ℓ n m bo dr lb lf sd kw σ) : Ag (fX6_forget 0) (fX7_forget M) (RLp M t t' ℓ n m bo dr lb lf sd kw) σ := by
  have hM := h.1.1
  obtain ⟨k, k1, k2, k3, k4⟩ := h.2.2.2.2.1
  refine ⟨nI k, wI σ 0 16 0, wI (wI σ 0 16 0) M 61 0, ?_, ?_, ?_⟩
  · unfold fX6_forget; rw [k2]
  · unfold fX7_forget; rw [wI_n (by omega), k3]
  · have hF : Fc (fun k j => k = 0 ∧ j = 16 ∨ k = M ∧ j = 61) 40 σ (wI (wI σ 0 16 0) M 61 0) := (Fc.rf.wI (Or.inl ⟨rfl, rfl⟩)).wI (Or.inr ⟨rfl, rfl⟩)
    obtain ⟨h1, h2, h3, h4, -, h6, h7⟩ := h
    refine ⟨h1.fc hF (by omega) (fun k j q => by omega), now_fc h2 hF (by omega) (fun k j q => by omega), h3.fc hF (by omega) (fun k j q => by omega), h4.fc hF (by omega) (fun k j q => by omega), ⟨0, by omega, ?_, ?_, fun i hi => by omega⟩, h6.fc hF (fun k j q => by omega), h7.fc hF (by omega)⟩
    · rw [wI_n (by omega), wI_k, upd_k]; rfl
    · rw [wI_k, upd_k]; rfl
end MORE
