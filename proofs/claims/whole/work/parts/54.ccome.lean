section RCOME
variable {a t n m : Nat} {σ τ : Sg} {ρ : Nat → Int32} {bo : Nat → Bool} {dr : Nat → Int32} {lb : Nat → Br} {lf : Nat → Rp}
theorem stF_t {h : Nat} (hh : h < n) (v : Int32) : stF n ρ v h = decide (ρ (40 + h) = v) := by
  unfold stF
  by_cases q : ρ (40 + h) = v
  · rw [decide_eq_true q, decide_eq_true ⟨hh, q⟩]
  · rw [decide_eq_false q, decide_eq_false (fun z => q z.2)]
theorem ktF_t {h o : Nat} (hh : h < n) : ktF n ρ o h = decide (ρ (o + h) = 1) := by
  unfold ktF
  by_cases q : ρ (o + h) = 1
  · rw [decide_eq_true q, decide_eq_true ⟨hh, q⟩]
  · rw [decide_eq_false q, decide_eq_false (fun z => q z.2)]
theorem isOut_v (h : CA σ a t n m bo dr lb lf) (hc : CR σ a n m ρ) (hv : RV n m ρ) {w : Nat} (hw : w < n) : fX2_isOut a (nI w) σ = some (nI (b2n (decide (ρ (40 + w) = 1))), σ) := by
  have hn := h.2.2.1.1
  unfold fX2_isOut
  rw [hc.1.2.1, hc.1.2.2.1, mk8_or, fX6_bit_v _ (by omega), Option.bind_some]
  dsimp only
  rw [stF_t hw, stF_t hw]
  rcases (hv.1 w hw).1 with q | q | q <;> rw [q] <;> rfl
theorem c_hasSpare (h : CA σ a t n m bo dr lb lf) (hc : CR σ a n m ρ) {w : Nat} (hw : w < n) : fX2_hasOwnSpare a (nI w) σ = some (nI (b2n (hsB m dr ρ w)), σ) := by
  have hm := h.2.2.1.2
  have hn := h.2.2.1.1
  have key : ∀ d i, i + d = m → (lp (fun st : Int32 × Sg => bX2_hasOwnSpare_2 a (nI w) st.1 st.2) (nI i, σ)).bind (fun o7 => Sum.elim (fun σ8 => some ((1 : Int32), σ8)) (fun o7_ => (fun σ9 => some ((0 : Int32), σ9)) o7_) o7) = some (nI (b2n (anyF (hsP ρ dr (nI w)) d i)), σ) := by
    intro d
    induction d with
    | zero =>
      intro i hi
      rw [lp_r (b := Sum.inr σ) (by
        show bX2_hasOwnSpare_2 a (nI w) (nI i) σ = _
        unfold bX2_hasOwnSpare_2
        rw [h.2.1, h.2.2.2.2.1, show i = m by omega, if_pos (Int32.le_refl _)])]
      rfl
    | succ d ih =>
      intro i hi
      have hb : bX2_hasOwnSpare_2 a (nI w) (nI i) σ = if hsP ρ dr (nI w) i = true then some (.inr (.inl σ)) else some (.inl (nI (i + 1), σ)) := by
        unfold bX2_hasOwnSpare_2 jX2_hasOwnSpare_38 hsP
        rw [h.2.1, h.2.2.2.2.1, if_neg (le_nI (by omega) (by omega) (by omega))]
        simp (disch := omega) only [vif, nI_clamp]
        rw [h.2.2.2.2.2.2.1 i (by omega), (hc.2.2 i (by omega)).1, nI_s]
        by_cases q1 : dr i = nI w
        · rw [if_pos q1]
          by_cases q2 : ρ (72 + i) = nI w
          · rw [if_pos q2, if_pos (decide_eq_true ⟨q2, q1⟩)]
          · rw [if_neg q2, if_neg (by rw [decide_eq_false (fun z => q2 z.1)]; decide)]
        · rw [if_neg q1, if_neg (by rw [decide_eq_false (fun z => q1 z.2)]; decide)]
      show _ = some (nI (b2n (hsP ρ dr (nI w) i || anyF (hsP ρ dr (nI w)) d (i + 1))), σ)
      by_cases q : hsP ρ dr (nI w) i = true
      · rw [lp_r (f := fun st : Int32 × Sg => bX2_hasOwnSpare_2 a (nI w) st.1 st.2) (b := Sum.inl σ) (by show bX2_hasOwnSpare_2 a (nI w) (nI i) σ = _; rw [hb, if_pos q]), q]
        rfl
      · rw [lp_l (f := fun st : Int32 × Sg => bX2_hasOwnSpare_2 a (nI w) st.1 st.2) (a' := (nI (i + 1), σ)) (by show bX2_hasOwnSpare_2 a (nI w) (nI i) σ = _; rw [hb, if_neg q]), show hsP ρ dr (nI w) i = false by simpa using q, Bool.false_or]
        exact ih (i + 1) (by omega)
  unfold fX2_hasOwnSpare hsB
  exact key m 0 (by omega)
theorem c_leftOf (h : CA σ a t n m bo dr lb lf) {w : Nat} (hw : w < n) : fX2_leftOf a (nI w) σ = some (nI (lefN n w), σ) := by
  have hn := h.2.2.1.1
  unfold fX2_leftOf lefN
  rw [h.2.1, h.2.2.2.1]
  by_cases q : w = 0
  · subst q
    rw [if_pos (show nI 0 ≤ 0 by decide), if_pos rfl, nI_p (by omega)]
  · rw [if_neg (show ¬ nI w ≤ 0 from le_nI (b := 0) (by omega) (by omega) (by omega)), if_neg q, nI_p (by omega)]
theorem c_rightOf (h : CA σ a t n m bo dr lb lf) {w : Nat} (hw : w < n) : fX2_rightOf a (nI w) σ = some (nI (rigN n w), σ) := by
  have hn := h.2.2.1.1
  unfold fX2_rightOf rigN
  rw [h.2.1, h.2.2.2.1, nI_s]
  by_cases q : w + 1 < n
  · rw [if_neg (le_nI (by omega) (by omega) q), if_pos q]
  · rw [if_pos (nI_le (by omega) (by omega)), if_neg q]; rfl
/-- in, not outside, waited no more -/
theorem bringIn_v (hn : n ≤ 8) (hc : CR σ a n m ρ) {w : Nat} (hw : w < n) : ∃ τ, Fs (SC a t) σ τ ∧ fX2_bringIn a (nI w) σ = some τ ∧ CR τ a n m (upd (upd ρ (40 + w) 0) (48 + w) 0) := by
  obtain ⟨⟨c1, c2, c3, c4, c5, c6, c7⟩, ch, ce⟩ := hc
  unfold fX2_bringIn
  simp (disch := omega) only [vif, nI_clamp]
  refine ⟨_, ((Fs.rf.wI (SC_0 _ (by omega))).wI (SC_0 _ (by omega))).wI (SC_a _ (by omega)), rfl, ⟨?_, ?_, ?_, ?_, ?_, ?_, ?_⟩, fun x hx => ?_, fun e he => ?_⟩
  · simp only [wI_a, upd_a]
    rw [if_neg (by omega), if_neg (by omega), if_neg (by omega), if_neg (by omega), if_neg (by omega), c1]
  · have e : (wI (wI (wI σ a 2 (σ.1 a 2 ||| 1 <<< (nI w &&& 31))) a 3 ((wI σ a 2 (σ.1 a 2 ||| 1 <<< (nI w &&& 31))).1 a 3 &&& (1 <<< (nI w &&& 31) ^^^ -1))) (a + 5) w 0).1 a 2 = σ.1 a 2 ||| 1 <<< (nI w &&& 31) := by simp [wI_a]
    rw [e, c2, mk8_set _ (by omega)]
    refine congrArg nI (mk8_c fun i hi => ?_)
    unfold fset stF
    by_cases q : i = w
    · subst q; simp [upd_a, hw]
    · rw [if_neg q, upd_n (by omega), upd_n (by omega)]
  · have e : (wI (wI (wI σ a 2 (σ.1 a 2 ||| 1 <<< (nI w &&& 31))) a 3 ((wI σ a 2 (σ.1 a 2 ||| 1 <<< (nI w &&& 31))).1 a 3 &&& (1 <<< (nI w &&& 31) ^^^ -1))) (a + 5) w 0).1 a 3 = σ.1 a 3 &&& (1 <<< (nI w &&& 31) ^^^ -1) := by simp [wI_a]
    rw [e, c3, one_b (by omega), mk8_diff]
    refine congrArg nI (mk8_c fun i hi => ?_)
    unfold stF
    by_cases q : i = w
    · subst q; simp [upd_a]
    · rw [upd_n (by omega), upd_n (by omega)]; simp [q]
  · have e : (wI (wI (wI σ a 2 (σ.1 a 2 ||| 1 <<< (nI w &&& 31))) a 3 ((wI σ a 2 (σ.1 a 2 ||| 1 <<< (nI w &&& 31))).1 a 3 &&& (1 <<< (nI w &&& 31) ^^^ -1))) (a + 5) w 0).1 a 4 = σ.1 a 4 := by simp [wI_a]
    rw [e, c4]
    refine congrArg nI (mk8_c fun i hi => ?_)
    unfold ktF
    rw [upd_n (by omega), upd_n (by omega)]
  · have e : (wI (wI (wI σ a 2 (σ.1 a 2 ||| 1 <<< (nI w &&& 31))) a 3 ((wI σ a 2 (σ.1 a 2 ||| 1 <<< (nI w &&& 31))).1 a 3 &&& (1 <<< (nI w &&& 31) ^^^ -1))) (a + 5) w 0).1 a 5 = σ.1 a 5 := by simp [wI_a]
    rw [e, c5]
    refine congrArg nI (mk8_c fun i hi => ?_)
    unfold ktF
    rw [upd_n (by omega), upd_n (by omega)]
  · rw [upd_n (by omega), upd_n (by omega), ← c6]; simp [wI_a]
  · rw [upd_n (by omega), upd_n (by omega), ← c7]; simp [wI_a]
  · obtain ⟨d1, d2, d3, d4, d5, d6⟩ := ch x hx
    refine ⟨?_, ?_, ?_, ?_, ?_, ?_⟩
    · rw [upd_n (by omega), upd_n (by omega), ← d1]; simp [wI_a]
    · rw [upd_n (by omega), upd_n (by omega), ← d2]; simp [wI_a]
    · rw [upd_n (by omega), upd_n (by omega), ← d3]; simp [wI_a]
    · rw [upd_n (by omega), upd_n (by omega), ← d4]; simp [wI_a]
    · by_cases q : x = w
      · subst q; rw [upd_k]; simp [wI_a]
      · rw [upd_n (by omega), upd_n (by omega), ← d5]; simp [wI_a, q]
    · rw [upd_n (by omega), upd_n (by omega), ← d6]; simp [wI_a]
  · obtain ⟨d1, d2⟩ := ce e he
    refine ⟨?_, ?_⟩
    · rw [upd_n (by omega), upd_n (by omega), ← d1]; simp [wI_a]
    · rw [upd_n (by omega), upd_n (by omega), ← d2]; simp [wI_a]
end RCOME
