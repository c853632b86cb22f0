theorem upd_cm {f : Nat → Int32} {i j : Nat} {v u : Int32} (h : i ≠ j) : upd (upd f i v) j u = upd (upd f j u) i v := by
  funext x
  simp only [upd_a]
  by_cases q : x = j
  · rw [if_pos q, if_neg (by omega), if_pos q]
  · rw [if_neg q, if_neg q]
section CIN
variable {a t n m : Nat} {σ τ : Sg} {ρ ρ' : Nat → Int32} {bo : Nat → Bool} {dr : Nat → Int32} {lb : Nat → Br} {lf : Nat → Rp}
def cinE (ρ : Nat → Int32) (w o : Nat) (b : Bool) : Nat → Int32 :=
  let ρ1 := upd (upd (upd (upd ρ (40 + w) 0) (48 + w) 0) (64 + w) (nI o)) 86 (ρ 86 + 1)
  if b = true then upd ρ1 87 (ρ 87 + 1) else ρ1
theorem in119_v (hn : n ≤ 8) (hm : m ≤ 6) (hc : CR σ a n m ρ) {w o : Nat} (hw : w < n) (b : Bool) : ∃ τ, Fs (SC a t) σ τ ∧ jX2_letInIfCan_119 a (nI w) (nI (b2n b)) (wI σ (a + 6) w (nI o)) = some (1, τ) ∧ CR τ a n m (cinE ρ w o b) := by
  have c6 := hc.wO hn hm hw (v := nI o)
  obtain ⟨υ, g1, g2, g3⟩ := bringIn_v (t := t) hn c6 hw
  have F6 : Fs (SC a t) σ υ := (Fs.rf.wI (SC_a _ (by omega))).tr g1
  unfold jX2_letInIfCan_119 jX2_letInIfCan_148
  rw [g2, Option.bind_some]
  dsimp only
  have e10 : υ.1 a 10 = ρ 86 := by rw [g3.1.2.2.2.2.2.1, upd_n (by omega), upd_n (by omega), upd_n (by omega)]
  have e11 : υ.1 a 11 = ρ 87 := by rw [g3.1.2.2.2.2.2.2, upd_n (by omega), upd_n (by omega), upd_n (by omega)]
  have F7 := F6.wI (k := a) (i := 10) (v := ρ 86 + 1) (SC_0 _ (by omega))
  have g4 := g3.wL hn hm (v := ρ 86 + 1)
  have es : upd (upd (upd (upd ρ (64 + w) (nI o)) (40 + w) 0) (48 + w) 0) 86 (ρ 86 + 1) = upd (upd (upd (upd ρ (40 + w) 0) (48 + w) 0) (64 + w) (nI o)) 86 (ρ 86 + 1) := by
    rw [upd_cm (i := 64 + w) (j := 40 + w) (by omega), upd_cm (i := 64 + w) (j := 48 + w) (by omega)]
  rw [es] at g4
  have e11b : (wI υ a 10 (ρ 86 + 1)).1 a 11 = ρ 87 := by rw [wI_a, if_neg (by omega), e11]
  rw [e10, e11b]
  unfold cinE
  dsimp only
  cases b
  · rw [if_pos (show nI (b2n false) = 0 by decide), if_neg (by decide), show ρ 87 + 0 = ρ 87 from Int32.add_zero _]
    refine ⟨_, F7.wI (SC_0 _ (by omega)), rfl, ?_⟩
    refine (g4.wS hn hm).ag hn hm (fun x _ _ => ?_)
    by_cases q : x = 87
    · subst q; rw [upd_n (by omega), upd_n (by omega), upd_n (by omega), upd_n (by omega), upd_k]
    · rw [upd_n (i := 87) q]
  · rw [if_neg (show ¬ nI (b2n true) = 0 by decide), if_pos rfl]
    exact ⟨_, F7.wI (SC_0 _ (by omega)), rfl, g4.wS hn hm⟩
theorem cinR_E {w o : Nat} (b : Bool) (hb : (o = w ∧ hsB m dr ρ w = true) ↔ b = true) : cinR m dr ρ w o = cinE ρ w o b := by
  unfold cinR cinE
  cases b
  · rw [if_neg (fun q => by have := hb.mp q; cases this), if_neg (by decide)]
  · rw [if_pos (hb.mpr rfl), if_pos rfl]
theorem letInIfCan_v (h : CA σ a t n m bo dr lb lf) (hc : CR σ a n m ρ) (hv : RV n m ρ) {w : Nat} (hw : w < n) (h2 : ρ (40 + w) = 2) : ∃ τ, Fs (SC a t) σ τ ∧ fX2_letInIfCan a (nI w) σ = some (nI (b2n (cin n m bo dr lb lf ρ w).1), τ) ∧ CR τ a n m (cin n m bo dr lb lf ρ w).2 := by
  have hn := h.2.2.1.1
  have hm := h.2.2.1.2
  have hl := lefN_lt hw
  have hr := rigN_lt hw
  have own : ∀ b : Bool, ((w = w ∧ hsB m dr ρ w = true) ↔ b = true) → ∃ τ, Fs (SC a t) σ τ ∧ jX2_letInIfCan_34 a (nI w) (nI (b2n b)) σ = some (1, τ) ∧ CR τ a n m (cinR m dr ρ w w) := by
    intro b hb
    unfold jX2_letInIfCan_34
    simp (disch := omega) only [vif, nI_clamp]
    rw [cinR_E b hb]
    exact in119_v hn hm hc hw b
  unfold fX2_letInIfCan cin
  rw [if_pos h2, c_hasSpare h hc hw, Option.bind_some]
  dsimp only
  rw [c_leftOf h hw, Option.bind_some]
  dsimp only
  rw [c_rightOf h hw, Option.bind_some]
  dsimp only
  rw [h.2.1, h.2.2.2.1]
  cases hs : hsB m dr ρ w with
  | true =>
    rw [if_neg (show ¬ nI (b2n true) = 0 by decide)]
    have el : letr n m bo dr lb lf ρ w = some w := by unfold letr; rw [if_pos (Or.inr hs)]
    rw [el]
    exact own true (by simp [hs])
  | false =>
    rw [if_pos (show nI (b2n false) = 0 by decide)]
    by_cases h1 : n = 1
    · rw [if_pos (show nI n = 1 by rw [h1]; rfl)]
      have el : letr n m bo dr lb lf ρ w = some w := by unfold letr; rw [if_pos (Or.inl h1)]
      rw [el]
      exact own false (by simp [hs])
    · rw [if_neg (show ¬ nI n = 1 from ne_nI (b := 1) (by omega) (by omega) h1)]
      have lne : lefN n w ≠ w := by unfold lefN; split <;> omega
      have rne : rigN n w ≠ w := by unfold rigN; split <;> omega
      have ho : ¬ (n = 1 ∨ hsB m dr ρ w = true) := by rw [hs]; rintro (q | q); exact h1 q; cases q
      have right : ∀ υ, Fs (SL t) σ υ → ∃ τ, Fs (SC a t) σ τ ∧ jX2_letInIfCan_71 a (nI w) (nI (b2n false)) (nI (rigN n w)) υ = some (nI (b2n (match (if ¬ ρ (40 + rigN n w) = 1 ∧ bo (rigN n w) = true ∧ letB n lb lf ρ (rigN n w) w = true then some (rigN n w) else none : Option Nat) with | some o => (true, cinR m dr ρ w o) | none => (false, ρ)).1), τ) ∧ CR τ a n m (match (if ¬ ρ (40 + rigN n w) = 1 ∧ bo (rigN n w) = true ∧ letB n lb lf ρ (rigN n w) w = true then some (rigN n w) else none : Option Nat) with | some o => (true, cinR m dr ρ w o) | none => (false, ρ)).2 := by
        intro υ hF
        have hυ := h.sl hF
        have cυ := hc.sl h.1 hF
        have FC : Fs (SC a t) σ υ := hF.mo (fun _ _ => SL_SC)
        unfold jX2_letInIfCan_71
        rw [isOut_v hυ cυ hv hr, Option.bind_some]
        dsimp only
        by_cases q1 : ρ (40 + rigN n w) = 1
        · rw [decide_eq_true q1, if_neg (show ¬ nI (b2n true) = 0 by decide), if_neg (fun q => q.1 q1)]
          exact ⟨υ, FC, rfl, cυ⟩
        · rw [decide_eq_false q1, if_pos (show nI (b2n false) = 0 by decide), hυ.2.1, hυ.2.2.2.2.2.1, fX6_bit_v _ (by omega), Option.bind_some]
          dsimp only
          rw [decide_eq_true hr, Bool.true_and]
          cases q2 : bo (rigN n w)
          · rw [if_neg (show ¬ nI (b2n false) = 1 by decide), if_neg (fun q => by cases q.2.1)]
            exact ⟨υ, FC, rfl, cυ⟩
          · rw [if_pos (show nI (b2n true) = 1 by decide)]
            obtain ⟨ω, g1, g2⟩ := wouldLetIn_v hυ cυ hr hw
            rw [g2, Option.bind_some]
            dsimp only
            have cω := cυ.sl h.1 g1
            have Fω : Fs (SC a t) σ ω := FC.tr (g1.mo (fun _ _ => SL_SC))
            cases q3 : letB n lb lf ρ (rigN n w) w
            · rw [if_pos (show nI (b2n false) = 0 by decide), if_neg (fun q => by cases q.2.2)]
              exact ⟨ω, Fω, rfl, cω⟩
            · rw [if_neg (show ¬ nI (b2n true) = 0 by decide), if_pos (show ¬ ρ (40 + rigN n w) = 1 ∧ true = true ∧ true = true from ⟨q1, rfl, rfl⟩)]
              simp (disch := omega) only [vif, nI_clamp]
              obtain ⟨τ, k1, k2, k3⟩ := in119_v (t := t) hn hm cω (o := rigN n w) hw false
              exact ⟨τ, Fω.tr k1, k2, by rw [cinR_E false (by simp [rne])]; exact k3⟩
      rw [isOut_v h hc hv hl, Option.bind_some]
      dsimp only
      unfold letr
      rw [if_neg ho]
      by_cases q1 : ρ (40 + lefN n w) = 1
      · rw [decide_eq_true q1, if_neg (show ¬ nI (b2n true) = 0 by decide), if_neg (fun q => q.1 q1)]
        exact right σ Fs.rf
      · rw [decide_eq_false q1, if_pos (show nI (b2n false) = 0 by decide)]
        obtain ⟨ω, g1, g2⟩ := wouldLetIn_v h hc hl hw
        rw [g2, Option.bind_some]
        dsimp only
        have cω := hc.sl h.1 g1
        have Fω : Fs (SC a t) σ ω := g1.mo (fun _ _ => SL_SC)
        cases q3 : letB n lb lf ρ (lefN n w) w
        · rw [if_pos (show nI (b2n false) = 0 by decide), if_neg (fun q => by cases q.2)]
          exact right ω g1
        · rw [if_neg (show ¬ nI (b2n true) = 0 by decide), if_pos (show ¬ ρ (40 + lefN n w) = 1 ∧ true = true from ⟨q1, rfl⟩)]
          simp (disch := omega) only [vif, nI_clamp]
          obtain ⟨τ, k1, k2, k3⟩ := in119_v (t := t) hn hm cω (o := lefN n w) hw false
          exact ⟨τ, Fω.tr k1, k2, by rw [cinR_E false (by simp [lne])]; exact k3⟩
end CIN
