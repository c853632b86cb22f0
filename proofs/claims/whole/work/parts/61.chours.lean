section CHOURS
variable {a t n m : Nat} {σ τ : Sg} {ρ ρ' : Nat → Int32} {bo : Nat → Bool} {dr : Nat → Int32} {lb : Nat → Br} {lf : Nat → Rp}
/-- the same with quarrels -/
def SW (a t : Nat) : Nat → Nat → Prop := fun k j => SC a t k j ∨ k = a ∧ j = 9
theorem SC_SW {k j : Nat} (h : SC a t k j) : SW a t k j := Or.inl h
theorem CA.sw (h : CA σ a t n m bo dr lb lf) (hF : Fs (SW a t) σ τ) : CA τ a t n m bo dr lb lf := ⟨h.1, by rw [hF.2]; exact h.2.1, h.2.2.fs hF (fun x j a1 a2 q => by have := h.1; unfold SW SC at q; omega)⟩
theorem waS_o {w x : Nat} (h1 : x ≠ 48 + w) (h2 : x ≠ 85) : waS n lb lf w ρ x = ρ x := by
  unfold waS
  split
  · dsimp only; rw [upd_n h2, upd_n h1]
  · rfl
theorem c_quarrelOf (h : CA σ a t n m bo dr lb lf) (hc : CR σ a n m ρ) {w : Nat} (hw : w < n) : ∃ τ, Fs (SL t) σ τ ∧ fX2_quarrelOf a (nI w) σ = some (quaV n lb lf ρ w, τ) := by
  have hn := h.2.2.1.1
  obtain ⟨τ, υ, g1, g2, g3, g4, g5⟩ := setLaw_v h hc (k := 1) (by decide) (ρ (48 + w)) (ρ (16 + w)) 0 (nI w) 0
  refine ⟨υ, g2, ?_⟩
  unfold fX2_quarrelOf
  simp (disch := omega) only [vif, nI_clamp]
  rw [(hc.2.1 w hw).2.2.1, (hc.2.1 w hw).2.2.2.2.1, g3, Option.bind_some, g4]
  have g5 : fX0_valueOf (t + 7) 1 τ = _ := g5
  rw [g5, Option.bind_some, i_clamp 0 99 _ (by decide)]
  rfl
theorem kyN_c {w : Int32} : ∀ e, (∀ i, i < e → ρ' (72 + i) = ρ (72 + i)) → kyN ρ' w e = kyN ρ w e
  | 0, _ => rfl
  | e + 1, h => by
    unfold kyN
    rw [h e (by omega), kyN_c e (fun i hi => h i (by omega))]
theorem qsum {q v : Int32} (h1 : 0 ≤ q) (h2 : q ≤ 99999) (h3 : 0 ≤ v) (h4 : v ≤ 99) : imin 99999 (q + v) = clamp 0 99999 (q + v) := by
  unfold imin clamp
  have e : (q + v).toInt = q.toInt + v.toInt := by
    rw [Int32.toInt_add]
    simp only [Int32.le_iff_toInt_le] at *
    have a0 : (0 : Int32).toInt = 0 := rfl
    have a1 : (99999 : Int32).toInt = 99999 := by decide
    have a2 : (99 : Int32).toInt = 99 := by decide
    exact Int.bmod_eq_of_le (by omega) (by omega)
  simp only [Int32.lt_iff_toInt_lt, Int32.le_iff_toInt_le, e] at h1 h2 h3 h4 ⊢
  have a0 : (0 : Int32).toInt = 0 := rfl
  have a1 : (99999 : Int32).toInt = 99999 := by decide
  have a2 : (99 : Int32).toInt = 99 := by decide
  rw [if_neg (show ¬ q.toInt + v.toInt < (0 : Int32).toInt by omega)]
  by_cases z : q.toInt + v.toInt < (99999 : Int32).toInt
  · rw [if_pos z, if_neg (by omega)]
  · rw [if_neg z]
    by_cases y : (99999 : Int32).toInt < q.toInt + v.toInt
    · rw [if_pos y]
    · rw [if_neg y]
      exact Int32.toInt_inj.mp (by rw [e]; omega)
theorem letPeopleWait_v (h : CA σ a t n m bo dr lb lf) (hc : CR σ a n m ρ) (hv : RV n m ρ) (h9 : σ.1 a 7 = 0 → σ.1 a 9 = ρ 85) : ∃ τ, Fs (SW a t) σ τ ∧ fX2_letPeopleWait a σ = some τ ∧ CR τ a n m (foldU (waS n lb lf) n ρ) ∧ (σ.1 a 7 = 0 → τ.1 a 9 = foldU (waS n lb lf) n ρ 85) := by
  have hn := h.2.2.1.1
  have hm := h.2.2.1.2
  by_cases q0 : nI (mk8 (stF n ρ 2)) = 0
  · have nob : ∀ j, j < n → ¬ ρ (40 + j) = 2 := fun j hj z => by
      have := (mk8_z _).mp q0 j (by omega)
      rw [stF_t (by omega)] at this
      exact absurd z (by simpa using this)
    have fid : ∀ i, i ≤ n → foldU (waS n lb lf) i ρ = ρ := by
      intro i
      induction i with
      | zero => intro _; rfl
      | succ i ih =>
        intro hi
        show waS n lb lf i (foldU (waS n lb lf) i ρ) = ρ
        rw [ih (by omega)]
        unfold waS
        rw [if_neg (nob i (by omega))]
    rw [fid n (Nat.le_refl _)]
    refine ⟨σ, Fs.rf, ?_, hc, h9⟩
    unfold fX2_letPeopleWait
    rw [lp_r (b := σ) (by
      show bX2_letPeopleWait_2 a 0 σ = _
      unfold bX2_letPeopleWait_2
      rw [hc.1.2.2.1, if_pos q0]
      split <;> rfl)]
    rfl
  · have out40 : ∀ i x, 40 ≤ x → x < 48 → foldU (waS n lb lf) i ρ x = ρ x := fun i x h1 h2 => foldU_out (fun j ρ hj => waS_o (by omega) (by omega))
    have ko : ∀ υ, Fs (SW a t) σ υ → ∀ j, 6 ≤ j → j ≤ 8 → υ.1 a j = σ.1 a j := fun υ q j h1 h2 => q.1 _ _ (fun z => by have := h.1; unfold SW SC at z; omega)
    obtain ⟨τ, h1, h2, h3, h4⟩ := lp_inv (f := fun st : Int32 × Sg => bX2_letPeopleWait_2 a st.1 st.2) n (fun i τ => Fs (SW a t) σ τ ∧ CR τ a n m (foldU (waS n lb lf) i ρ) ∧ (σ.1 a 7 = 0 → τ.1 a 9 = foldU (waS n lb lf) i ρ 85)) (fun i τ hi hI => by
      obtain ⟨hF, hc', h9'⟩ := hI
      have hτ := h.sw hF
      have hv' := rv_fold (rv_waS (lb := lb) (lf := lf) hn hm) hv i (by omega)
      have e3 : τ.1 a 3 = nI (mk8 (stF n ρ 2)) := by rw [hc'.1.2.2.1]; exact congrArg nI (mk8_c fun j hj => by unfold stF; rw [out40 _ _ (by omega) (by omega)])
      have e40 : foldU (waS n lb lf) i ρ (40 + i) = ρ (40 + i) := out40 _ _ (by omega) (by omega)
      show ∃ τ', bX2_letPeopleWait_2 a (nI i) τ = _ ∧ Fs (SW a t) σ τ' ∧ CR τ' a n m (waS n lb lf i (foldU (waS n lb lf) i ρ)) ∧ (σ.1 a 7 = 0 → τ'.1 a 9 = waS n lb lf i (foldU (waS n lb lf) i ρ) 85)
      generalize foldU (waS n lb lf) i ρ = R at *
      unfold bX2_letPeopleWait_2 jX2_letPeopleWait_68 waS
      rw [hτ.2.1, hτ.2.2.2.1, if_neg (le_nI (by omega) (by omega) hi), e3, if_neg q0, fX6_bit_v _ (by omega), Option.bind_some, stF_t hi]
      simp (disch := omega) only [vif, nI_clamp]
      rw [nI_s, e40, (hc'.2.1 i hi).2.2.2.2.1]
      by_cases q : ρ (40 + i) = 2
      · rw [decide_eq_true q, if_pos (show nI (b2n true) = 1 by decide), if_pos q]
        have F1 := hF.wI (k := a + 5) (i := i) (v := R (48 + i) + 1) (SC_SW (SC_a _ (by omega)))
        have c1 := hc'.wW hn hm hi (v := R (48 + i) + 1)
        have e7 : (wI τ (a + 5) i (R (48 + i) + 1)).1 a 7 = σ.1 a 7 := ko _ F1 7 (by omega) (by omega)
        have e9 : (wI τ (a + 5) i (R (48 + i) + 1)).1 a 9 = τ.1 a 9 := by rw [wI_a, if_neg (by omega)]
        rw [e7, e9]
        by_cases q7 : σ.1 a 7 = 0
        · rw [if_pos q7]
          obtain ⟨υ, g1, g2⟩ := c_quarrelOf (h.sw F1) c1 hi
          rw [g2, Option.bind_some]
          dsimp only
          have qv : 0 ≤ quaV n lb lf (upd R (48 + i) (R (48 + i) + 1)) i ∧ quaV n lb lf (upd R (48 + i) (R (48 + i) + 1)) i ≤ 99 := clamp_in _ _ _ (by decide)
          rw [h9' q7, qsum hv'.2.2.2.1 hv'.2.2.2.2.1 qv.1 qv.2]
          refine ⟨_, rfl, (F1.tr (g1.mo (fun _ _ q => SC_SW (SL_SC q)))).wI (Or.inr ⟨rfl, rfl⟩), ?_, fun _ => ?_⟩
          · exact ((c1.sl h.1 g1).wq (by omega)).ag hn hm (fun x _ hx => upd_n hx)
          · rw [wI_k, upd_k, upd_k]
        · rw [if_neg q7]
          refine ⟨_, rfl, F1, ?_, fun z => absurd z q7⟩
          exact c1.ag hn hm (fun x _ hx => upd_n hx)
      · rw [decide_eq_false q, if_neg (show ¬ nI (b2n false) = 1 by decide), if_neg q]
        exact ⟨τ, rfl, hF, hc', h9'⟩) (fun τ hI => by
      have hτ := h.sw hI.1
      show bX2_letPeopleWait_2 a (nI n) τ = _
      unfold bX2_letPeopleWait_2
      rw [hτ.2.1, hτ.2.2.2.1, if_pos (Int32.le_refl _)]) ⟨Fs.rf, hc, h9⟩
    have h1 : lp (fun st : Int32 × Sg => bX2_letPeopleWait_2 a st.1 st.2) (0, σ) = some τ := h1
    exact ⟨τ, h2, by unfold fX2_letPeopleWait; rw [h1]; rfl, h3, h4⟩
/-- what a ring has beside the row: nobody or one gone, punctual, the seed, the quarrels where they count -/
def CM (σ : Sg) (a : Nat) (sd still lost : Int32) (ρ : Nat → Int32) : Prop := σ.1 a 6 = nI (mk8 (fun i => decide (nI i = lost))) ∧ σ.1 a 7 = still ∧ σ.1 a 8 = sd ∧ (still = 0 → σ.1 a 9 = ρ 85)
theorem goS_o85 {hr : Int32} {i : Nat} {x : Nat} (hx : 84 ≤ x) (hi : i < 8) : goS hr i ρ x = ρ x := by
  unfold goS
  split
  · rw [upd_n (by omega), upd_n (by omega)]
  · rfl
theorem cin_o {w x : Nat} (h : w < 8) (hx : x = 84 ∨ x = 85) : (cin n m bo dr lb lf ρ w).2 x = ρ x := by
  unfold cin
  split
  · split
    · show cinR m dr ρ w _ x = ρ x
      unfold cinR
      split
      · rw [upd_n (by omega), upd_n (by omega), upd_n (by omega), upd_n (by omega), upd_n (by omega)]
      · rw [upd_n (by omega), upd_n (by omega), upd_n (by omega), upd_n (by omega)]
    · rfl
  · rfl
theorem lin1_o {x : Nat} (hx : x = 84 ∨ x = 85) (hn : n ≤ 8) : ∀ (d i : Nat) (fl : Bool) (ρ : Nat → Int32), i + d ≤ n → (lin1 n m bo dr lb lf d i fl ρ).2 x = ρ x := by
  intro d
  induction d with
  | zero => intro i fl ρ _; rfl
  | succ d ih =>
    intro i fl ρ hi
    unfold lin1
    rw [ih (i + 1) _ _ (by omega), cin_o (by omega) hx]
theorem linR_o {x : Nat} (hx : x = 84 ∨ x = 85) (hn : n ≤ 8) : ∀ (k : Nat) (ρ : Nat → Int32), linR n m bo dr lb lf k ρ x = ρ x := by
  intro k
  induction k with
  | zero => intro ρ; rfl
  | succ k ih =>
    intro ρ
    unfold linR
    have := lin1_o (m := m) (bo := bo) (dr := dr) (lb := lb) (lf := lf) hx hn n 0 false ρ (by omega)
    split
    · rw [ih, this]
    · exact this
theorem spS_o {e x : Nat} (hx : 78 ≤ x) (he : e < 6) : spS n e ρ x = ρ x := by
  unfold spS
  split
  · rfl
  · rw [upd_n (by omega)]
theorem goThroughHour_v (h : CA σ a t n m bo dr lb lf) (hc : CR σ a n m ρ) (hv : RV n m ρ) {sd still lost : Int32} (hM : CM σ a sd still lost ρ) : ∃ τ, Fs (SW a t) σ τ ∧ fX2_goThroughHour a σ = some τ ∧ CR τ a n m (hourS n m bo dr lb lf sd still lost ρ) ∧ CM τ a sd still lost (hourS n m bo dr lb lf sd still lost ρ) := by
  have hn := h.2.2.1.1
  have hm := h.2.2.1.2
  have ko : ∀ υ, Fs (SC a t) σ υ → ∀ j, 6 ≤ j → j ≤ 9 → υ.1 a j = σ.1 a j := fun υ q j h1 h2 => q.1 _ _ (fun z => by have := h.1; unfold SC at z; omega)
  have rest : ∀ υ ρ0, Fs (SC a t) σ υ → CR υ a n m ρ0 → RV n m ρ0 → ρ0 84 = ρ 84 → ρ0 85 = ρ 85 → ∃ τ, Fs (SW a t) σ τ ∧ jX2_goThroughHour_14 a υ = some τ ∧ CR τ a n m (let hr := irem (ρ 84) 24; let ρ1 := foldU (goS hr) n ρ0; let ρ2 := foldU (coS n lb lf hr sd still lost (goC hr ρ0)) n ρ1; let ρ3 := linR n m bo dr lb lf 9 ρ2; let ρ4 := foldU (waS n lb lf) n ρ3; upd ρ4 84 (ρ4 84 + 1)) ∧ (still = 0 → τ.1 a 9 = (let hr := irem (ρ 84) 24; let ρ1 := foldU (goS hr) n ρ0; let ρ2 := foldU (coS n lb lf hr sd still lost (goC hr ρ0)) n ρ1; let ρ3 := linR n m bo dr lb lf 9 ρ2; let ρ4 := foldU (waS n lb lf) n ρ3; upd ρ4 84 (ρ4 84 + 1)) 85) := by
    intro υ ρ0 hF c0 v0 e84 e85
    obtain ⟨τ1, a1, a2, a3⟩ := letPeopleGo_v (h.fs hF) c0 v0
    have F1 := hF.tr a1
    rw [e84] at a2 a3
    have v1 := rv_fold (rv_goS (irem (ρ 84) 24) hn hm) v0 n (Nat.le_refl _)
    have e1 : foldU (goS (irem (ρ 84) 24)) n ρ0 84 = ρ 84 := by rw [foldU_out (fun j ρ hj => goS_o85 (by omega) (by omega)), e84]
    have e1' : foldU (goS (irem (ρ 84) 24)) n ρ0 85 = ρ 85 := by rw [foldU_out (fun j ρ hj => goS_o85 (by omega) (by omega)), e85]
    obtain ⟨τ2, b1, b2, b3⟩ := letPeopleCome_v (h.fs F1) a3 v1 (wf := goC (irem (ρ 84) 24) ρ0) (sd := sd) (still := still) (lost := lost) (by rw [ko _ F1 6 (by omega) (by omega)]; exact hM.1) (by rw [ko _ F1 7 (by omega) (by omega)]; exact hM.2.1) (by rw [ko _ F1 8 (by omega) (by omega)]; exact hM.2.2.1)
    rw [e1] at b3
    have F2 := F1.tr b1
    have v2 := rv_fold (rv_coS (lb := lb) (lf := lf) (irem (ρ 84) 24) sd still lost (goC (irem (ρ 84) 24) ρ0) hn hm) v1 n (Nat.le_refl _)
    have e2' : foldU (coS n lb lf (irem (ρ 84) 24) sd still lost (goC (irem (ρ 84) 24) ρ0)) n (foldU (goS (irem (ρ 84) 24)) n ρ0) 85 = ρ 85 := by rw [foldU_out (fun j ρ hj => coS_o (by omega) (by omega)), e1']
    obtain ⟨τ3, d1, d2, d3⟩ := letPeopleIn_v (h.fs F2) b3 v2
    have F3 := F2.tr d1
    have v3 := rv_linR (bo := bo) (dr := dr) (lb := lb) (lf := lf) hn hm 9 _ v2
    obtain ⟨τ4, k1, k2, k3, k4⟩ := letPeopleWait_v (h.fs F3) d3 v3 (fun z => by
      rw [ko _ F3 9 (by omega) (by omega), linR_o (Or.inr rfl) hn, e2']
      exact hM.2.2.2 (by rw [← hM.2.1, ← ko _ F3 7 (by omega) (by omega)]; exact z))
    have F4 := (F3.mo (fun _ _ => SC_SW)).tr k1
    refine ⟨_, F4.wI (k := a) (i := 1) (v := τ4.1 a 1 + 1) (SC_SW (SC_0 _ (by omega))), ?_, ?_, fun z => ?_⟩
    · unfold jX2_goThroughHour_14
      rw [a2, Option.bind_some]
      dsimp only
      have b2 : fX2_letPeopleCome a (nI (mk8 (wentF n (irem (ρ 84) 24) ρ0))) τ1 = some τ2 := b2
      rw [b2, Option.bind_some, d2, Option.bind_some, k2, Option.bind_some]
    · rw [k3.1.1]
      exact k3.wH hn hm
    · dsimp only
      rw [wI_a, if_neg (by omega), upd_n (by omega)]
      exact k4 (by rw [ko _ F3 7 (by omega) (by omega), hM.2.1]; exact z)
  have fin : ∀ τ ρ', Fs (SW a t) σ τ → (still = 0 → τ.1 a 9 = ρ' 85) → CM τ a sd still lost ρ' := fun τ ρ' hF h9 => by
    have kw : ∀ j, 6 ≤ j → j ≤ 8 → τ.1 a j = σ.1 a j := fun j h1 h2 => hF.1 _ _ (fun z => by have := h.1; unfold SW SC at z; omega)
    exact ⟨by rw [kw 6 (by omega) (by omega)]; exact hM.1, by rw [kw 7 (by omega) (by omega)]; exact hM.2.1, by rw [kw 8 (by omega) (by omega)]; exact hM.2.2.1, h9⟩
  unfold fX2_goThroughHour hourS
  dsimp only
  rw [hc.1.1]
  by_cases q : irem (ρ 84) 24 = 0
  · rw [if_pos q, if_pos q]
    obtain ⟨υ, a1, a2, a3⟩ := passSparesOn_v h hc hv
    rw [a2, Option.bind_some]
    obtain ⟨τ, b1, b2, b3, b4⟩ := rest υ _ a1 a3 (rv_fold (rv_spS hn hm) hv m (Nat.le_refl _)) (foldU_out (fun j ρ hj => spS_o (by omega) (by omega))) (foldU_out (fun j ρ hj => spS_o (by omega) (by omega)))
    exact ⟨τ, b1, b2, b3, fin _ _ b1 b4⟩
  · rw [if_neg q, if_neg q]
    obtain ⟨τ, b1, b2, b3, b4⟩ := rest σ ρ Fs.rf hc hv rfl rfl
    exact ⟨τ, b1, b2, b3, fin _ _ b1 b4⟩
end CHOURS
