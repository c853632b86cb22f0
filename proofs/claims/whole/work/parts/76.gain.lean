section GAIN
variable {M a b t t' ℓ n m L : Nat} {bo : Nat → Bool} {dr : Nat → Int32} {lb : Nat → Br} {lf : Nat → Rp} {sd : Int32} {kw : Nat → Int64} {σ τ υ : Sg} {ρ ρ' : Nat → Int32}
theorem TR.md {st lo : Int32} {S : Nat → Nat → Prop} (h : TR σ t n m bo dr lb lf sd st lo ρ) (hF : Fs S σ τ) (hS : ∀ k j, S k j → 40 ≤ k ∧ k ≤ 48 ∧ ¬ (k = 40 ∧ 6 ≤ j ∧ j ≤ 9)) (hc : CR τ 40 n m ρ') (hv : RV n m ρ') (e : ρ' 85 = ρ 85) : TR τ t n m bo dr lb lf sd st lo ρ' := by
  obtain ⟨h1, h2, h3, h4⟩ := h
  exact ⟨⟨h1.1, by rw [hF.2]; exact h1.2.1, h1.2.2.fs hF (fun x j a1 a2 q => by have := hS _ _ q; have := h1.1; omega)⟩, hc, hv, h4.fs hF (fun j a1 a2 q => by have := hS _ _ q; omega) e⟩
/-- what a trial writes, but for the row that ask fills -/
def SY (t : Nat) : Nat → Nat → Prop := fun k _ => 40 ≤ k ∧ k ≤ 50 ∨ k = t + 10 ∨ k = t + 11
theorem SY_SX (ht : t = 2 ∨ t = 14) {k j : Nat} (h : SY t k j) : SX M k j := by unfold SY at h; unfold SX; omega
theorem c_start' (h : RLp M t t' ℓ n m bo dr lb lf sd kw σ) : ∃ τ, fX6_startTrial 0 σ = some τ ∧ Fc (SY t) 40 σ τ ∧ TR τ t n m bo dr lb lf sd 1 (-1) (nowR M σ) := by
  obtain ⟨τ, h1, h2, h3⟩ := c_start h
  obtain ⟨c1, c2, -⟩ := (h.2.1.now h.n8 h.m6).cp (a := 40) h.n8 h.m6 (by omega)
  have e : τ = wI (cpS 40 31 σ) 40 7 1 := by
    unfold fX6_startTrial at h1
    simp only [Nat.zero_add] at h1
    rw [c1, Option.bind_some] at h1
    injection h1 with h1
    exact h1.symm
  refine ⟨τ, h1, ?_, h3⟩
  rw [e]
  exact (c2.mo (fun k j q => by unfold rgS at q; unfold SY; omega)).wI (by unfold SY; omega)
theorem trialC (h : RLp M t t' ℓ n m bo dr lb lf sd kw σ) {f : Sg → Option Sg} {lo : Int32} (hf : ∀ τ, RLp M t t' ℓ n m bo dr lb lf sd kw τ → TR τ t n m bo dr lb lf sd 1 (-1) (nowR M σ) → ∃ τ2, f τ = some τ2 ∧ Fc (SY t) 40 τ τ2 ∧ TR τ2 t n m bo dr lb lf sd 1 lo ρ') {k : Nat} (hk : k ≤ 72) : ∃ τ τ2 τ3, fX6_startTrial 0 σ = some τ ∧ f τ = some τ2 ∧ fX5_follow 49 40 (nI k) τ2 = some τ3 ∧ Fc (SY t) 40 σ τ3 ∧ Fx M σ τ3 ∧ RLp M t t' ℓ n m bo dr lb lf sd kw τ3 ∧ CW τ3 49 (oH n (hourS n m bo dr lb lf sd 1 lo) ρ') k := by
  have ht := h.t2
  obtain ⟨τ, a1, a2, a3⟩ := c_start' h
  have x1 : RLp M t t' ℓ n m bo dr lb lf sd kw τ := h.fx (a2.mo (fun k j q => SY_SX ht q))
  obtain ⟨τ2, b1, b2, b3⟩ := hf τ x1 a3
  obtain ⟨h1, h2, h3, h4⟩ := b3
  obtain ⟨τ3, f1, f2, f3⟩ := follow_v (w := 49) h1 h2 h3 h4 (by omega) hk
  have hF : Fc (SY t) 40 σ τ3 := (a2.tr b2).tr ((f1.mo (fun k j q => by unfold SF SW SC at q; unfold SY; omega)).fc)
  exact ⟨τ, τ2, τ3, a1, b1, f2, hF, hF.mo (fun k j q => SY_SX ht q), h.fx (hF.mo (fun k j q => SY_SX ht q)), f3⟩
/-- what the model's trial writes, but for the row that ask fills -/
def SZ (M : Nat) : Nat → Nat → Prop := fun k j => SX M k j ∧ M ≤ k ∧ k ≠ M + 37
theorem trialM (h : RLp M t t' ℓ n m bo dr lb lf sd kw σ) {f : Sg → Option Sg} {lo : Int32} (hf : ∀ τ, RLp M t t' ℓ n m bo dr lb lf sd kw τ → τ.1 (M + 31) = nowR M σ → τ.1 M 49 = sd → τ.1 M 50 = 1 → τ.1 M 51 = -1 → ∃ τ2, f τ = some τ2 ∧ Fc (SZ M) 40 τ τ2 ∧ τ2.1 (M + 31) = ρ' ∧ τ2.1 M 49 = sd ∧ τ2.1 M 50 = 1 ∧ τ2.1 M 51 = lo) (hv : RV n m ρ') {k : Nat} (hk : k ≤ 72) : ∃ τ τ2 τ3, fX7_copiesStill M σ = some τ ∧ f τ = some τ2 ∧ fX7_standsFor M (nI k) τ2 = some τ3 ∧ Fc (SZ M) 40 σ τ3 ∧ Fx M σ τ3 ∧ RLp M t t' ℓ n m bo dr lb lf sd kw τ3 ∧ MW τ3 M (oH n (hourS n m bo dr lb lf sd 1 lo) ρ') k := by
  obtain ⟨τ, g1, g2, g3, g4, g5, g6⟩ := copiesStill_v h.ms
  have q1 : Fc (SZ M) 40 σ τ := by
    refine ⟨fun k j hk => ?_, by rw [g1.2], fun _ _ _ => by rw [g1.2], by rw [g1.2]⟩
    by_cases q : k = M + 31 ∧ 88 ≤ j
    · rw [q.1, g3]; unfold nowR; rw [if_neg (by omega)]
    · exact g1.1 k j (fun z => hk (by unfold SZ SX; omega))
  have x1 : RLp M t t' ℓ n m bo dr lb lf sd kw τ := h.fx (q1.mo (fun k j q => q.1))
  obtain ⟨τ2, b1, b2, b3, b4, b5, b6⟩ := hf τ x1 g3 (g4.trans h.1.2.2.2.2.2.2.2.1) g5 g6
  have x2 := x1.fx (b2.mo (fun k j q => q.1))
  obtain ⟨τ3, f1, f2, f3, f4⟩ := standsFor_v x2.ms (by rw [b3]; exact hv) b4 b5 b6 hk
  have tl : ∀ x, 88 ≤ x → ∀ ρ, hourS n m bo dr lb lf sd 1 lo ρ x = ρ x := fun x hx ρ => hourS_t hx h.n8 h.m6
  have q3 : Fc (SZ M) 40 τ2 τ3 := by
    refine ⟨fun k j hk => ?_, by rw [f1.2], fun _ _ _ => by rw [f1.2], by rw [f1.2]⟩
    by_cases q : k = M + 31 ∧ 88 ≤ j
    · rw [q.1, f3, hIt_t (tl j q.2)]
    · exact f1.1 k j (fun z => hk (by simp only [SQ2, SR, SV, SLw] at z; unfold SZ SX; omega))
  rw [b3] at f4
  have hF := (q1.tr b2).tr q3
  exact ⟨τ, τ2, τ3, g2, b1, f2, hF, hF.mo (fun k j q => q.1), h.fx (hF.mo (fun k j q => q.1)), f4⟩
theorem ag_gain (h : RLp M t t' ℓ n m bo dr lb lf sd kw σ) (p1 : Int32) : Ag (fX6_gain 0 p1) (fX7_gain M p1) (RLp M t t' ℓ n m bo dr lb lf sd kw) σ := by
  have hn := h.n8
  have hm := h.m6
  have hM := h.1.1
  have ht := h.t2
  have hl := h.ms.1.1
  show ∃ r σ1 σ2, fX6_gain 0 p1 σ = some (r, σ1) ∧ fX7_gain M p1 σ1 = some (r, σ2) ∧ RLp M t t' ℓ n m bo dr lb lf sd kw σ2
  unfold fX6_gain fX7_gain
  rcases arg p1 (n := m) (by omega) with q | ⟨e, he, rfl⟩
  · exact ⟨-100000, σ, σ, by rw [c_isS0 h q]; rfl, by rw [m_isS0 h.ms.1 q]; rfl, h⟩
  · obtain ⟨b, hb, eb⟩ := h.1.2.2.2.2.2.2.2.2 e he
    have hv : RV n m (upd (nowR M σ) (72 + e) (dr e)) := by rw [eb]; exact h.rvn.u72 hn hm he hb
    obtain ⟨τ, τ', a1, a2, a3, a4, a5⟩ := c_trial h (k := 72) (by omega)
    obtain ⟨υ, υ2, υ3, c1, c2, c3, -, c5, c6, c7⟩ := trialC a4 (f := fun τ => some (wI τ 47 e (dr e))) (lo := -1) (ρ' := upd (nowR M σ) (72 + e) (dr e)) (fun τ hr hT => by
      rw [nowR_fx hM a3] at hT
      exact ⟨_, rfl, Fc.rf.wI (by unfold SY; omega), hT.md (S := fun k _ => k = 47) (Fs.rf.wI rfl) (fun k j q => by omega) (hT.2.1.wB hn hm he) hv (upd_n (by omega))⟩) (k := 72) (by omega)
    obtain ⟨x, x', d1, d2, d3, d4, d5⟩ := m_trial c6 (k := 72) (by omega)
    rw [nowR_fx hM (a3.tr c5)] at d5
    obtain ⟨y, y2, y3, e1, e2, e3, -, e5, e6, e7⟩ := trialM d4 (f := fun τ => some (wI τ (M + 31) (72 + e) (dr e))) (lo := -1) (ρ' := upd (nowR M σ) (72 + e) (dr e)) (fun τ hr r1 r2 r3 r4 => by
      refine ⟨_, rfl, Fc.rf.wI (by unfold SZ SX; omega), ?_, ?_, ?_, ?_⟩
      · rw [wI_k, r1, nowR_fx hM ((a3.tr c5).tr d3)]
      · rw [wI_n (by omega)]; exact r2
      · rw [wI_n (by omega)]; exact r3
      · rw [wI_n (by omega)]; exact r4) hv (k := 72) (by omega)
    have s2 : υ2 = wI υ 47 e (dr e) := by injection c2 with c2; exact c2.symm
    have t2 : y2 = wI y (M + 31) (72 + e) (dr e) := by injection e2 with e2; exact e2.symm
    obtain ⟨υ', u1, u2, u3⟩ := c_start' a4
    have eu : υ' = υ := by rw [c1] at u1; injection u1 with u1; exact u1.symm
    subst eu
    have xu := a4.fx (u2.mo (fun k j q => SY_SX ht q))
    obtain ⟨y', w1, w2, w3, w4, w5, w6, w7⟩ := m_still d4
    have ey : y' = y := by rw [e1] at w2; injection w2 with w2; exact w2.symm
    subst ey
    refine ⟨nI (wAl (oH n (hourS n m bo dr lb lf sd 1 (-1)) (nowR M σ)) 72) - nI (wAl (oH n (hourS n m bo dr lb lf sd 1 (-1)) (upd (nowR M σ) (72 + e) (dr e))) 72), υ3, y3, ?_, ?_, e6⟩
    · rw [c_isS1 h he, Option.bind_some]
      dsimp only
      rw [if_neg one0, a1, Option.bind_some]
      simp only [Nat.zero_add]
      rw [show fX5_follow 49 40 72 τ = some τ' from a2, Option.bind_some]
      rw [c1, Option.bind_some, a5.2.1]
      simp (disch := omega) only [vif, nI_clamp]
      rw [xu.1.2.2.1, xu.ct.2.2.2.2.1 e he]
      rw [s2] at c3
      have c3 : fX5_follow 49 40 72 (wI υ' (40 + 7) e (dr e)) = some υ3 := c3
      rw [c3, Option.bind_some, c7.2.1]
    · rw [m_isS1 c6.ms.1 he, Option.bind_some]
      dsimp only
      rw [if_neg one0, d1, Option.bind_some, show fX7_standsFor M 72 x = some x' from d2, Option.bind_some]
      rw [e1, Option.bind_some, d5.2.1, w7.ms.1.2.1, k6, nI_add, k72]
      simp (disch := omega) only [vif, nI_clamp]
      rw [w7.ms.2.1 e he]
      rw [t2] at e3
      have e3 : fX7_standsFor M 72 (wI y' (M + 31) (72 + e) (dr e)) = some y3 := e3
      rw [e3, Option.bind_some, e7.2.1]
/-- one is sent away -/
def awR (w : Nat) (ρ : Nat → Int32) : Nat → Int32 := upd (upd ρ (40 + w) 1) (48 + w) 0
theorem awR_v (h : RV n m ρ) (hn : n ≤ 8) (hm : m ≤ 6) {w : Nat} (hw : w < n) : RV n m (awR w ρ) := (h.u40 hn hm hw (Or.inr (Or.inl rfl))).u hn hm (by omega)
theorem c_send {st : Int32} (h : TR σ t n m bo dr lb lf sd st (-1) ρ) {w : Nat} (hw : w < n) : ∃ τ, fX2_sendAway 40 (nI w) σ = some τ ∧ Fs (fun k _ => 40 ≤ k ∧ k ≤ 48) σ τ ∧ TR τ t n m bo dr lb lf sd st (nI w) (awR w ρ) := by
  obtain ⟨h1, h2, h3, m1, m2, m3, m4⟩ := h
  have hn := h1.2.2.1.1
  have hm := h1.2.2.1.2
  have hw8 : w < 8 := by omega
  let σ1 := wI σ 40 2 (nI (mk8 (stF n ρ 0)) &&& ((1 : Int32) <<< (nI w &&& 31) ^^^ (-1)))
  let σ2 := wI σ1 40 3 (nI (mk8 (stF n ρ 2)) &&& ((1 : Int32) <<< (nI w &&& 31) ^^^ (-1)))
  let σ3 := wI σ2 40 6 (nI (mk8 (fun i => decide (nI i = nI w))))
  let σ4 := wI σ3 45 w 0
  have hF3 : Fs (fun k j => k = 40 ∧ (j = 2 ∨ j = 3 ∨ j = 6)) σ σ3 := ((Fs.rf.wI (by omega)).wI (by omega)).wI (by omega)
  have hF : Fs (fun k _ => 40 ≤ k ∧ k ≤ 48) σ σ4 := (hF3.mo (fun k j q => by omega)).wI (by omega)
  have e2 : ∀ k : Int32, k ≠ 1 → nI (mk8 (stF n ρ k)) &&& ((1 : Int32) <<< (nI w &&& 31) ^^^ (-1)) = nI (mk8 (stF n (upd ρ (40 + w) 1) k)) := fun k hk => by
    rw [one_b hw8, mk8_diff]
    refine congrArg nI (mk8_c fun j hj => ?_)
    by_cases q : j = w
    · subst q
      rw [stF_t hw, stF_t hw, upd_k, decide_eq_true rfl, decide_eq_false (p := (1 : Int32) = k) (fun z => hk z.symm)]; simp
    · rw [decide_eq_false q]
      unfold stF
      rw [upd_n (by omega)]; simp
  have cr3 : CR σ3 40 n m (upd ρ (40 + w) 1) := by
    refine h2.ms hn hm (fun x hx q _ => upd_n (by omega)) (fun k j q => hF3.1 k j (by omega)) ?_ ?_ ?_ ?_
    · show (wI (wI (wI σ 40 2 _) 40 3 _) 40 6 _).1 40 2 = _
      rw [wI_k, upd_n (by omega), wI_k, upd_n (by omega), wI_k, upd_k, e2 0 (by decide)]
    · show (wI (wI (wI σ 40 2 _) 40 3 _) 40 6 _).1 40 3 = _
      rw [wI_k, upd_n (by omega), wI_k, upd_k, e2 2 (by decide)]
    · rw [hF3.1 _ _ (by omega), h2.1.2.2.2.1]; exact (ktF_c (fun h hh => upd_n (by omega))).symm
    · rw [hF3.1 _ _ (by omega), h2.1.2.2.2.2.1]; exact (ktF_c (fun h hh => upd_n (by omega))).symm
  refine ⟨σ4, ?_, hF, ⟨h1.1, by rw [hF.2]; exact h1.2.1, h1.2.2.fs hF (fun x j a1 a2 q => by have := h1.1; omega)⟩, cr3.wW hn hm hw, awR_v h3 hn hm hw, ?_, ?_, ?_, fun q => ?_⟩
  · unfold fX2_sendAway
    simp (disch := omega) only [vif, nI_clamp]
    have x2 : ∀ v, (wI σ 40 2 v).1 40 3 = nI (mk8 (stF n ρ 2)) := fun v => by rw [wI_k, upd_n (by omega), h2.1.2.2.1]
    have x6 : ∀ v u, (wI (wI σ 40 2 v) 40 3 u).1 40 6 = nI (mk8 (fun i => decide (nI i = (-1 : Int32)))) := fun v u => by rw [wI_k, upd_n (by omega), wI_k, upd_n (by omega), m1]
    rw [h2.1.2.1]
    simp only [x2, x6]
    have e6 : nI (mk8 (fun i => decide (nI i = (-1 : Int32)))) ||| (1 : Int32) <<< (nI w &&& 31) = nI (mk8 (fun i => decide (nI i = nI w))) := by
      rw [mk8_set _ hw8]
      refine congrArg nI (mk8_c fun j hj => ?_)
      unfold fset
      by_cases q : j = w
      · rw [if_pos q, q, decide_eq_true rfl]
      · rw [if_neg q, decide_eq_false (ne_nI (by omega) (by omega) q)]
        refine decide_eq_false ?_
        intro z
        have : (0 : Int32) ≤ nI j := nI_n1 (by omega)
        rw [z] at this
        exact absurd this (by decide)
    rw [e6]
  · show (wI (wI (wI (wI σ 40 2 _) 40 3 _) 40 6 _) 45 w 0).1 40 6 = _
    rw [wI_n (by omega), wI_k, upd_k]
  · show (wI (wI (wI (wI σ 40 2 _) 40 3 _) 40 6 _) 45 w 0).1 40 7 = _
    rw [wI_n (by omega), wI_k, upd_n (by omega), wI_k, upd_n (by omega), wI_k, upd_n (by omega)]; exact m2
  · show (wI (wI (wI (wI σ 40 2 _) 40 3 _) 40 6 _) 45 w 0).1 40 8 = _
    rw [wI_n (by omega), wI_k, upd_n (by omega), wI_k, upd_n (by omega), wI_k, upd_n (by omega)]; exact m3
  · show (wI (wI (wI (wI σ 40 2 _) 40 3 _) 40 6 _) 45 w 0).1 40 9 = awR w ρ 85
    rw [wI_n (by omega), wI_k, upd_n (by omega), wI_k, upd_n (by omega), wI_k, upd_n (by omega)]
    unfold awR
    rw [upd_n (by omega), upd_n (by omega)]
    exact m4 q
/-- who would have stood outside in a day, had one not come -/
def evW (n m : Nat) (bo : Nat → Bool) (dr : Nat → Int32) (lb : Nat → Br) (lf : Nat → Rp) (sd : Int32) (ρ : Nat → Int32) (w : Nat) : Nat → Bool := wEv (oH n (hourS n m bo dr lb lf sd 1 (nI w)) (awR w ρ)) 24
theorem c_without (h : RLp M t t' ℓ n m bo dr lb lf sd kw σ) {w : Nat} (hw : w < n) : ∃ τ τ2 τ3, fX6_startTrial 0 σ = some τ ∧ fX2_sendAway 40 (nI w) τ = some τ2 ∧ fX5_follow 49 40 24 τ2 = some τ3 ∧ Fc (SY t) 40 σ τ3 ∧ Fx M σ τ3 ∧ RLp M t t' ℓ n m bo dr lb lf sd kw τ3 ∧ τ3.1 49 4 = nI (mk8 (evW n m bo dr lb lf sd (nowR M σ) w)) := by
  obtain ⟨τ, τ2, τ3, c1, c2, c3, c4, c5, c6, c7⟩ := trialC h (f := fX2_sendAway 40 (nI w)) (lo := nI w) (ρ' := awR w (nowR M σ)) (fun τ hr hT => by
    obtain ⟨τ2, a1, a2, a3⟩ := c_send hT hw
    exact ⟨τ2, a1, (a2.mo (fun k j q => by unfold SY; omega)).fc, a3⟩) (k := 24) (by omega)
  exact ⟨τ, τ2, τ3, c1, c2, c3, c4, c5, c6, c7.2.2.2.2⟩
theorem m_without (h : RLp M t t' ℓ n m bo dr lb lf sd kw σ) {w : Nat} (hw : w < n) : ∃ τ, fX7_stoodWithout M (nI w) σ = some (nI (mk8 (evW n m bo dr lb lf sd (nowR M σ) w)), τ) ∧ Fc (SZ M) 40 σ τ ∧ Fx M σ τ ∧ RLp M t t' ℓ n m bo dr lb lf sd kw τ := by
  have hn := h.n8
  have hm := h.m6
  obtain ⟨y, y2, y3, e1, e2, e3, e4, e5, e6, e7⟩ := trialM h (f := fun τ => some (wI (wI (wI τ M 51 (nI w)) (M + 31) (40 + w) 1) (M + 31) (48 + w) 0)) (lo := nI w) (ρ' := awR w (nowR M σ)) (fun τ hr r1 r2 r3 r4 => by
    refine ⟨_, rfl, ((Fc.rf.wI (by unfold SZ SX; omega)).wI (by unfold SZ SX; omega)).wI (by unfold SZ SX; omega), ?_, ?_, ?_, ?_⟩
    · rw [wI_k, wI_k, wI_n (by omega), r1]; rfl
    · rw [wI_n (by omega), wI_n (by omega), wI_k, upd_n (by omega)]; exact r2
    · rw [wI_n (by omega), wI_n (by omega), wI_k, upd_n (by omega)]; exact r3
    · rw [wI_n (by omega), wI_n (by omega), wI_k, upd_k]) (awR_v h.rvn hn hm hw) (k := 24) (by omega)
  refine ⟨y3, ?_, e4, e5, e6⟩
  have t2 : y2 = wI (wI (wI y M 51 (nI w)) (M + 31) (40 + w) 1) (M + 31) (48 + w) 0 := by injection e2 with e2; exact e2.symm
  rw [t2] at e3
  have e3 : fX7_standsFor M 24 (wI (wI (wI y M 51 (nI w)) (M + 31) (40 + w) 1) (M + 31) (48 + w) 0) = some y3 := e3
  unfold fX7_stoodWithout
  rw [e1, Option.bind_some, k40, k48]
  simp (disch := omega) only [vif, nI_clamp]
  rw [e3, Option.bind_some, e7.2.2.2.1]
  rfl
theorem ag_shut (h : RLp M t t' ℓ n m bo dr lb lf sd kw σ) (p1 : Int32) : Ag (fX6_shut 0 p1) (fX7_shut M p1) (RLp M t t' ℓ n m bo dr lb lf sd kw) σ := by
  have hn := h.n8
  have hM := h.1.1
  show ∃ r σ1 σ2, fX6_shut 0 p1 σ = some (r, σ1) ∧ fX7_shut M p1 σ1 = some (r, σ2) ∧ RLp M t t' ℓ n m bo dr lb lf sd kw σ2
  unfold fX6_shut fX7_shut
  rcases arg p1 (n := n) (by omega) with q | ⟨w, hw, rfl⟩
  · exact ⟨-1, σ, σ, by rw [c_isH0 h q]; rfl, by rw [m_isH0 h.ms.1 q]; rfl, h⟩
  · obtain ⟨τ, τ', a1, a2, a3, a4, a5⟩ := c_trial h (k := 24) (by omega)
    obtain ⟨υ, υ2, υ3, c1, c2, c3, -, c5, c6, c7⟩ := c_without a4 hw
    obtain ⟨x, x', d1, d2, d3, d4, d5⟩ := m_trial c6 (k := 24) (by omega)
    obtain ⟨y, e1, -, e3, e4⟩ := m_without d4 hw
    rw [nowR_fx hM ((a3.tr c5).tr d3)] at e1
    rw [nowR_fx hM (a3.tr c5)] at d5
    rw [nowR_fx hM a3] at c7
    refine ⟨nI (mk8 (evW n m bo dr lb lf sd (nowR M σ) w)) &&& (nI (mk8 (wEv (oH n (hourS n m bo dr lb lf sd 1 (-1)) (nowR M σ)) 24)) ^^^ (-1)), υ3, y, ?_, ?_, e4⟩
    · rw [c_isH1 h hw, Option.bind_some]
      dsimp only
      rw [if_neg one0, a1, Option.bind_some]
      simp only [Nat.zero_add]
      rw [show fX5_follow 49 40 24 τ = some τ' from a2, Option.bind_some]
      rw [c1, Option.bind_some, c2, Option.bind_some, c3, Option.bind_some, c7, a5.2.2.2.2]
    · rw [m_isH1 c6.ms.1 hw, Option.bind_some]
      dsimp only
      rw [if_neg one0, d1, Option.bind_some, show fX7_standsFor M 24 x = some x' from d2, Option.bind_some]
      rw [e1, Option.bind_some]
      dsimp only
      rw [d5.2.2.2.1]
end GAIN
