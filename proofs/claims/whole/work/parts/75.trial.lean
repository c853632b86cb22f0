section TRIAL
variable {M a b t t' ℓ n m L : Nat} {bo : Nat → Bool} {dr : Nat → Int32} {lb : Nat → Br} {lf : Nat → Rp} {sd : Int32} {kw : Nat → Int64} {σ τ υ : Sg} {ρ ρ' : Nat → Int32}
/-- the trial at 40 stands for a row, as told -/
def TR (σ : Sg) (t n m : Nat) (bo : Nat → Bool) (dr : Nat → Int32) (lb : Nat → Br) (lf : Nat → Rp) (sd st lo : Int32) (ρ : Nat → Int32) : Prop := CA σ 40 t n m bo dr lb lf ∧ CR σ 40 n m ρ ∧ RV n m ρ ∧ CM σ 40 sd st lo ρ
theorem RLp.t2 (h : RLp M t t' ℓ n m bo dr lb lf sd kw σ) : t = 2 ∨ t = 14 := by rcases h.1.2.1 with q | q <;> omega
theorem c_copy (h : RLp M t t' ℓ n m bo dr lb lf sd kw σ) : fX2_copyFrom 40 31 σ = some (cpS 40 31 σ) ∧ Fx M σ (cpS 40 31 σ) ∧ TR (cpS 40 31 σ) t n m bo dr lb lf sd 0 (-1) (nowR M σ) := by
  have ht := h.t2
  obtain ⟨c1, c2, c3⟩ := (h.2.1.now h.n8 h.m6).cp (a := 40) h.n8 h.m6 (by omega)
  have hF : Fx M σ (cpS 40 31 σ) := c2.mo (fun k j q => by unfold rgS at q; unfold SX; omega)
  exact ⟨c1, hF, ⟨by omega, c3.1, (h.fx hF).ct⟩, c3.2.1, c3.2.2.1, c3.2.2.2⟩
theorem c_start (h : RLp M t t' ℓ n m bo dr lb lf sd kw σ) : ∃ τ, fX6_startTrial 0 σ = some τ ∧ Fx M σ τ ∧ TR τ t n m bo dr lb lf sd 1 (-1) (nowR M σ) := by
  obtain ⟨c1, c2, c3, c4, c5, c6, c7, c8, c9⟩ := c_copy h
  refine ⟨wI (cpS 40 31 σ) 40 7 1, ?_, c2.wI (by unfold SX; omega), ⟨c3.1, c3.2.1, c3.2.2.fs (Fs.rf.wI (S := fun k _ => k = 40) rfl) (fun x j a1 a2 => by have := c3.1; omega)⟩, c4.wq (by omega), c5, ?_, ?_, ?_, fun q => absurd q one0⟩
  · unfold fX6_startTrial
    simp only [Nat.zero_add]
    rw [c1]; rfl
  · rw [wI_k, upd_n (by omega)]; exact c6
  · rw [wI_k, upd_k]
  · rw [wI_k, upd_n (by omega)]; exact c8
theorem c_fol (h : RLp M t t' ℓ n m bo dr lb lf sd kw σ) {st lo : Int32} (hT : TR σ t n m bo dr lb lf sd st lo ρ) {k : Nat} (hk : k ≤ 72) : ∃ τ, fX5_follow 49 40 (nI k) σ = some τ ∧ Fx M σ τ ∧ CW τ 49 (oH n (hourS n m bo dr lb lf sd st lo) ρ) k := by
  have ht := h.t2
  obtain ⟨h1, h2, h3, h4⟩ := hT
  obtain ⟨τ, f1, f2, f3⟩ := follow_v (w := 49) h1 h2 h3 h4 (by omega) hk
  exact ⟨τ, f2, f1.fy (fun k j q => by unfold SF SW SC at q; omega), f3⟩
theorem m_stf (h : RLp M t t' ℓ n m bo dr lb lf sd kw σ) {st lo : Int32} (hv : RV n m (σ.1 (M + 31))) (h9 : σ.1 M 49 = sd) (h10 : σ.1 M 50 = st) (h11 : σ.1 M 51 = lo) {k : Nat} (hk : k ≤ 72) : ∃ τ, fX7_standsFor M (nI k) σ = some τ ∧ Fx M σ τ ∧ MW τ M (oH n (hourS n m bo dr lb lf sd st lo) (σ.1 (M + 31))) k := by
  obtain ⟨τ, f1, f2, f3, f4⟩ := standsFor_v h.ms hv h9 h10 h11 hk
  have tl : ∀ x, 88 ≤ x → ∀ ρ, hourS n m bo dr lb lf sd st lo ρ x = ρ x := fun x hx ρ => hourS_t hx h.n8 h.m6
  exact ⟨τ, f2, f1.fx (fun _ _ => SQ2_SQ) (fun x hx => by rw [f3, hIt_t (tl x hx)]), f4⟩
/-- a trial of now, as it is -/
theorem c_trial (h : RLp M t t' ℓ n m bo dr lb lf sd kw σ) {k : Nat} (hk : k ≤ 72) : ∃ τ τ', fX6_startTrial 0 σ = some τ ∧ fX5_follow 49 40 (nI k) τ = some τ' ∧ Fx M σ τ' ∧ RLp M t t' ℓ n m bo dr lb lf sd kw τ' ∧ CW τ' 49 (oH n (hourS n m bo dr lb lf sd 1 (-1)) (nowR M σ)) k := by
  obtain ⟨τ, a1, a2, a3⟩ := c_start h
  obtain ⟨τ', b1, b2, b3⟩ := c_fol (h.fx a2) a3 hk
  exact ⟨τ, τ', a1, b1, a2.tr b2, h.fx (a2.tr b2), b3⟩
theorem m_trial (h : RLp M t t' ℓ n m bo dr lb lf sd kw σ) {k : Nat} (hk : k ≤ 72) : ∃ τ τ', fX7_copiesStill M σ = some τ ∧ fX7_standsFor M (nI k) τ = some τ' ∧ Fx M σ τ' ∧ RLp M t t' ℓ n m bo dr lb lf sd kw τ' ∧ MW τ' M (oH n (hourS n m bo dr lb lf sd 1 (-1)) (nowR M σ)) k := by
  obtain ⟨τ, a1, a2, a3, a4, a5, a6, a7⟩ := m_still h
  obtain ⟨τ', b1, b2, b3⟩ := m_stf a7 (st := 1) (lo := -1) (by rw [a3]; exact h.rvn) a4 a5 a6 hk
  rw [a3] at b3
  exact ⟨τ, τ', a2, b1, a1.tr b2, a7.fx b2, b3⟩
/-- an argument of hours to look at -/
theorem span (p : Int32) : (∀ σ : Sg, fX6_isSpan p σ = some (0, σ) ∧ fX7_isSome p σ = some (0, σ)) ∨ ∃ k, (1 ≤ k ∧ k ≤ 72) ∧ p = nI k ∧ ∀ σ : Sg, fX6_isSpan p σ = some (1, σ) ∧ fX7_isSome p σ = some (1, σ) := by
  unfold fX6_isSpan fX7_isSome
  by_cases q1 : p < 1
  · left; intro σ; rw [if_pos q1, in_0 (Or.inl q1)]; exact ⟨rfl, rfl⟩
  · by_cases q2 : 72 < p
    · left; intro σ; rw [if_neg q1, if_pos q2, in_0 (Or.inr q2)]; exact ⟨rfl, rfl⟩
    · right
      rcases pk_ix p (n := 73) (by omega) with q | q | ⟨k, hk, rfl⟩
      · exact absurd (Int32.lt_of_lt_of_le q (show (0 : Int32) ≤ 1 by decide)) q1
      · exact absurd (Int32.lt_of_lt_of_le (show (72 : Int32) < nI 73 by decide) q) q2
      · refine ⟨k, ⟨?_, by omega⟩, rfl, fun σ => ?_⟩
        · rcases Nat.eq_zero_or_pos k with z | z
          · subst z; exact absurd (by decide) q1
          · exact z
        · rw [if_neg q1, if_neg q2, in_1 (Int32.not_lt.mp q1) (Int32.not_lt.mp q2)]; exact ⟨rfl, rfl⟩
theorem ag_firstStand (h : RLp M t t' ℓ n m bo dr lb lf sd kw σ) (p : Int32) : Ag (fX6_firstStand 0 p) (fX7_firstStand M p) (RLp M t t' ℓ n m bo dr lb lf sd kw) σ := by
  have ht := h.t2
  show ∃ r σ1 σ2, fX6_firstStand 0 p σ = some (r, σ1) ∧ fX7_firstStand M p σ1 = some (r, σ2) ∧ RLp M t t' ℓ n m bo dr lb lf sd kw σ2
  unfold fX6_firstStand fX7_firstStand
  rcases span p with q | ⟨k, hk, rfl, q⟩
  · exact ⟨-1, σ, σ, by rw [(q σ).1]; rfl, by rw [(q σ).2]; rfl, h⟩
  · obtain ⟨τ, a1, a2, a3⟩ := c_start h
    obtain ⟨τ', b1, b2⟩ := firstHour_v (w := 49) a3.1 a3.2.1 a3.2.2.1 a3.2.2.2 hk.2
    have hF : Fx M σ τ' := a2.tr (b1.fy (fun k j q => by unfold SW SC at q; omega))
    obtain ⟨υ, υ', d1, d2, d3, d4, d5⟩ := m_trial (h.fx hF) hk.2
    rw [nowR_fx h.1.1 hF] at d5
    refine ⟨fsI (wFs (oH n (hourS n m bo dr lb lf sd 1 (-1)) (nowR M σ)) k), τ', υ', ?_, ?_, d4⟩
    · rw [(q σ).1, Option.bind_some]
      dsimp only
      rw [if_neg one0, a1, Option.bind_some]
      simp only [Nat.zero_add]
      rw [b2]; rfl
    · rw [(q τ').2, Option.bind_some]
      dsimp only
      rw [if_neg one0, d1, Option.bind_some, d2, Option.bind_some, d5.2.2.1]
theorem ag_stand (h : RLp M t t' ℓ n m bo dr lb lf sd kw σ) (p1 p2 : Int32) : Ag (fX6_stand 0 p1 p2) (fX7_stand M p1 p2) (RLp M t t' ℓ n m bo dr lb lf sd kw) σ := by
  have hn := h.n8
  show ∃ r σ1 σ2, fX6_stand 0 p1 p2 σ = some (r, σ1) ∧ fX7_stand M p1 p2 σ1 = some (r, σ2) ∧ RLp M t t' ℓ n m bo dr lb lf sd kw σ2
  rcases span p2 with q | ⟨k, hk, rfl, q⟩
  · refine ⟨-1, σ, σ, by unfold fX6_stand; rw [(q σ).1]; rfl, ?_, h⟩
    unfold fX7_stand jX7_stand_13
    by_cases q1 : p1 = -1
    · rw [if_pos q1, (q σ).2]; rfl
    · rw [if_neg q1]
      rcases arg p1 (n := n) (by omega) with z | ⟨w, hw, rfl⟩
      · rw [m_isH0 h.ms.1 z]; rfl
      · rw [m_isH1 h.ms.1 hw, Option.bind_some]
        dsimp only
        rw [if_neg one0, (q σ).2]; rfl
  · obtain ⟨τ, τ', a1, a2, a3, a4, a5⟩ := c_trial h hk.2
    obtain ⟨υ, υ', d1, d2, d3, d4, d5⟩ := m_trial a4 hk.2
    rw [nowR_fx h.1.1 a3] at d5
    by_cases q1 : p1 = -1
    · refine ⟨nI (wAl (oH n (hourS n m bo dr lb lf sd 1 (-1)) (nowR M σ)) k), τ', υ', ?_, ?_, d4⟩
      · unfold fX6_stand jX6_stand_22
        rw [(q σ).1, Option.bind_some]
        dsimp only
        rw [if_neg one0, if_pos q1, a1, Option.bind_some]
        simp only [Nat.zero_add]
        rw [a2, Option.bind_some, if_pos q1, a5.2.1]
      · unfold fX7_stand jX7_stand_13
        rw [if_pos q1, (q τ').2, Option.bind_some]
        dsimp only
        rw [if_neg one0, d1, Option.bind_some, d2, Option.bind_some, if_pos q1, d5.2.1]
    · rcases arg p1 (n := n) (by omega) with z | ⟨w, hw, rfl⟩
      · refine ⟨-1, σ, σ, ?_, ?_, h⟩
        · unfold fX6_stand
          rw [(q σ).1, Option.bind_some]
          dsimp only
          rw [if_neg one0, if_neg q1, c_isH0 h z]; rfl
        · unfold fX7_stand
          rw [if_neg q1, m_isH0 h.ms.1 z]; rfl
      · refine ⟨nI (wEa (oH n (hourS n m bo dr lb lf sd 1 (-1)) (nowR M σ)) k w), τ', υ', ?_, ?_, d4⟩
        · unfold fX6_stand jX6_stand_22
          rw [(q σ).1, Option.bind_some]
          dsimp only
          rw [if_neg one0, if_neg q1, c_isH1 h hw, Option.bind_some]
          dsimp only
          rw [if_neg one0, a1, Option.bind_some]
          simp (disch := omega) only [vif, nI_clamp, Nat.zero_add]
          rw [a2, Option.bind_some, if_neg q1, show 49 + 1 = 50 from rfl, a5.1 w (by omega)]
        · unfold fX7_stand jX7_stand_13
          rw [if_neg q1, m_isH1 a4.ms.1 hw, Option.bind_some]
          dsimp only
          rw [if_neg one0, (q τ').2, Option.bind_some]
          dsimp only
          rw [if_neg one0, d1, Option.bind_some, d2, Option.bind_some, if_neg q1]
          simp (disch := omega) only [vif, nI_clamp]
          rw [d5.1 w (by omega)]
theorem ag_peak (h : RLp M t t' ℓ n m bo dr lb lf sd kw σ) (p1 p2 : Int32) : Ag (fX6_peak 0 p1 p2) (fX7_peak M p1 p2) (RLp M t t' ℓ n m bo dr lb lf sd kw) σ := by
  have hn := h.n8
  show ∃ r σ1 σ2, fX6_peak 0 p1 p2 σ = some (r, σ1) ∧ fX7_peak M p1 p2 σ1 = some (r, σ2) ∧ RLp M t t' ℓ n m bo dr lb lf sd kw σ2
  unfold fX6_peak fX7_peak
  rcases span p1 with q | ⟨k, hk, rfl, q⟩
  · exact ⟨-1, σ, σ, by rw [(q σ).1]; rfl, by rw [(q σ).2]; rfl, h⟩
  · rw [(q σ).1, Option.bind_some]
    dsimp only
    rw [if_neg one0]
    rcases either p2 with hp | ⟨h0, h1, hp⟩
    · obtain ⟨τ, τ', a1, a2, a3, a4, a5⟩ := c_trial h hk.2
      obtain ⟨υ, υ', d1, d2, d3, d4, d5⟩ := m_trial a4 hk.2
      rw [nowR_fx h.1.1 a3] at d5
      rw [c_ei1 hp, Option.bind_some]
      dsimp only
      rw [if_neg one0, a1, Option.bind_some]
      simp only [Nat.zero_add]
      rw [a2, Option.bind_some, a5.2.2.1, a5.2.2.2.1]
      have em : ∀ r, (if p2 = 0 then some (υ'.1 M 59, υ') else some (υ'.1 M 60, υ')) = some (r, υ') → ((fX7_isSome (nI k) τ').bind (fun q5 => let r3 := q5.1; let σ2 := q5.2; if r3 = 0 then (some ((-1 : Int32), σ2)) else ((fX7_in p2 (0 : Int32) (1 : Int32) σ2).bind (fun q10 => let r8 := q10.1; let σ7 := q10.2; if r8 = 0 then (some ((-1 : Int32), σ7)) else ((fX7_copiesStill M σ7).bind (fun σ12 => (fX7_standsFor M (nI k) σ12).bind (fun σ17 => if p2 = 0 then (some ((σ17.1 M 59), σ17)) else (some ((σ17.1 M 60), σ17))))))))) = some (r, υ') := fun r hr => by
        rw [(q τ').2, Option.bind_some]
        dsimp only
        rw [if_neg one0, m_ei1 hp, Option.bind_some]
        dsimp only
        rw [if_neg one0, d1, Option.bind_some, d2, Option.bind_some, hr]
      by_cases q0 : p2 = 0
      · exact ⟨_, τ', υ', if_pos q0, em _ (by rw [if_pos q0, d5.2.2.2.2.1]), d4⟩
      · exact ⟨_, τ', υ', if_neg q0, em _ (by rw [if_neg q0, d5.2.2.2.2.2]), d4⟩
    · refine ⟨-1, σ, σ, by rw [c_ei0 h0 h1]; rfl, ?_, h⟩
      rw [(q σ).2, Option.bind_some]
      dsimp only
      rw [if_neg one0, in_0 hp]; rfl
/-- who stands longest -/
def wwS (ea : Nat → Nat) : Nat → Nat
  | 0 => 0
  | i + 1 => if ea (wwS ea i) < ea i then i else wwS ea i
theorem wwS_le (ea : Nat → Nat) : ∀ i, wwS ea i ≤ i
  | 0 => Nat.le_refl _
  | i + 1 => by
    have := wwS_le ea i
    unfold wwS
    split <;> omega
theorem ag_worst (h : RLp M t t' ℓ n m bo dr lb lf sd kw σ) (p1 p2 : Int32) : Ag (fX6_worst 0 p1 p2) (fX7_worst M p1 p2) (RLp M t t' ℓ n m bo dr lb lf sd kw) σ := by
  have hn := h.n8
  show ∃ r σ1 σ2, fX6_worst 0 p1 p2 σ = some (r, σ1) ∧ fX7_worst M p1 p2 σ1 = some (r, σ2) ∧ RLp M t t' ℓ n m bo dr lb lf sd kw σ2
  unfold fX6_worst fX7_worst
  rcases span p1 with q | ⟨k, hk, rfl, q⟩
  · exact ⟨-1, σ, σ, by rw [(q σ).1]; rfl, by rw [(q σ).2]; rfl, h⟩
  · rw [(q σ).1, Option.bind_some]
    dsimp only
    rw [if_neg one0]
    rcases either p2 with hp | ⟨h0, h1, hp⟩
    · rw [c_ei1 hp, Option.bind_some]
      dsimp only
      rw [if_neg one0, h.1.2.2.1, h.ct.2.1]
      by_cases qn : n = 0
      · subst qn
        refine ⟨-2, σ, σ, if_pos (by decide), ?_, h⟩
        have hX := h.ms.1
        rw [(q σ).2, Option.bind_some]
        dsimp only
        rw [if_neg one0, m_ei1 hp, Option.bind_some]
        dsimp only
        rw [if_neg one0, if_pos hX.vl, hX.cl, hX.2.2.2.1, if_pos (by decide)]
      · have qz : ¬ nI n = 0 := ne_nI (b := 0) (by omega) (by omega) qn
        rw [if_neg qz]
        obtain ⟨τ, τ', a1, a2, a3, a4, a5⟩ := c_trial h hk.2
        obtain ⟨υ, υ', d1, d2, d3, d4, d5⟩ := m_trial a4 hk.2
        rw [nowR_fx h.1.1 a3] at d5
        have a51 : ∀ j, j < 8 → τ'.1 50 j = nI (wEa (oH n (hourS n m bo dr lb lf sd 1 (-1)) (nowR M σ)) k j) := a5.1
        have d51 := d5.1
        generalize hea : wEa (oH n (hourS n m bo dr lb lf sd 1 (-1)) (nowR M σ)) k = ea at a51 d51
        have el : ∀ j, ea j ≤ 72 := fun j => by rw [← hea]; exact Nat.le_trans (wEa_le _ _ _) hk.2
        have e1 : wwS ea 1 = 0 := by unfold wwS wwS; rw [if_neg (by omega)]
        have cl : lp (fun st : Int32 × Int32 × Sg => bX6_worst_50 0 (nI k) p2 st.1 st.2.1 st.2.2) (0, 1, τ') = some (nI (wwS ea n), τ') := by
          have := lpn (f := fun st : Int32 × Int32 × Sg => bX6_worst_50 0 (nI k) p2 st.1 st.2.1 st.2.2) (fun i => (nI (wwS ea (i + 1)), nI (i + 1), τ')) (n - 1) (fun i hi => ?_) (b := (nI (wwS ea n), τ')) ?_ 0 (by omega)
          · rw [e1] at this; exact this
          · show bX6_worst_50 0 (nI k) p2 (nI (wwS ea (i + 1))) (nI (i + 1)) τ' = _
            have w1 := wwS_le ea (i + 1)
            unfold bX6_worst_50 jX6_worst_87
            rw [a4.1.2.2.1, a4.ct.2.1, if_neg (le_nI (by omega) (by omega) (by omega))]
            simp (disch := omega) only [vif, nI_clamp, Nat.zero_add]
            have e50 : ∀ j, j < 8 → τ'.1 (49 + 1) j = nI (ea j) := a51
            rw [e50 _ (by omega), e50 _ (by omega), show wwS ea (i + 1 + 1) = if ea (wwS ea (i + 1)) < ea (i + 1) then i + 1 else wwS ea (i + 1) from rfl]
            have := el (i + 1)
            have := el (wwS ea (i + 1))
            by_cases z : ea (wwS ea (i + 1)) < ea (i + 1)
            · rw [if_neg (le_nI (by omega) (by omega) z), if_pos z, nI_s]
            · rw [if_pos (nI_le (by omega) (by omega)), if_neg z, nI_s]
          · show bX6_worst_50 0 (nI k) p2 (nI (wwS ea (n - 1 + 1))) (nI (n - 1 + 1)) τ' = _
            unfold bX6_worst_50
            rw [show n - 1 + 1 = n by omega, a4.1.2.2.1, a4.ct.2.1, if_pos (Int32.le_refl _)]
        have ml : lp (fun st : Int32 × Int32 × Sg => bX7_worst_47 M (nI k) p2 st.1 st.2.1 st.2.2) (0, 1, υ') = some (nI (wwS ea n), υ') := by
          have hX := d4.ms.1
          have := lpn (f := fun st : Int32 × Int32 × Sg => bX7_worst_47 M (nI k) p2 st.1 st.2.1 st.2.2) (fun i => (nI (wwS ea (i + 1)), nI (i + 1), υ')) (n - 1) (fun i hi => ?_) (b := (nI (wwS ea n), υ')) ?_ 0 (by omega)
          · rw [e1] at this; exact this
          · show bX7_worst_47 M (nI k) p2 (nI (wwS ea (i + 1))) (nI (i + 1)) υ' = _
            have w1 := wwS_le ea (i + 1)
            unfold bX7_worst_47 jX7_worst_80
            rw [if_pos hX.vl, hX.cl, hX.2.2.2.1, if_neg (le_nI (by omega) (by omega) (by omega))]
            simp (disch := omega) only [vif, nI_clamp]
            rw [d51 _ (by omega), d51 _ (by omega), show wwS ea (i + 1 + 1) = if ea (wwS ea (i + 1)) < ea (i + 1) then i + 1 else wwS ea (i + 1) from rfl]
            have := el (i + 1)
            have := el (wwS ea (i + 1))
            by_cases z : ea (wwS ea (i + 1)) < ea (i + 1)
            · rw [if_neg (le_nI (by omega) (by omega) z), if_pos z, nI_s]
            · rw [if_pos (nI_le (by omega) (by omega)), if_neg z, nI_s]
          · show bX7_worst_47 M (nI k) p2 (nI (wwS ea (n - 1 + 1))) (nI (n - 1 + 1)) υ' = _
            unfold bX7_worst_47
            rw [show n - 1 + 1 = n by omega, if_pos hX.vl, hX.cl, hX.2.2.2.1, if_pos (Int32.le_refl _)]
        have wl : wwS ea n < 8 := by
          have := wwS_le ea (n - 1)
          have e2 : wwS ea n = wwS ea (n - 1 + 1) := by rw [show n - 1 + 1 = n by omega]
          rw [e2]
          unfold wwS
          split <;> omega
        refine ⟨if p2 = 0 then nI (wwS ea n) else nI (ea (wwS ea n)), τ', υ', ?_, ?_, d4⟩
        · rw [a1, Option.bind_some]
          simp only [Nat.zero_add]
          rw [a2, Option.bind_some, cl, Option.bind_some]
          dsimp only
          by_cases q0 : p2 = 0
          · rw [if_pos q0, if_pos q0]
          · rw [if_neg q0, if_neg q0]
            simp (disch := omega) only [vif, nI_clamp]
            rw [show 49 + 1 = 50 from rfl, a51 _ wl]
        · have hX := a4.ms.1
          rw [(q τ').2, Option.bind_some]
          dsimp only
          rw [if_neg one0, m_ei1 hp, Option.bind_some]
          dsimp only
          rw [if_neg one0, if_pos hX.vl, hX.cl, hX.2.2.2.1, if_neg qz, d1, Option.bind_some, d2, Option.bind_some, ml, Option.bind_some]
          dsimp only
          by_cases q0 : p2 = 0
          · rw [if_pos q0, if_pos q0]
          · rw [if_neg q0, if_neg q0]
            simp (disch := omega) only [vif, nI_clamp]
            rw [d51 _ wl]
    · refine ⟨-1, σ, σ, by rw [c_ei0 h0 h1]; rfl, ?_, h⟩
      rw [(q σ).2, Option.bind_some]
      dsimp only
      rw [if_neg one0, in_0 hp]; rfl
end TRIAL
