section YEAR
variable {M a b t t' ℓ n m L : Nat} {bo : Nat → Bool} {dr : Nat → Int32} {lb : Nat → Br} {lf : Nat → Rp} {sd : Int32} {kw : Nat → Int64} {σ τ υ : Sg} {ρ ρ' : Nat → Int32}
theorem c_try (h : RLp M t t' ℓ n m bo dr lb lf sd kw σ) {p : Nat} (hp : p ≤ 72) (s : Int32) : ∃ τ, fX6_tryHours 0 (nI p) s σ = some τ ∧ Fx M σ τ ∧ TR τ t n m bo dr lb lf s 0 (-1) (hIt (hourS n m bo dr lb lf s 0 (-1)) p (nowR M σ)) := by
  have ht := h.t2
  obtain ⟨c1, c2, c3, c4, c5, c6, c7, c8, c9⟩ := c_copy h
  generalize hσ1 : wI (cpS 40 31 σ) 40 8 s = σ1
  have hF1 : Fx M σ σ1 := by rw [← hσ1]; exact c2.wI (by unfold SX; omega)
  have hT1 : TR σ1 t n m bo dr lb lf s 0 (-1) (nowR M σ) := by
    rw [← hσ1]
    refine ⟨⟨c3.1, c3.2.1, c3.2.2.fs (Fs.rf.wI (S := fun k _ => k = 40) rfl) (fun x j a1 a2 => by have := c3.1; omega)⟩, c4.wq (by omega), c5, ?_, ?_, ?_, fun q => ?_⟩
    · rw [wI_k, upd_n (by omega)]; exact c6
    · rw [wI_k, upd_n (by omega)]; exact c7
    · rw [wI_k, upd_k]
    · rw [wI_k, upd_n (by omega)]; exact c9 q
  have hh := lp_inv (f := fun st : Int32 × Sg => bX6_tryHours_21 0 (nI p) s st.1 st.2) p (fun i τ => Fs (SW 40 t) σ1 τ ∧ TR τ t n m bo dr lb lf s 0 (-1) (hIt (hourS n m bo dr lb lf s 0 (-1)) i (nowR M σ))) (fun i τ hi hI => ?_) (fun τ hI => ?_) (σ := σ1) ⟨Fs.rf, hT1⟩
  · obtain ⟨τ, h1, h2, h3⟩ := hh
    refine ⟨τ, ?_, hF1.tr (h2.fy (fun k j q => by unfold SW SC at q; omega)), h3⟩
    unfold fX6_tryHours
    simp only [Nat.zero_add]
    rw [c1, Option.bind_some]
    rw [hσ1, show (0 : Int32) = nI 0 from rfl, h1]; rfl
  · obtain ⟨hF, h1, h2, h3, h4⟩ := hI
    obtain ⟨υ, k1, k2, k3, k4, k5, k6⟩ := hour_v h1 h2 h3 h4
    refine ⟨υ, ?_, hF.tr k1, k3, k4, k5, k6⟩
    show bX6_tryHours_21 0 (nI p) s (nI i) τ = _
    unfold bX6_tryHours_21
    rw [if_neg (le_nI (by omega) (by omega) hi)]
    simp only [Nat.zero_add]
    rw [k2, Option.bind_some]
    rw [nI_s]
  · show bX6_tryHours_21 0 (nI p) s (nI p) τ = _
    unfold bX6_tryHours_21
    rw [if_pos (Int32.le_refl _)]
/-- from a copy of now with a seed -/
theorem m_goes (h : RLp M t t' ℓ n m bo dr lb lf sd kw σ) {s : Int32} (hr : σ.1 (M + 31) = ρ) (hv : RV n m ρ) (h9 : σ.1 M 49 = s) (h10 : σ.1 M 50 = 0) (h11 : σ.1 M 51 = -1) {p : Nat} (hp : p ≤ 72) : ∃ τ, fX7_goes M (nI p) σ = some τ ∧ Fx M σ τ ∧ τ.1 (M + 31) = hIt (hourS n m bo dr lb lf s 0 (-1)) p ρ ∧ RV n m (hIt (hourS n m bo dr lb lf s 0 (-1)) p ρ) := by
  obtain ⟨υ', a1, a2, a3, a4⟩ := goes_v h.ms (by rw [hr]; exact hv) h9 h10 h11 hp
  have tl : ∀ x, 88 ≤ x → ∀ ρ, hourS n m bo dr lb lf s 0 (-1) ρ x = ρ x := fun x hx ρ => hourS_t hx h.n8 h.m6
  rw [hr] at a3
  exact ⟨υ', a2, a1.fx (fun _ _ => SR_SQ) (fun x hx => by rw [a3, hIt_t (tl x hx), hr]), a3, by rw [← a3]; exact a4⟩
theorem cntA (p : Int32) : (∀ σ : Sg, fX6_isCount p σ = some (0, σ) ∧ fX7_isLong p σ = some (0, σ)) ∨ ∃ k, k ≤ 72 ∧ p = nI k ∧ ∀ σ : Sg, fX6_isCount p σ = some (1, σ) ∧ fX7_isLong p σ = some (1, σ) := by
  unfold fX6_isCount fX7_isLong
  by_cases q1 : p < 0
  · left; intro σ; rw [if_pos q1, in_0 (Or.inl q1)]; exact ⟨rfl, rfl⟩
  · by_cases q2 : 72 < p
    · left; intro σ; rw [if_neg q1, if_pos q2, in_0 (Or.inr q2)]; exact ⟨rfl, rfl⟩
    · right
      rcases pk_ix p (n := 73) (by omega) with q | q | ⟨k, hk, rfl⟩
      · exact absurd q q1
      · exact absurd (Int32.lt_of_lt_of_le (show (72 : Int32) < nI 73 by decide) q) q2
      · refine ⟨k, by omega, rfl, fun σ => ?_⟩
        rw [if_neg q1, if_neg q2, in_1 (Int32.not_lt.mp q1) (Int32.not_lt.mp q2)]; exact ⟨rfl, rfl⟩
theorem ag_rents (h : RLp M t t' ℓ n m bo dr lb lf sd kw σ) (p : Int32) : Ag (fX6_rents 0 p) (fX7_rents M p) (RLp M t t' ℓ n m bo dr lb lf sd kw) σ := by
  have hM := h.1.1
  have ht := h.t2
  show ∃ r σ1 σ2, fX6_rents 0 p σ = some (r, σ1) ∧ fX7_rents M p σ1 = some (r, σ2) ∧ RLp M t t' ℓ n m bo dr lb lf sd kw σ2
  unfold fX6_rents fX7_rents
  rcases cntA p with q | ⟨k, hk, rfl, q⟩
  · exact ⟨-1, σ, σ, by rw [(q σ).1]; rfl, by rw [(q σ).2]; rfl, h⟩
  · obtain ⟨τ, a1, a2, a3⟩ := c_try h hk sd
    obtain ⟨τ2, b1, b2⟩ := c_rentAll a3.1 a3.2.1
    have hF : Fx M σ τ2 := a2.tr (b1.fy (fun k j q => by unfold SL at q; omega))
    obtain ⟨υ, d1, d2, d3, d4, d5, d6, d7⟩ := m_copies (h.fx hF)
    rw [nowR_fx hM hF] at d3
    obtain ⟨υ2, e1, e2, e3, e4⟩ := m_goes d7 d3 h.rvn d4 d5 d6 hk
    have x2 := d7.fx e2
    obtain ⟨υ3, f1, f2⟩ := m_rentAll x2.ms
    rw [e3] at f2
    have hG : Fx M υ2 υ3 := (f1.mo (fun _ _ => SV_SR)).fx (fun _ _ => SR_SQ) (fun x _ => by rw [row_sv f1])
    refine ⟨rsA n m lb lf (hIt (hourS n m bo dr lb lf sd 0 (-1)) k (nowR M σ)) n, τ2, υ3, ?_, ?_, x2.fx hG⟩
    · rw [(q σ).1, Option.bind_some]
      dsimp only
      rw [if_neg one0, h.1.2.2.1, h.1.2.2.2.2.2.2.1, a1, Option.bind_some]
      simp only [Nat.zero_add]
      rw [b2]; rfl
    · rw [(q τ2).2, Option.bind_some]
      dsimp only
      rw [if_neg one0, d2, Option.bind_some, e1, Option.bind_some, f2]; rfl
theorem ag_then (h : RLp M t t' ℓ n m bo dr lb lf sd kw σ) (p1 p2 p3 : Int32) : Ag (fX6_then 0 p1 p2 p3) (fX7_then M p1 p2 p3) (RLp M t t' ℓ n m bo dr lb lf sd kw) σ := by
  have hM := h.1.1
  have ht := h.t2
  have hn := h.n8
  show ∃ r σ1 σ2, fX6_then 0 p1 p2 p3 σ = some (r, σ1) ∧ fX7_then M p1 p2 p3 σ1 = some (r, σ2) ∧ RLp M t t' ℓ n m bo dr lb lf sd kw σ2
  rcases cntA p2 with q | ⟨k, hk, rfl, q⟩
  · exact ⟨-1, σ, σ, by unfold fX6_then; rw [(q σ).1]; rfl, by unfold fX7_then; rw [(q σ).2]; rfl, h⟩
  · obtain ⟨τ, a1, a2, a3⟩ := c_try h hk sd
    obtain ⟨υ, d1, d2, d3, d4, d5, d6, d7⟩ := m_copies (h.fx a2)
    rw [nowR_fx hM a2] at d3
    obtain ⟨υ2, e1, e2, e3, e4⟩ := m_goes d7 d3 h.rvn d4 d5 d6 hk
    have x2 := d7.fx e2
    generalize hR : hIt (hourS n m bo dr lb lf sd 0 (-1)) k (nowR M σ) = R at a3 e3 e4
    have cj : jX6_then_31 0 p1 (nI k) p3 σ = if p3 = 2 then some (R 85 - σ.1 (M + 30) 85, τ) else (if p3 = 0 then ((fX2_whereIs 40 p1 τ).bind (fun q20 => some (q20.1, q20.2))) else (if vin p1 8 then (some (τ.1 45 p1.toNatClampNeg, τ)) else none)) := by
      unfold jX6_then_31
      rw [h.1.2.2.1, h.1.2.2.2.2.2.2.1, a1, Option.bind_some]
      simp only [Nat.zero_add]
      rw [a3.2.2.2.2.2.2 rfl, (h.fx a2).2.1.2.2.2.2.2.2 rfl, a2.1 _ _ (by unfold SX; omega)]
    have mj : jX7_then_31 M p1 (nI k) p3 τ = if p3 = 0 then (if vin ((40 : Int32) + p1) 88 then (some (R ((((40 : Int32) + p1)).toNatClampNeg), υ2)) else none) else (if p3 = 1 then (if vin ((48 : Int32) + p1) 88 then (some (R ((((48 : Int32) + p1)).toNatClampNeg), υ2)) else none) else some (R 85 - σ.1 (M + 30) 85, υ2)) := by
      unfold jX7_then_31
      rw [d2, Option.bind_some, e1, Option.bind_some, e3, e2.1 (M + 30) 85 (by unfold SX; omega), d1.1 (M + 30) 85 (by unfold SX; omega), a2.1 (M + 30) 85 (by unfold SX; omega)]
    by_cases w0 : p3 < 0
    · refine ⟨-1, σ, σ, ?_, ?_, h⟩
      · unfold fX6_then; rw [(q σ).1, Option.bind_some]; dsimp only; rw [if_neg one0, if_pos w0]
      · unfold fX7_then; rw [(q σ).2, Option.bind_some]; dsimp only; rw [if_neg one0, in_0 (Or.inl w0)]; rfl
    by_cases w1 : 2 < p3
    · refine ⟨-1, σ, σ, ?_, ?_, h⟩
      · unfold fX6_then; rw [(q σ).1, Option.bind_some]; dsimp only; rw [if_neg one0, if_neg w0, if_pos w1]
      · unfold fX7_then; rw [(q σ).2, Option.bind_some]; dsimp only; rw [if_neg one0, in_0 (Or.inr w1)]; rfl
    have i1 : ∀ σ : Sg, fX7_in p3 0 2 σ = some (1, σ) := fun σ => in_1 (Int32.not_lt.mp w0) (Int32.not_lt.mp w1)
    by_cases w2 : 2 ≤ p3
    · have e2' : p3 = 2 := Int32.le_antisymm (Int32.not_lt.mp w1) w2
      refine ⟨R 85 - σ.1 (M + 30) 85, τ, υ2, ?_, ?_, x2⟩
      · unfold fX6_then; rw [(q σ).1, Option.bind_some]; dsimp only; rw [if_neg one0, if_neg w0, if_neg w1, if_pos w2, cj, if_pos e2']
      · unfold fX7_then; rw [(q τ).2, Option.bind_some]; dsimp only; rw [if_neg one0, i1, Option.bind_some]; dsimp only; rw [if_neg one0, if_pos w2, mj, e2', if_neg (by decide), if_neg (by decide)]
    · have n2 : ¬ p3 = 2 := fun z => w2 (by rw [z]; exact Int32.le_refl _)
      rcases arg p1 (n := n) (by omega) with z | ⟨w, hw, rfl⟩
      · refine ⟨-1, σ, σ, ?_, ?_, h⟩
        · unfold fX6_then; rw [(q σ).1, Option.bind_some]; dsimp only; rw [if_neg one0, if_neg w0, if_neg w1, if_neg w2, c_isH0 h z]; rfl
        · unfold fX7_then; rw [(q σ).2, Option.bind_some]; dsimp only; rw [if_neg one0, i1, Option.bind_some]; dsimp only; rw [if_neg one0, if_neg w2, m_isH0 h.ms.1 z]; rfl
      · have cz : fX6_then 0 (nI w) (nI k) p3 σ = jX6_then_31 0 (nI w) (nI k) p3 σ := by
          unfold fX6_then; rw [(q σ).1, Option.bind_some]; dsimp only; rw [if_neg one0, if_neg w0, if_neg w1, if_neg w2, c_isH1 h hw]; rfl
        have mz : fX7_then M (nI w) (nI k) p3 τ = jX7_then_31 M (nI w) (nI k) p3 τ := by
          unfold fX7_then; rw [(q τ).2, Option.bind_some]; dsimp only; rw [if_neg one0, i1, Option.bind_some]; dsimp only; rw [if_neg one0, if_neg w2, m_isH1 (h.fx a2).ms.1 hw]; rfl
        rw [cz, cj, if_neg n2]
        by_cases w3 : p3 = 0
        · refine ⟨R (40 + w), τ, υ2, ?_, ?_, x2⟩
          · rw [if_pos w3, whereIs_v a3.1 a3.2.1 a3.2.2.1 hw]; rfl
          · rw [mz, mj, if_pos w3, k40]
            simp (disch := omega) only [vif, nI_clamp]
        · have e1' : p3 = 1 := by
            rcases pk_ix p3 (n := 2) (by omega) with y | y | ⟨j, hj, rfl⟩
            · exact absurd y w0
            · exact absurd y w2
            · rcases (show j = 0 ∨ j = 1 by omega) with rfl | rfl
              · exact absurd rfl w3
              · rfl
          refine ⟨R (48 + w), τ, υ2, ?_, ?_, x2⟩
          · rw [if_neg w3]
            simp (disch := omega) only [vif, nI_clamp]
            rw [show (45 : Nat) = 40 + 5 from rfl, (a3.2.1.2.1 w hw).2.2.2.2.1]
          · rw [mz, mj, if_neg w3, if_pos e1', k48]
            simp (disch := omega) only [vif, nI_clamp]
/-- of the first i years so many are calm -/
def ycN (f : Nat → Bool) : Nat → Nat
  | 0 => 0
  | i + 1 => ycN f i + b2n (f i)
theorem ag_year (h : RLp M t t' ℓ n m bo dr lb lf sd kw σ) (p1 p2 : Int32) : Ag (fX6_year 0 p1 p2) (fX7_year M p1 p2) (RLp M t t' ℓ n m bo dr lb lf sd kw) σ := by
  have hM := h.1.1
  have ht := h.t2
  have hn := h.n8
  show ∃ r σ1 σ2, fX6_year 0 p1 p2 σ = some (r, σ1) ∧ fX7_year M p1 p2 σ1 = some (r, σ2) ∧ RLp M t t' ℓ n m bo dr lb lf sd kw σ2
  unfold fX6_year fX7_year
  rcases cntA p1 with q | ⟨k, hk, rfl, q⟩
  · exact ⟨-1, σ, σ, by rw [(q σ).1]; rfl, by rw [(q σ).2]; rfl, h⟩
  · rw [(q σ).1, Option.bind_some]
    dsimp only
    rw [if_neg one0]
    by_cases w0 : p2 < 1
    · refine ⟨-1, σ, σ, if_pos w0, ?_, h⟩
      rw [(q σ).2, Option.bind_some]; dsimp only; rw [if_neg one0, in_0 (Or.inl w0)]; rfl
    rw [if_neg w0]
    by_cases w1 : p2 ≤ 20
    · rw [if_pos w1]
      obtain ⟨s, hs, rfl⟩ : ∃ s, s ≤ 20 ∧ p2 = nI s := by
        rcases pk_ix p2 (n := 21) (by omega) with y | y | ⟨j, hj, rfl⟩
        · exact absurd (Int32.lt_of_lt_of_le y (show (0 : Int32) ≤ 1 by decide)) w0
        · exact absurd (Int32.le_trans y w1) (by decide)
        · exact ⟨j, by omega, rfl⟩
      generalize hf : (fun i => decide (nI (mk8 (stF n (hIt (hourS n m bo dr lb lf (sd + nI i) 0 (-1)) k (nowR M σ)) 2)) = 0)) = f
      have hc := lp_invG (f := fun st : Int32 × Int32 × Sg => bX6_year_25 0 (nI k) (nI s) st.1 st.2.1 st.2.2) s (fun i x => x.1 = nI (ycN f i) ∧ x.2.1 = nI i ∧ Fx M σ x.2.2) (fun b => b.1 = nI (ycN f s) ∧ Fx M σ b.2) (fun i x hi hx => by
          obtain ⟨x, y, τ⟩ := x
          obtain ⟨e1, e2, hF⟩ := hx
          dsimp only at e1 e2 hF
          subst e1 e2
          have hτ := h.fx hF
          have fe : f i = decide (nI (mk8 (stF n (hIt (hourS n m bo dr lb lf (sd + nI i) 0 (-1)) k (nowR M σ)) 2)) = 0) := by rw [← hf]
          obtain ⟨υ, u1, u2, u3⟩ := c_try hτ hk (sd + nI i)
          rw [nowR_fx hM hF] at u3
          refine Or.inl ⟨(nI (ycN f (i + 1)), nI (i + 1), υ), ?_, rfl, rfl, hF.tr u2⟩
          show bX6_year_25 0 (nI k) (nI s) (nI (ycN f i)) (nI i) τ = _
          unfold bX6_year_25 jX6_year_59
          rw [if_neg (le_nI (by omega) (by omega) hi), hτ.1.2.2.1, hτ.1.2.2.2.2.2.2.1, u1, Option.bind_some]
          simp only [Nat.zero_add]
          rw [u3.2.1.1.2.2.1, nI_s, nI_s, show ycN f (i + 1) = ycN f i + b2n (f i) from rfl, fe]
          by_cases z : nI (mk8 (stF n (hIt (hourS n m bo dr lb lf (sd + nI i) 0 (-1)) k (nowR M σ)) 2)) = 0
          · rw [if_pos z, decide_eq_true z]; rfl
          · rw [if_neg z, decide_eq_false z]; rfl) (fun x hx => by
          obtain ⟨x, y, τ⟩ := x
          obtain ⟨e1, e2, hF⟩ := hx
          dsimp only at e1 e2 hF
          subst e1 e2
          refine ⟨(nI (ycN f s), τ), ?_, rfl, hF⟩
          show bX6_year_25 0 (nI k) (nI s) _ (nI s) τ = _
          unfold bX6_year_25
          rw [if_pos (Int32.le_refl _)]) (s := (0, 0, σ)) ⟨rfl, rfl, Fc.rf⟩
      obtain ⟨⟨b1, τ⟩, g1, g2, g3⟩ := hc
      dsimp only at g2 g3
      subst g2
      have hm' := lp_invG (f := fun st : Int32 × Int32 × Sg => bX7_year_24 M (nI k) (nI s) st.1 st.2.1 st.2.2) s (fun i x => x.1 = nI (ycN f i) ∧ x.2.1 = nI i ∧ Fx M σ x.2.2) (fun b => b.1 = nI (ycN f s) ∧ Fx M σ b.2) (fun i x hi hx => by
          obtain ⟨x, y, τ⟩ := x
          obtain ⟨e1, e2, hF⟩ := hx
          dsimp only at e1 e2 hF
          subst e1 e2
          have hτ := h.fx hF
          have fe : f i = decide (nI (mk8 (stF n (hIt (hourS n m bo dr lb lf (sd + nI i) 0 (-1)) k (nowR M σ)) 2)) = 0) := by rw [← hf]
          obtain ⟨υ, d1, d2, d3, d4, d5, d6, d7⟩ := m_copies hτ
          rw [nowR_fx hM hF] at d3
          have f2 : Fx M υ (wI υ M 49 (sd + nI i)) := Fc.rf.wI (by unfold SX; omega)
          have x2 := d7.fx f2
          obtain ⟨υ2, e1, e2, e3, e4⟩ := m_goes x2 (ρ := nowR M σ) (s := sd + nI i) (by rw [wI_n (by omega)]; exact d3) h.rvn (by rw [wI_k, upd_k]) (by rw [wI_k, upd_n (by omega)]; exact d5) (by rw [wI_k, upd_n (by omega)]; exact d6) hk
          have x3 := x2.fx e2
          refine Or.inl ⟨(nI (ycN f (i + 1)), nI (i + 1), υ2), ?_, rfl, rfl, ((hF.tr d1).tr f2).tr e2⟩
          show bX7_year_24 M (nI k) (nI s) (nI (ycN f i)) (nI i) τ = _
          unfold bX7_year_24 jX7_year_61
          rw [if_neg (le_nI (by omega) (by omega) hi), d2, Option.bind_some]
          dsimp only
          rw [d4, e1, Option.bind_some, soBits_v x3.ms.1 2, Option.bind_some, e3]
          dsimp only
          rw [nI_s, nI_s, show ycN f (i + 1) = ycN f i + b2n (f i) from rfl, fe]
          by_cases z : nI (mk8 (stF n (hIt (hourS n m bo dr lb lf (sd + nI i) 0 (-1)) k (nowR M σ)) 2)) = 0
          · rw [if_pos z, decide_eq_true z]; rfl
          · rw [if_neg z, decide_eq_false z]; rfl) (fun x hx => by
          obtain ⟨x, y, τ⟩ := x
          obtain ⟨e1, e2, hF⟩ := hx
          dsimp only at e1 e2 hF
          subst e1 e2
          refine ⟨(nI (ycN f s), τ), ?_, rfl, hF⟩
          show bX7_year_24 M (nI k) (nI s) _ (nI s) τ = _
          unfold bX7_year_24
          rw [if_pos (Int32.le_refl _)]) (s := (0, 0, τ)) ⟨rfl, rfl, g3⟩
      obtain ⟨⟨b2, υ⟩, l1, l2, l3⟩ := hm'
      dsimp only at l2 l3
      subst l2
      refine ⟨nI (ycN f s), τ, υ, ?_, ?_, h.fx l3⟩
      · rw [g1]; rfl
      · rw [(q τ).2, Option.bind_some]; dsimp only; rw [if_neg one0, in_1 (Int32.not_lt.mp w0) w1, Option.bind_some]; dsimp only; rw [if_neg one0, l1]; rfl
    · refine ⟨-1, σ, σ, if_neg w1, ?_, h⟩
      rw [(q σ).2, Option.bind_some]; dsimp only; rw [if_neg one0, in_0 (Or.inr (Int32.not_le.mp w1))]; rfl
end YEAR
