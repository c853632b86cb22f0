section METH
variable {M t t' ℓ n m : Nat} {bo : Nat → Bool} {dr : Nat → Int32} {lb : Nat → Br} {lf : Nat → Rp} {sd : Int32} {kw : Nat → Int64} {σ τ : Sg} {ρ : Nat → Int32}
theorem RLp.sl (h : RLp M t t' ℓ n m bo dr lb lf sd kw σ) (hF : Fs (SL t) σ τ) : Fx M σ τ := hF.fy (fun k j q => by have := h.1.2.1; unfold SL at q; omega)
theorem RLp.nbox (h : RLp M t t' ℓ n m bo dr lb lf sd kw σ) {e : Nat} (he : e < m) : ∃ b, b < n ∧ σ.1 (M + 30) (72 + e) = nI b := h.rv.2.1 e he
theorem ag_place (h : RLp M t t' ℓ n m bo dr lb lf sd kw σ) : Ag (fX6_place 0) (fX7_place M) (RLp M t t' ℓ n m bo dr lb lf sd kw) σ := ⟨_, σ, σ, rfl, by unfold fX7_place; rw [h.2.2.2.2.2.1.2], h⟩
theorem ag_by (h : RLp M t t' ℓ n m bo dr lb lf sd kw σ) (p1 : Int32) : Ag (fX6_by 0 p1) (fX7_by M p1) (RLp M t t' ℓ n m bo dr lb lf sd kw) σ := by
  have hn := h.n8
  show ∃ r σ1 σ2, fX6_by 0 p1 σ = some (r, σ1) ∧ fX7_by M p1 σ1 = some (r, σ2) ∧ RLp M t t' ℓ n m bo dr lb lf sd kw σ2
  unfold fX6_by fX7_by
  rcases arg p1 (n := n) (by omega) with q | ⟨w, hw, rfl⟩
  · exact ⟨-1, σ, σ, by rw [c_isH0 h q]; rfl, by rw [m_isH0 h.ms.1 q]; rfl, h⟩
  · refine ⟨σ.1 (M + 30) (64 + w), σ, σ, ?_, ?_, h⟩
    · rw [c_isH1 h hw, Option.bind_some]
      dsimp only
      rw [if_neg one0]
      simp (disch := omega) only [vif, nI_clamp, Nat.zero_add]
      rw [(h.cr.2.1 w hw).2.2.2.2.2]
    · rw [m_isH1 h.ms.1 hw, Option.bind_some]
      dsimp only
      rw [if_neg one0, k64]
      simp (disch := omega) only [vif, nI_clamp]
theorem ag_spare (h : RLp M t t' ℓ n m bo dr lb lf sd kw σ) (p1 p2 : Int32) : Ag (fX6_spare 0 p1 p2) (fX7_spare M p1 p2) (RLp M t t' ℓ n m bo dr lb lf sd kw) σ := by
  have hn := h.n8
  have hm := h.m6
  have hl := h.ms.1.1
  show ∃ r σ1 σ2, fX6_spare 0 p1 p2 σ = some (r, σ1) ∧ fX7_spare M p1 p2 σ1 = some (r, σ2) ∧ RLp M t t' ℓ n m bo dr lb lf sd kw σ2
  unfold fX6_spare fX7_spare
  rcases arg p1 (n := m) (by omega) with q | ⟨w, hw, rfl⟩
  · exact ⟨-1, σ, σ, by rw [c_isS0 h q]; rfl, by rw [m_isS0 h.ms.1 q]; rfl, h⟩
  · have c0 := c_isS1 h hw
    have m0 := m_isS1 h.ms.1 hw
    have ct := h.1.2.2.1
    have ed := h.ct.2.2.2.2.1 w hw
    have md := h.ms.2.1 w hw
    have cb := h.cr.2.2 w hw
    have e18 := h.ms.1.2.1
    by_cases q0 : p2 = 0
    · refine ⟨dr w, σ, σ, ?_, ?_, h⟩
      · rw [c0, Option.bind_some]
        dsimp only
        rw [if_neg one0, if_pos q0, ct]
        simp (disch := omega) only [vif, nI_clamp]
        rw [ed]
      · rw [m0, Option.bind_some]
        dsimp only
        rw [if_neg one0, if_pos q0, e18, k6, nI_add]
        simp (disch := omega) only [vif, nI_clamp]
        rw [md]
    · by_cases q1 : p2 = 1
      · refine ⟨σ.1 (M + 30) (72 + w), σ, σ, ?_, ?_, h⟩
        · rw [c0, Option.bind_some]
          dsimp only
          rw [if_neg one0, if_neg q0, if_pos q1]
          simp (disch := omega) only [vif, nI_clamp, Nat.zero_add]
          rw [cb.1]
        · rw [m0, Option.bind_some]
          dsimp only
          rw [if_neg one0, if_neg q0, if_pos q1, k72]
          simp (disch := omega) only [vif, nI_clamp]
      · by_cases q2 : p2 = 2
        · refine ⟨σ.1 (M + 30) (78 + w), σ, σ, ?_, ?_, h⟩
          · rw [c0, Option.bind_some]
            dsimp only
            rw [if_neg one0, if_neg q0, if_neg q1, if_pos q2]
            simp (disch := omega) only [vif, nI_clamp, Nat.zero_add]
            rw [cb.2]
          · rw [m0, Option.bind_some]
            dsimp only
            rw [if_neg one0, if_neg q0, if_neg q1, if_pos q2, k78]
            simp (disch := omega) only [vif, nI_clamp]
        · refine ⟨-1, σ, σ, ?_, ?_, h⟩
          · rw [c0, Option.bind_some]
            dsimp only
            rw [if_neg one0, if_neg q0, if_neg q1, if_neg q2]
          · rw [m0, Option.bind_some]
            dsimp only
            rw [if_neg one0, if_neg q0, if_neg q1, if_neg q2]
theorem ag_lets (h : RLp M t t' ℓ n m bo dr lb lf sd kw σ) (p1 p2 : Int32) : Ag (fX6_lets 0 p1 p2) (fX7_lets M p1 p2) (RLp M t t' ℓ n m bo dr lb lf sd kw) σ := by
  have hn := h.n8
  show ∃ r σ1 σ2, fX6_lets 0 p1 p2 σ = some (r, σ1) ∧ fX7_lets M p1 p2 σ1 = some (r, σ2) ∧ RLp M t t' ℓ n m bo dr lb lf sd kw σ2
  unfold fX6_lets fX7_lets
  rcases arg p1 (n := n) (by omega) with q | ⟨w, hw, rfl⟩
  · exact ⟨-1, σ, σ, by rw [c_isH0 h q]; rfl, by rw [m_isH0 h.ms.1 q]; rfl, h⟩
  · rcases arg p2 (n := n) (by omega) with q | ⟨v, hv, rfl⟩
    · refine ⟨-1, σ, σ, ?_, ?_, h⟩
      · rw [c_isH1 h hw, Option.bind_some]
        dsimp only
        rw [if_neg one0, c_isH0 h q]; rfl
      · rw [m_isH1 h.ms.1 hw, Option.bind_some]
        dsimp only
        rw [if_neg one0, m_isH0 h.ms.1 q]; rfl
    · by_cases qe : nI w = nI v
      · refine ⟨-1, σ, σ, ?_, ?_, h⟩
        · rw [c_isH1 h hw, Option.bind_some]
          dsimp only
          rw [if_neg one0, c_isH1 h hv, Option.bind_some]
          dsimp only
          rw [if_neg one0, if_pos qe]
        · rw [m_isH1 h.ms.1 hw, Option.bind_some]
          dsimp only
          rw [if_neg one0, m_isH1 h.ms.1 hv, Option.bind_some]
          dsimp only
          rw [if_neg one0, if_pos qe]
      · obtain ⟨υ, g1, g2⟩ := wouldLetIn_v h.ca h.crn hw hv
        have Fυ := h.sl g1
        have hυ := h.fx Fυ
        obtain ⟨τ, k1, k2, k3, -, -, -, k4⟩ := m_copies hυ
        rw [nowR_fx h.1.1 Fυ] at k3
        obtain ⟨ω, l1, l2⟩ := doesLet_v k4.ms (o := w) (w := v) (by omega) (by omega)
        rw [k3] at l2
        have Fω : Fx M τ ω := (l1.mo (fun _ _ => SV_SR)).fx (fun _ _ => SR_SQ) (fun x _ => by rw [row_sv l1])
        refine ⟨nI (b2n (letB n lb lf (nowR M σ) w v)), υ, ω, ?_, ?_, k4.fx Fω⟩
        · rw [c_isH1 h hw, Option.bind_some]
          dsimp only
          rw [if_neg one0, c_isH1 h hv, Option.bind_some]
          dsimp only
          rw [if_neg one0, if_neg qe]
          simp only [Nat.zero_add]
          rw [g2, Option.bind_some]
          dsimp only
          cases letB n lb lf (nowR M σ) w v <;> rfl
        · rw [m_isH1 hυ.ms.1 hw, Option.bind_some]
          dsimp only
          rw [if_neg one0, m_isH1 hυ.ms.1 hv, Option.bind_some]
          dsimp only
          rw [if_neg one0, if_neg qe, k2, Option.bind_some, l2, Option.bind_some]
          dsimp only
          cases letB n lb lf (nowR M σ) w v <;> rfl
def dyN (n b w : Nat) : Nat := if b ≤ w then w - b else w + n - b
theorem c_ways (h : RLp M t t' ℓ n m bo dr lb lf sd kw σ) {e w b : Nat} (he : e < m) (hw : w < n) (hb : b < n) (eb : σ.1 (M + 30) (72 + e) = nI b) : fX2_waysOf 31 (nI e) (nI w) σ = some (nI (dyN n b w), σ) := by
  have hn := h.n8
  have hm := h.m6
  unfold fX2_waysOf dyN
  simp (disch := omega) only [vif, nI_clamp]
  rw [(h.cr.2.2 e he).1, eb, h.ca.2.1, h.ct.2.1]
  by_cases q : b ≤ w
  · rw [pk_sub q, if_pos (nI_n1 (by omega)), if_pos q]
  · rw [if_neg (Int32.not_le.mpr (pk_sneg (by omega) (by omega))), if_neg q]
    have : nI w - nI b + nI n = nI w + nI n - nI b := by
      rw [Int32.sub_eq_add_neg, Int32.sub_eq_add_neg, Int32.add_assoc, Int32.add_comm (-nI b), Int32.add_assoc]
    rw [this, nI_add, pk_sub (by omega)]
theorem m_days (h : RLp M t t' ℓ n m bo dr lb lf sd kw σ) {e w b : Nat} (he : e < m) (hw : w < n) (hb : b < n) (eb : σ.1 (M + 30) (72 + e) = nI b) : fX7_daysTo M (nI e) (nI w) σ = some (nI (dyN n b w), σ) := by
  have hn := h.n8
  have hm := h.m6
  have hX := h.ms.1
  unfold fX7_daysTo dyN
  rw [if_pos hX.vl, hX.cl, hX.2.2.2.1, k72]
  simp (disch := omega) only [vif, nI_clamp]
  rw [eb, if_pos (show ¬ nI n = 0 from ne_nI (b := 0) (by omega) (by omega) (by omega)), nI_add, pk_sub (by omega), irem_nI (by omega) (by omega) (by omega)]
  by_cases q : b ≤ w
  · rw [if_pos q, show w + n - b = (w - b) + n by omega, Nat.add_mod_right, Nat.mod_eq_of_lt (by omega)]
  · rw [if_neg q, Nat.mod_eq_of_lt (by omega)]
theorem ag_days (h : RLp M t t' ℓ n m bo dr lb lf sd kw σ) (p1 p2 : Int32) : Ag (fX6_days 0 p1 p2) (fX7_days M p1 p2) (RLp M t t' ℓ n m bo dr lb lf sd kw) σ := by
  have hn := h.n8
  have hm := h.m6
  show ∃ r σ1 σ2, fX6_days 0 p1 p2 σ = some (r, σ1) ∧ fX7_days M p1 p2 σ1 = some (r, σ2) ∧ RLp M t t' ℓ n m bo dr lb lf sd kw σ2
  unfold fX6_days fX7_days
  rcases arg p1 (n := m) (by omega) with q | ⟨e, he, rfl⟩
  · exact ⟨-1, σ, σ, by rw [c_isS0 h q]; rfl, by rw [m_isS0 h.ms.1 q]; rfl, h⟩
  · rcases arg p2 (n := n) (by omega) with q | ⟨w, hw, rfl⟩
    · refine ⟨-1, σ, σ, ?_, ?_, h⟩
      · rw [c_isS1 h he, Option.bind_some]
        dsimp only
        rw [if_neg one0, c_isH0 h q]; rfl
      · rw [m_isS1 h.ms.1 he, Option.bind_some]
        dsimp only
        rw [if_neg one0, m_isH0 h.ms.1 q]; rfl
    · obtain ⟨b, hb, eb⟩ := h.nbox he
      refine ⟨nI (dyN n b w), σ, σ, ?_, ?_, h⟩
      · rw [c_isS1 h he, Option.bind_some]
        dsimp only
        rw [if_neg one0, c_isH1 h hw, Option.bind_some]
        dsimp only
        rw [if_neg one0]
        simp only [Nat.zero_add]
        rw [c_ways h he hw hb eb]; rfl
      · rw [m_isS1 h.ms.1 he, Option.bind_some]
        dsimp only
        rw [if_neg one0, m_isH1 h.ms.1 hw, Option.bind_some]
        dsimp only
        rw [if_neg one0, m_days h he hw hb eb]; rfl
theorem either (p : Int32) : (p = 0 ∨ p = 1) ∨ (¬ p = 0 ∧ ¬ p = 1 ∧ (p < 0 ∨ 1 < p)) := by
  by_cases h0 : p = 0
  · exact Or.inl (Or.inl h0)
  · by_cases h1 : p = 1
    · exact Or.inl (Or.inr h1)
    · refine Or.inr ⟨h0, h1, ?_⟩
      rcases pk_ix p (n := 2) (by omega) with q | q | ⟨j, hj, q⟩
      · exact Or.inl q
      · right
        have e2 : (2 : Int32) ≤ p := q
        rw [Int32.lt_iff_toInt_lt]
        rw [Int32.le_iff_toInt_le] at e2
        have a1 : (1 : Int32).toInt = 1 := rfl
        have a2 : (2 : Int32).toInt = 2 := rfl
        omega
      · rcases (show j = 0 ∨ j = 1 by omega) with rfl | rfl
        · exact absurd q h0
        · exact absurd q h1
theorem c_ei1 {p : Int32} (h : p = 0 ∨ p = 1) : fX6_isEither p σ = some (1, σ) := by
  unfold fX6_isEither jX6_isEither_9
  rcases h with rfl | rfl
  · rw [if_pos rfl]
  · rw [if_neg one0, if_pos rfl]
theorem c_ei0 {p : Int32} (h0 : ¬ p = 0) (h1 : ¬ p = 1) : fX6_isEither p σ = some (0, σ) := by
  unfold fX6_isEither
  rw [if_neg h0, if_neg h1]
theorem m_ei1 {p : Int32} (h : p = 0 ∨ p = 1) : fX7_in p 0 1 σ = some (1, σ) := by
  rcases h with rfl | rfl
  · exact in_1 (by decide) (by decide)
  · exact in_1 (by decide) (by decide)
theorem ag_house (h : RLp M t t' ℓ n m bo dr lb lf sd kw σ) (p1 p2 : Int32) : Ag (fX6_house 0 p1 p2) (fX7_house M p1 p2) (RLp M t t' ℓ n m bo dr lb lf sd kw) σ := by
  have hn := h.n8
  have hl := h.ms.1.1
  show ∃ r σ1 σ2, fX6_house 0 p1 p2 σ = some (r, σ1) ∧ fX7_house M p1 p2 σ1 = some (r, σ2) ∧ RLp M t t' ℓ n m bo dr lb lf sd kw σ2
  unfold fX6_house fX7_house
  rcases arg p1 (n := n) (by omega) with q | ⟨w, hw, rfl⟩
  · exact ⟨-1, σ, σ, by rw [c_isH0 h q]; rfl, by rw [m_isH0 h.ms.1 q]; rfl, h⟩
  · have c0 := c_isH1 h hw
    have m0 := m_isH1 h.ms.1 hw
    obtain ⟨τ, k1, k2, k3, -, -, -, k4⟩ := m_copies h
    have e18 := k4.ms.1.2.1
    by_cases q0 : p2 = 0
    · refine ⟨σ.1 (M + 30) w, σ, τ, ?_, ?_, k4⟩
      · rw [c0, Option.bind_some]
        dsimp only
        rw [if_neg one0, if_pos q0]
        simp (disch := omega) only [vif, nI_clamp, Nat.zero_add]
        rw [(h.cr.2.1 w hw).1]
      · rw [m0, Option.bind_some]
        dsimp only
        rw [if_neg one0, k2, Option.bind_some, if_pos q0]
        simp (disch := omega) only [vif, nI_clamp]
        rw [k3, nowR_lt (by omega)]
    · skip
      by_cases q1 : p2 = 1
      · refine ⟨σ.1 (M + 30) (8 + w), σ, τ, ?_, ?_, k4⟩
        · rw [c0, Option.bind_some]
          dsimp only
          rw [if_neg one0, if_neg q0, if_pos q1]
          simp (disch := omega) only [vif, nI_clamp, Nat.zero_add]
          rw [(h.cr.2.1 w hw).2.1]
        · rw [m0, Option.bind_some]
          dsimp only
          rw [if_neg one0, k2, Option.bind_some, if_neg q0, if_pos q1, k8]
          simp (disch := omega) only [vif, nI_clamp]
          rw [k3, nowR_lt (by omega)]
      · skip
        by_cases q2 : p2 = 2
        · refine ⟨σ.1 (M + 30) (16 + w), σ, τ, ?_, ?_, k4⟩
          · rw [c0, Option.bind_some]
            dsimp only
            rw [if_neg one0, if_neg q0, if_neg q1, if_pos q2]
            simp (disch := omega) only [vif, nI_clamp, Nat.zero_add]
            rw [(h.cr.2.1 w hw).2.2.1]
          · rw [m0, Option.bind_some]
            dsimp only
            rw [if_neg one0, k2, Option.bind_some, if_neg q0, if_neg q1, if_pos q2, k16]
            simp (disch := omega) only [vif, nI_clamp]
            rw [k3, nowR_lt (by omega)]
        · skip
          by_cases q3 : p2 = 3
          · refine ⟨σ.1 (M + 30) (40 + w), σ, τ, ?_, ?_, k4⟩
            · rw [c0, Option.bind_some]
              dsimp only
              rw [if_neg one0, if_neg q0, if_neg q1, if_neg q2, if_pos q3]
              simp only [Nat.zero_add]
              rw [whereIs_v h.ca h.cr h.rv hw]; rfl
            · rw [m0, Option.bind_some]
              dsimp only
              rw [if_neg one0, k2, Option.bind_some, if_neg q0, if_neg q1, if_neg q2, if_pos q3, k40]
              simp (disch := omega) only [vif, nI_clamp]
              rw [k3, nowR_lt (by omega)]
          · skip
            by_cases q4 : p2 = 4
            · refine ⟨σ.1 (M + 30) (48 + w), σ, τ, ?_, ?_, k4⟩
              · rw [c0, Option.bind_some]
                dsimp only
                rw [if_neg one0, if_neg q0, if_neg q1, if_neg q2, if_neg q3, if_pos q4]
                simp (disch := omega) only [vif, nI_clamp, Nat.zero_add]
                rw [(h.cr.2.1 w hw).2.2.2.2.1]
              · rw [m0, Option.bind_some]
                dsimp only
                rw [if_neg one0, k2, Option.bind_some, if_neg q0, if_neg q1, if_neg q2, if_neg q3, if_pos q4, k48]
                simp (disch := omega) only [vif, nI_clamp]
                rw [k3, nowR_lt (by omega)]
            · skip
              by_cases q5 : p2 = 5
              · refine ⟨σ.1 (M + 30) (32 + w), σ, τ, ?_, ?_, k4⟩
                · rw [c0, Option.bind_some]
                  dsimp only
                  rw [if_neg one0, if_neg q0, if_neg q1, if_neg q2, if_neg q3, if_neg q4, if_pos q5]
                  simp only [Nat.zero_add]
                  rw [kept_v h.ca h.cr h.rv hw]; rfl
                · rw [m0, Option.bind_some]
                  dsimp only
                  rw [if_neg one0, k2, Option.bind_some, if_neg q0, if_neg q1, if_neg q2, if_neg q3, if_neg q4, if_pos q5, k32]
                  simp (disch := omega) only [vif, nI_clamp]
                  rw [k3, nowR_lt (by omega)]
              · skip
                by_cases q6 : p2 = 6
                · refine ⟨nI (b2n (bo w)), σ, τ, ?_, ?_, k4⟩
                  · rw [c0, Option.bind_some]
                    dsimp only
                    rw [if_neg one0, if_neg q0, if_neg q1, if_neg q2, if_neg q3, if_neg q4, if_neg q5, if_pos q6, h.1.2.2.1, h.ct.2.2.2.1, fX6_bit_v _ (by omega), Option.bind_some, decide_eq_true hw, Bool.true_and]
                  · rw [m0, Option.bind_some]
                    dsimp only
                    rw [if_neg one0, k2, Option.bind_some, if_neg q0, if_neg q1, if_neg q2, if_neg q3, if_neg q4, if_neg q5, if_pos q6, e18, k8m, nI_add]
                    simp (disch := omega) only [vif, nI_clamp]
                    rw [k4.ms.2.2.1 w hw]
                    cases bo w <;> rfl
                · skip
                  by_cases q7 : p2 = 7
                  · refine ⟨σ.1 (M + 30) (24 + w), σ, τ, ?_, ?_, k4⟩
                    · rw [c0, Option.bind_some]
                      dsimp only
                      rw [if_neg one0, if_neg q0, if_neg q1, if_neg q2, if_neg q3, if_neg q4, if_neg q5, if_neg q6, if_pos q7]
                      simp (disch := omega) only [vif, nI_clamp, Nat.zero_add]
                      rw [(h.cr.2.1 w hw).2.2.2.1]
                    · rw [m0, Option.bind_some]
                      dsimp only
                      rw [if_neg one0, k2, Option.bind_some, if_neg q0, if_neg q1, if_neg q2, if_neg q3, if_neg q4, if_neg q5, if_neg q6, if_pos q7, k24]
                      simp (disch := omega) only [vif, nI_clamp]
                      rw [k3, nowR_lt (by omega)]
                  · skip
                    by_cases q8 : p2 = 8
                    · refine ⟨σ.1 (M + 30) (56 + w), σ, τ, ?_, ?_, k4⟩
                      · rw [c0, Option.bind_some]
                        dsimp only
                        rw [if_neg one0, if_neg q0, if_neg q1, if_neg q2, if_neg q3, if_neg q4, if_neg q5, if_neg q6, if_neg q7, if_pos q8]
                        simp only [Nat.zero_add]
                        rw [wasLate_v h.ca h.cr h.rv hw]; rfl
                      · rw [m0, Option.bind_some]
                        dsimp only
                        rw [if_neg one0, k2, Option.bind_some, if_neg q0, if_neg q1, if_neg q2, if_neg q3, if_neg q4, if_neg q5, if_neg q6, if_neg q7, if_pos q8, k56]
                        simp (disch := omega) only [vif, nI_clamp]
                        rw [k3, nowR_lt (by omega)]
                    · skip
                      by_cases q9 : p2 = 9
                      · obtain ⟨υ, g1, g2⟩ := c_rentOf h.ca h.crn hw
                        have Fυ := h.sl g1
                        have hυ := h.fx Fυ
                        obtain ⟨τ, k1, k2, k3, -, -, -, k4⟩ := m_copies hυ
                        rw [nowR_fx h.1.1 Fυ] at k3
                        obtain ⟨ω, l1, l2⟩ := rentOf_v k4.ms (w := w) (by omega)
                        rw [k3] at l2
                        have Fω : Fx M τ ω := (l1.mo (fun _ _ => SV_SR)).fx (fun _ _ => SR_SQ) (fun x _ => by rw [row_sv l1])
                        refine ⟨renV n m lb lf (nowR M σ) w, υ, ω, ?_, ?_, k4.fx Fω⟩
                        · rw [c0, Option.bind_some]
                          dsimp only
                          rw [if_neg one0, if_neg q0, if_neg q1, if_neg q2, if_neg q3, if_neg q4, if_neg q5, if_neg q6, if_neg q7, if_neg q8, if_pos q9]
                          simp only [Nat.zero_add]
                          rw [g2]; rfl
                        · rw [m_isH1 hυ.ms.1 hw, Option.bind_some]
                          dsimp only
                          rw [if_neg one0, k2, Option.bind_some, if_neg q0, if_neg q1, if_neg q2, if_neg q3, if_neg q4, if_neg q5, if_neg q6, if_neg q7, if_neg q8, if_pos q9, l2]; rfl
                      · skip
                        refine ⟨-1, σ, τ, ?_, ?_, k4⟩
                        · rw [c0, Option.bind_some]
                          dsimp only
                          rw [if_neg one0, if_neg q0, if_neg q1, if_neg q2, if_neg q3, if_neg q4, if_neg q5, if_neg q6, if_neg q7, if_neg q8, if_neg q9]
                        · rw [m0, Option.bind_some]
                          dsimp only
                          rw [if_neg one0, k2, Option.bind_some, if_neg q0, if_neg q1, if_neg q2, if_neg q3, if_neg q4, if_neg q5, if_neg q6, if_neg q7, if_neg q8, if_neg q9]
end METH
