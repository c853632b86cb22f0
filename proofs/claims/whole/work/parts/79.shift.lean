section SHIFT
variable {M a b t t' ℓ n m L : Nat} {bo : Nat → Bool} {dr : Nat → Int32} {lb : Nat → Br} {lf : Nat → Rp} {sd : Int32} {kw : Nat → Int64} {σ τ υ : Sg} {ρ ρ' : Nat → Int32}
/-- how far two hours lie apart, round the clock -/
def wyI (y : Int32) (c : Nat) : Int32 := let d := if y ≤ nI c then nI c - y else y - nI c; if d ≤ 12 then d else 24 - d
theorem wy_c {y : Int32} (hy : 0 ≤ y) {c : Nat} (hc : c < 24) : imin (iabs (nI c - y)) (24 - iabs (nI c - y)) = wyI y c := by
  obtain ⟨v, hv, rfl⟩ : ∃ v, v < 2 ^ 31 ∧ y = nI v := by
    have h1 := y.toInt_lt
    have h0 : 0 ≤ y.toInt := by have := Int32.le_iff_toInt_le.mp hy; simpa using this
    refine ⟨y.toInt.toNat, by omega, ?_⟩
    apply Int32.toInt_inj.mp
    rw [nI_toInt (by omega)]
    omega
  unfold wyI
  dsimp only
  by_cases q : v ≤ c
  · rw [if_pos (nI_le q (by omega)), show nI c - nI v = nI (c - v) from pk_sub q]
    have ea : iabs (nI (c - v)) = nI (c - v) := by
      unfold iabs
      rw [if_pos (nI_n1 (by omega))]
    rw [ea]
    unfold imin
    rw [show (24 : Int32) - nI (c - v) = nI (24 - (c - v)) from pk_sub (a := 24) (by omega)]
    by_cases z : c - v ≤ 12
    · rw [if_neg (Int32.not_lt.mpr (nI_le (by omega) (by omega))), if_pos (show nI (c - v) ≤ 12 from nI_le (b := 12) z (by omega))]
    · rw [if_pos (Int32.not_le.mp (le_nI (by omega) (by omega) (by omega))), if_neg (show ¬ nI (c - v) ≤ 12 from le_nI (b := 12) (by omega) (by omega) (by omega))]
  · rw [if_neg (le_nI (by omega) (by omega) (by omega)), show nI v - nI c = nI (v - c) from pk_sub (by omega)]
    have en : nI c - nI v = -(nI (v - c)) := by
      rw [show nI (v - c) = nI v - nI c from (pk_sub (by omega)).symm, Int32.neg_sub]
    have ea : iabs (nI c - nI v) = nI (v - c) := by
      unfold iabs
      rw [en]
      have lt : -(nI (v - c)) < 0 := by
        rw [Int32.lt_iff_toInt_lt, Int32.toInt_neg, nI_toInt (by omega)]
        have : (0 : Int32).toInt = 0 := rfl
        rw [this]
        have e : Int.bmod (-((v - c : Nat) : Int)) (2 ^ 32) = -((v - c : Nat) : Int) := by
          apply Int.bmod_eq_of_le <;> omega
        rw [e]; omega
      rw [if_neg (Int32.not_le.mpr lt), Int32.zero_sub, Int32.neg_neg]
    rw [ea]
    unfold imin
    by_cases z : v - c ≤ 12
    · rw [if_pos (show nI (v - c) ≤ 12 from nI_le (b := 12) z (by omega)), show (24 : Int32) - nI (v - c) = nI (24 - (v - c)) from pk_sub (a := 24) (by omega), if_neg (Int32.not_lt.mpr (nI_le (by omega) (by omega)))]
    · rw [if_neg (show ¬ nI (v - c) ≤ 12 from le_nI (b := 12) (by omega) (by omega) (by omega)), if_pos]
      rw [Int32.lt_iff_toInt_lt, Int32.toInt_sub, nI_toInt (by omega), show (24 : Int32).toInt = 24 from rfl]
      have e : Int.bmod (24 - ((v - c : Nat) : Int)) (2 ^ 32) = 24 - ((v - c : Nat) : Int) := by
        apply Int.bmod_eq_of_le <;> omega
      rw [e]; omega
theorem wy_m (y : Int32) (c : Nat) : fX7_roundOff (nI c) y σ = some (wyI y c, σ) := by
  unfold fX7_roundOff jX7_roundOff_14 wyI
  dsimp only
  by_cases q : y ≤ nI c
  · rw [if_pos q, if_pos q]; split <;> rfl
  · rw [if_neg q, if_neg q]; split <;> rfl
/-- the best hour to come, of the first i -/
def shS (al : Nat → Nat) (y : Int32) : Nat → Nat
  | 0 => 0
  | i + 1 => if i = 0 then 0 else if al i < al (shS al y i) then i else if al i = al (shS al y i) ∧ wyI y i < wyI y (shS al y i) then i else shS al y i
theorem shS_le (al : Nat → Nat) (y : Int32) : ∀ i, shS al y (i + 1) ≤ i
  | 0 => Nat.le_refl _
  | i + 1 => by
    have := shS_le al y i
    rw [show shS al y (i + 1 + 1) = if i + 1 = 0 then 0 else if al (i + 1) < al (shS al y (i + 1)) then i + 1 else if al (i + 1) = al (shS al y (i + 1)) ∧ wyI y (i + 1) < wyI y (shS al y (i + 1)) then i + 1 else shS al y (i + 1) from rfl]
    split
    · omega
    · split
      · omega
      · split <;> omega
theorem ag_shift (h : RLp M t t' ℓ n m bo dr lb lf sd kw σ) (p1 p2 : Int32) : Ag (fX6_shift 0 p1 p2) (fX7_shift M p1 p2) (RLp M t t' ℓ n m bo dr lb lf sd kw) σ := by
  have hn := h.n8
  have hm := h.m6
  have hM := h.1.1
  have ht := h.t2
  show ∃ r σ1 σ2, fX6_shift 0 p1 p2 σ = some (r, σ1) ∧ fX7_shift M p1 p2 σ1 = some (r, σ2) ∧ RLp M t t' ℓ n m bo dr lb lf sd kw σ2
  unfold fX6_shift fX7_shift
  rcases arg p1 (n := n) (by omega) with q | ⟨w, hw, rfl⟩
  · exact ⟨-1, σ, σ, by rw [c_isH0 h q]; rfl, by rw [m_isH0 h.ms.1 q]; rfl, h⟩
  · rw [c_isH1 h hw, Option.bind_some]
    dsimp only
    rw [if_neg one0]
    rcases either p2 with hp | ⟨h0, h1, hp⟩
    · rw [c_ei1 hp, Option.bind_some]
      dsimp only
      rw [if_neg one0]
      have hy : 0 ≤ σ.1 (M + 30) (8 + w) := h.rv.2.2.2.2.2 w hw
      generalize hY : σ.1 (M + 30) (8 + w) = y at hy
      have hv : ∀ c, c < 24 → RV n m (upd (nowR M σ) (8 + w) (nI c)) := fun c hc => h.rvn.u8 hn hm hw (nI_n1 (by omega))
      generalize hal : (fun c => wAl (oH n (hourS n m bo dr lb lf sd 1 (-1)) (upd (nowR M σ) (8 + w) (nI c))) 72) = al
      have al_le : ∀ c, al c ≤ 576 := fun c => by rw [← hal]; exact wAl_le _ 72
      -- one step of the class
      have cst : ∀ (i : Nat) (x3 x4 x5 : Int32) (τ : Sg), i < 24 → Fx M σ τ → ∃ υ, Fx M σ υ ∧ bX6_shift_30 0 (nI w) p2 x3 x4 x5 (nI i) τ = if nI (al i) < x4 then some (Sum.inl (nI i, nI (al i), wyI y i, nI (i + 1), υ)) else if nI (al i) = x4 then (if x5 ≤ wyI y i then some (Sum.inl (x3, x4, x5, nI (i + 1), υ)) else some (Sum.inl (nI i, nI (al i), wyI y i, nI (i + 1), υ))) else some (Sum.inl (x3, x4, x5, nI (i + 1), υ)) := by
        intro i x3 x4 x5 τ hi hF
        have hτ := h.fx hF
        obtain ⟨υ1, υ2, υ3, c1, c2, c3, c4, c5, c6, c7⟩ := trialC hτ (f := fun τ => some (wI τ 42 w (nI i))) (lo := -1) (ρ' := upd (nowR M σ) (8 + w) (nI i)) (fun τ hr hT => by
          rw [nowR_fx hM hF] at hT
          exact ⟨_, rfl, Fc.rf.wI (by unfold SY; omega), hT.md (S := fun k _ => k = 42) (Fs.rf.wI rfl) (fun k j q => by omega) (hT.2.1.wC hn hm hw) (hv i hi) (upd_n (by omega))⟩) (k := 72) (by omega)
        refine ⟨υ3, hF.tr c5, ?_⟩
        have s2 : υ2 = wI υ1 (40 + 2) w (nI i) := by injection c2 with c2; exact c2.symm
        rw [s2] at c3
        have c3 : fX5_follow 49 40 72 (wI υ1 (40 + 2) w (nI i)) = some υ3 := c3
        have e33 : υ3.1 (31 + 2) w = y := by rw [(c6.cr.2.1 w hw).2.1, (hF.tr c5).1 _ _ (by unfold SX; omega), hY]
        have ea : υ3.1 49 1 = nI (al i) := by rw [c7.2.1, ← hal]
        unfold bX6_shift_30 jX6_shift_125 jX6_shift_141
        rw [if_neg (show ¬ (24 : Int32) ≤ nI i from le_nI (a := 24) (by omega) (by omega) hi), c1, Option.bind_some]
        simp (disch := omega) only [vif, nI_clamp, Nat.zero_add]
        rw [c3, Option.bind_some, ea, e33, wy_c hy hi, nI_s]
      have mst : ∀ (i : Nat) (x3 x4 : Int32) (τ : Sg) (b : Nat), i < 24 → b < 24 → (x3 < 0 ∨ x3 = nI b) → Fx M σ τ → ∃ υ, Fx M σ υ ∧ bX7_shift_27 M (nI w) p2 x3 x4 (nI i) τ = if x3 < 0 then some (Sum.inl (nI i, nI (al i), nI (i + 1), υ)) else if x4 < nI (al i) then some (Sum.inl (x3, x4, nI (i + 1), υ)) else if nI (al i) = x4 then (if wyI y i < wyI y b then some (Sum.inl (nI i, nI (al i), nI (i + 1), υ)) else some (Sum.inl (x3, x4, nI (i + 1), υ))) else some (Sum.inl (nI i, nI (al i), nI (i + 1), υ)) := by
        intro i x3 x4 τ b hi hb hx3 hF
        have hτ := h.fx hF
        obtain ⟨y1, y2, y3, e1, e2, e3, e4, e5, e6, e7⟩ := trialM hτ (f := fun τ => some (wI τ (M + 31) (8 + w) (nI i))) (lo := -1) (ρ' := upd (nowR M σ) (8 + w) (nI i)) (fun τ hr r1 r2 r3 r4 => by
          refine ⟨_, rfl, Fc.rf.wI (by unfold SZ SX; omega), ?_, ?_, ?_, ?_⟩
          · rw [wI_k, r1, nowR_fx hM hF]
          · rw [wI_n (by omega)]; exact r2
          · rw [wI_n (by omega)]; exact r3
          · rw [wI_n (by omega)]; exact r4) (hv i hi) (k := 72) (by omega)
        refine ⟨y3, hF.tr e5, ?_⟩
        have t2 : y2 = wI y1 (M + 31) (8 + w) (nI i) := by injection e2 with e2; exact e2.symm
        rw [t2] at e3
        have e3 : fX7_standsFor M 72 (wI y1 (M + 31) (8 + w) (nI i)) = some y3 := e3
        have eY : y3.1 (M + 30) (8 + w) = y := by rw [(hF.tr e5).1 _ _ (by unfold SX; omega), hY]
        have ea : y3.1 M 56 = nI (al i) := by rw [e7.2.1, ← hal]
        unfold bX7_shift_27 jX7_shift_110 jX7_shift_119
        rw [if_neg (show ¬ (24 : Int32) ≤ nI i from le_nI (a := 24) (by omega) (by omega) hi), e1, Option.bind_some, k8]
        simp (disch := omega) only [vif, nI_clamp]
        rw [e3, Option.bind_some, ea, nI_s, eY, wy_m, Option.bind_some]
        dsimp only
        rw [eY]
        rcases hx3 with q | q
        · rw [if_pos q, if_pos q]
        · rw [q, wy_m, Option.bind_some]
          dsimp only
          rw [ea]
      have ci : ∀ d i : Nat, ∀ τ : Sg, 1 ≤ i → i + d = 24 → Fx M σ τ → ∃ υ, Fx M σ υ ∧ lp (fun st : Int32 × Int32 × Int32 × Int32 × Sg => bX6_shift_30 0 (nI w) p2 st.1 st.2.1 st.2.2.1 st.2.2.2.1 st.2.2.2.2) (nI (shS al y i), nI (al (shS al y i)), wyI y (shS al y i), nI i, τ) = some (nI (shS al y 24), nI (al (shS al y 24)), υ) := by
        intro d
        induction d with
        | zero =>
          intro i τ _ hi hF
          have : i = 24 := by omega
          subst this
          refine ⟨τ, hF, lp_r ?_⟩
          show bX6_shift_30 0 (nI w) p2 _ _ _ (nI 24) τ = _
          unfold bX6_shift_30
          rw [if_pos (by decide)]
        | succ d ih =>
          intro i τ h1 hi hF
          obtain ⟨υ, u1, u2⟩ := cst i (nI (shS al y i)) (nI (al (shS al y i))) (wyI y (shS al y i)) τ (by omega) hF
          obtain ⟨ω, o1, o2⟩ := ih (i + 1) υ (by omega) (by omega) u1
          refine ⟨ω, o1, ?_⟩
          have a1 := al_le i
          have a2 := al_le (shS al y i)
          rw [← o2]
          refine lp_l ?_
          show bX6_shift_30 0 (nI w) p2 (nI (shS al y i)) (nI (al (shS al y i))) (wyI y (shS al y i)) (nI i) τ = _
          rw [u2, show shS al y (i + 1) = if i = 0 then 0 else if al i < al (shS al y i) then i else if al i = al (shS al y i) ∧ wyI y i < wyI y (shS al y i) then i else shS al y i from rfl, if_neg (show ¬ i = 0 by omega)]
          by_cases z1 : al i < al (shS al y i)
          · rw [if_pos (Int32.not_le.mp (le_nI (by omega) (by omega) z1)), if_pos z1]
          · rw [if_neg (Int32.not_lt.mpr (nI_le (by omega) (by omega))), if_neg z1]
            by_cases z2 : al i = al (shS al y i)
            · rw [if_pos (by rw [z2])]
              by_cases z3 : wyI y i < wyI y (shS al y i)
              · rw [if_neg (Int32.not_le.mpr z3), if_pos ⟨z2, z3⟩]
              · rw [if_pos (Int32.not_lt.mp z3), if_neg (fun z => z3 z.2)]
            · rw [if_neg (ne_nI (by omega) (by omega) z2), if_neg (fun z => z2 z.1)]
      have mi : ∀ d i : Nat, ∀ τ : Sg, 1 ≤ i → i + d = 24 → Fx M σ τ → ∃ υ, Fx M σ υ ∧ lp (fun st : Int32 × Int32 × Int32 × Sg => bX7_shift_27 M (nI w) p2 st.1 st.2.1 st.2.2.1 st.2.2.2) (nI (shS al y i), nI (al (shS al y i)), nI i, τ) = some (nI (shS al y 24), nI (al (shS al y 24)), υ) := by
        intro d
        induction d with
        | zero =>
          intro i τ _ hi hF
          have : i = 24 := by omega
          subst this
          refine ⟨τ, hF, lp_r ?_⟩
          show bX7_shift_27 M (nI w) p2 _ _ (nI 24) τ = _
          unfold bX7_shift_27
          rw [if_pos (by decide)]
        | succ d ih =>
          intro i τ h1 hi hF
          have sl := shS_le al y (i - 1)
          rw [show i - 1 + 1 = i by omega] at sl
          obtain ⟨υ, u1, u2⟩ := mst i (nI (shS al y i)) (nI (al (shS al y i))) τ (shS al y i) (by omega) (by omega) (Or.inr rfl) hF
          obtain ⟨ω, o1, o2⟩ := ih (i + 1) υ (by omega) (by omega) u1
          refine ⟨ω, o1, ?_⟩
          have a1 := al_le i
          have a2 := al_le (shS al y i)
          rw [← o2]
          refine lp_l ?_
          show bX7_shift_27 M (nI w) p2 (nI (shS al y i)) (nI (al (shS al y i))) (nI i) τ = _
          rw [u2, if_neg (Int32.not_lt.mpr (nI_n1 (by omega))), show shS al y (i + 1) = if i = 0 then 0 else if al i < al (shS al y i) then i else if al i = al (shS al y i) ∧ wyI y i < wyI y (shS al y i) then i else shS al y i from rfl, if_neg (show ¬ i = 0 by omega)]
          by_cases z1 : al i < al (shS al y i)
          · rw [if_neg (Int32.not_lt.mpr (nI_le (by omega) (by omega))), if_neg (ne_nI (by omega) (by omega) (by omega)), if_pos z1]
          · rw [if_neg z1]
            by_cases z2 : al i = al (shS al y i)
            · rw [if_neg (Int32.not_lt.mpr (by rw [z2]; exact Int32.le_refl _)), if_pos (by rw [z2])]
              by_cases z3 : wyI y i < wyI y (shS al y i)
              · rw [if_pos z3, if_pos ⟨z2, z3⟩]
              · rw [if_neg z3, if_neg (fun z => z3 z.2)]
            · rw [if_pos (Int32.not_le.mp (le_nI (by omega) (by omega) (by omega))), if_neg (fun z => z2 z.1)]
      obtain ⟨τ1, f1, f2⟩ := cst 0 0 1000000 24 σ (by omega) Fc.rf
      rw [if_pos (Int32.not_le.mp (show ¬ (1000000 : Int32) ≤ nI (al 0) from le_nI (a := 1000000) (by omega) (by have := al_le 0; omega) (by have := al_le 0; omega)))] at f2
      obtain ⟨τ2, f3, f4⟩ := ci 23 1 τ1 (by omega) (by omega) f1
      have cl : lp (fun st : Int32 × Int32 × Int32 × Int32 × Sg => bX6_shift_30 0 (nI w) p2 st.1 st.2.1 st.2.2.1 st.2.2.2.1 st.2.2.2.2) (0, 1000000, 24, 0, σ) = some (nI (shS al y 24), nI (al (shS al y 24)), τ2) := (lp_l f2).trans f4
      obtain ⟨υ1, g1, g2⟩ := mst 0 (-1) 0 τ2 0 (by omega) (by omega) (Or.inl (by decide)) f3
      rw [if_pos (by decide)] at g2
      obtain ⟨υ2, g3, g4⟩ := mi 23 1 υ1 (by omega) (by omega) g1
      have ml : lp (fun st : Int32 × Int32 × Int32 × Sg => bX7_shift_27 M (nI w) p2 st.1 st.2.1 st.2.2.1 st.2.2.2) (-1, 0, 0, τ2) = some (nI (shS al y 24), nI (al (shS al y 24)), υ2) := (lp_l g2).trans g4
      refine ⟨if p2 = 0 then nI (shS al y 24) else nI (al (shS al y 24)), τ2, υ2, ?_, ?_, h.fx g3⟩
      · rw [cl, Option.bind_some]
        dsimp only
        by_cases z : p2 = 0
        · rw [if_pos z, if_pos z]
        · rw [if_neg z, if_neg z]
      · rw [m_isH1 (h.fx f3).ms.1 hw, Option.bind_some]
        dsimp only
        rw [if_neg one0, m_ei1 hp, Option.bind_some]
        dsimp only
        rw [if_neg one0, ml, Option.bind_some]
        dsimp only
        by_cases z : p2 = 0
        · rw [if_pos z, if_pos z]
        · rw [if_neg z, if_neg z]
    · refine ⟨-1, σ, σ, by rw [c_ei0 h0 h1]; rfl, ?_, h⟩
      rw [m_isH1 h.ms.1 hw, Option.bind_some]
      dsimp only
      rw [if_neg one0, in_0 hp]; rfl
end SHIFT
