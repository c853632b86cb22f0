section STAY
variable {M a b t t' ℓ n m L : Nat} {bo : Nat → Bool} {dr : Nat → Int32} {lb : Nat → Br} {lf : Nat → Rp} {sd : Int32} {kw : Nat → Int64} {σ τ υ : Sg} {ρ ρ' : Nat → Int32}
def tb (s : Nat) : Nat → Bool := fun i => s.testBit i
theorem mk8_tb {s : Nat} (hs : s < 256) : mk8 (tb s) = s := by
  have h : ∀ s : Fin 256, mk8 (tb s.1) = s.1 := by decide +kernel
  exact h ⟨s, hs⟩
theorem tb_hi {s i : Nat} (hs : s < 2 ^ n) (hi : n ≤ i) : tb s i = false := Nat.testBit_lt_two_pow (Nat.lt_of_lt_of_le hs (Nat.pow_le_pow_right (by omega) hi))
theorem pow8 (hn : n ≤ 8) : 2 ^ n ≤ 256 := by
  rcases (show n = 0 ∨ n = 1 ∨ n = 2 ∨ n = 3 ∨ n = 4 ∨ n = 5 ∨ n = 6 ∨ n = 7 ∨ n = 8 by omega) with rfl | rfl | rfl | rfl | rfl | rfl | rfl | rfl | rfl <;> decide
theorem sh8 (hn : n ≤ 8) : (1 : Int32) <<< (nI n &&& 31) = nI (2 ^ n) := by
  rcases (show n = 0 ∨ n = 1 ∨ n = 2 ∨ n = 3 ∨ n = 4 ∨ n = 5 ∨ n = 6 ∨ n = 7 ∨ n = 8 by omega) with rfl | rfl | rfl | rfl | rfl | rfl | rfl | rfl | rfl <;> decide
/-- so many of the first e are kept in besides -/
def keR (e s : Nat) (ρ : Nat → Int32) : Nat → Int32 := fun x => if 32 ≤ x ∧ x < 32 + e ∧ tb s (x - 32) = true then 1 else ρ x
theorem keR_o {e s x : Nat} (h : ¬ (32 ≤ x ∧ x < 32 + e)) : keR e s ρ x = ρ x := if_neg (fun q => h ⟨q.1, q.2.1⟩)
theorem rv_keR {s : Nat} (h : RV n m ρ) (hn : n ≤ 8) (hm : m ≤ 6) : RV n m (keR n s ρ) := by
  obtain ⟨h1, h2, h3, h4, h5, h6⟩ := h
  refine ⟨fun x hx => ⟨?_, ?_, ?_⟩, fun x hx => ?_, fun x hx => ?_, ?_, ?_, fun x hx => ?_⟩
  · rw [keR_o (by omega)]; exact (h1 x hx).1
  · unfold keR
    split
    · exact Or.inr rfl
    · exact (h1 x hx).2.1
  · rw [keR_o (by omega)]; exact (h1 x hx).2.2
  · rw [keR_o (by omega)]; exact h2 x hx
  · rw [keR_o (by omega)]; exact h3 x hx
  · rw [keR_o (by omega)]; exact h4
  · rw [keR_o (by omega)]; exact h5
  · rw [keR_o (by omega)]; exact h6 x hx
theorem kt_keR {s : Nat} (hs : s < 2 ^ n) (hn : n ≤ 8) : nI (mk8 (ktF n ρ 32)) ||| nI s = nI (mk8 (ktF n (keR n s ρ) 32)) := by
  have h8 := pow8 hn
  conv => lhs; rw [← mk8_tb (s := s) (by omega)]
  rw [mk8_or]
  refine congrArg nI (mk8_c fun j hj => ?_)
  by_cases q : j < n
  · rw [ktF_t q, ktF_t q]
    unfold keR
    rw [show 32 + j - 32 = j by omega]
    cases hb : tb s j
    · rw [Bool.or_false, if_neg (fun z => by cases z.2.2)]
    · rw [Bool.or_true, if_pos ⟨by omega, by omega, rfl⟩]; rfl
  · rw [tb_hi hs (by omega)]
    unfold ktF
    simp [q]
/-- with them kept in nobody ever stands outside -/
def enB (n m : Nat) (bo : Nat → Bool) (dr : Nat → Int32) (lb : Nat → Br) (lf : Nat → Rp) (sd : Int32) (ρ : Nat → Int32) (s : Nat) : Bool := (wFs (oH n (hourS n m bo dr lb lf sd 1 (-1)) (keR n s ρ)) 72).isNone
theorem m_enough (h : RLp M t t' ℓ n m bo dr lb lf sd kw σ) {s : Nat} (hs : s < 2 ^ n) : ∃ τ, fX7_isEnough M (nI s) σ = some (nI (b2n (enB n m bo dr lb lf sd (nowR M σ) s)), τ) ∧ Fx M σ τ := by
  have hn := h.n8
  have hm := h.m6
  have hM := h.1.1
  have h8 := pow8 hn
  obtain ⟨σ1, a1, a2, a3, a4, a5, a6, a7⟩ := m_still h
  have hh := lp_inv (f := fun st : Int32 × Sg => bX7_isEnough_6 M (nI s) st.1 st.2) n (fun i τ => Fs (fun k j => k = M + 31 ∧ j < 88) σ1 τ ∧ τ.1 (M + 31) = keR i s (nowR M σ)) (fun i τ hi hI => by
      obtain ⟨hF, hr⟩ := hI
      have hX : MX τ M ℓ n m := a7.ms.1.fs hF (by omega) (by omega) (by omega)
      have st : bX7_isEnough_6 M (nI s) (nI i) τ = if nI (b2n (tb s i)) = 1 then some (Sum.inl (nI (i + 1), wI τ (M + 31) (32 + i) 1)) else some (Sum.inl (nI (i + 1), τ)) := by
        unfold bX7_isEnough_6 jX7_isEnough_38
        rw [if_pos hX.vl, hX.cl, hX.2.2.2.1, if_neg (le_nI (by omega) (by omega) hi), k32]
        simp (disch := omega) only [vif, nI_clamp]
        conv => lhs; rw [← mk8_tb (s := s) (by omega)]
        rw [mk8_shr _ (by omega), nI_s]
      cases hb : tb s i
      · refine ⟨τ, ?_, hF, ?_⟩
        · show bX7_isEnough_6 M (nI s) (nI i) τ = _
          rw [st, hb, if_neg (by decide)]
        · rw [hr]
          funext x
          unfold keR
          by_cases q : 32 ≤ x ∧ x < 32 + i ∧ tb s (x - 32) = true
          · rw [if_pos q, if_pos ⟨q.1, by omega, q.2.2⟩]
          · rw [if_neg q, if_neg]
            rintro ⟨z1, z2, z3⟩
            by_cases y : x = 32 + i
            · rw [y, show 32 + i - 32 = i by omega, hb] at z3; cases z3
            · exact q ⟨z1, by omega, z3⟩
      · refine ⟨wI τ (M + 31) (32 + i) 1, ?_, hF.wI ⟨rfl, by omega⟩, ?_⟩
        · show bX7_isEnough_6 M (nI s) (nI i) τ = _
          rw [st, hb, if_pos (by decide)]
        · rw [wI_k, hr]
          funext x
          rw [upd_a]
          unfold keR
          by_cases y : x = 32 + i
          · rw [if_pos y, if_pos ⟨by omega, by omega, by rw [y, show 32 + i - 32 = i by omega]; exact hb⟩]
          · rw [if_neg y]
            by_cases q : 32 ≤ x ∧ x < 32 + i ∧ tb s (x - 32) = true
            · rw [if_pos q, if_pos ⟨q.1, by omega, q.2.2⟩]
            · rw [if_neg q, if_neg (fun z => q ⟨z.1, by omega, z.2.2⟩)]) (fun τ hI => by
      have hX : MX τ M ℓ n m := a7.ms.1.fs hI.1 (by omega) (by omega) (by omega)
      show bX7_isEnough_6 M (nI s) (nI n) τ = _
      unfold bX7_isEnough_6
      rw [if_pos hX.vl, hX.cl, hX.2.2.2.1, if_pos (Int32.le_refl _)]) (σ := σ1) ⟨Fs.rf, by rw [a3]; funext x; unfold keR; rw [if_neg (by omega)]⟩
  obtain ⟨σ2, b1, b2, b3⟩ := hh
  have f2 : Fx M σ1 σ2 := (b2.mo (fun k j q => by unfold SX; omega)).fc
  have x2 := a7.fx f2
  have e49 : σ2.1 M 49 = sd := (b2.1 _ _ (by omega)).trans a4
  have e50 : σ2.1 M 50 = 1 := (b2.1 _ _ (by omega)).trans a5
  have e51 : σ2.1 M 51 = -1 := (b2.1 _ _ (by omega)).trans a6
  generalize hR : keR n s (nowR M σ) = R at b3
  have hRv : RV n m R := by rw [← hR]; exact rv_keR h.rvn hn hm
  generalize hH : hourS n m bo dr lb lf sd 1 (-1) = H
  have loop : ∀ (d i : Nat) (τ : Sg), i + d = 72 → Fs (SR M) σ2 τ → τ.1 (M + 31) = hIt H i R → RV n m (hIt H i R) → wFs (oH n H R) i = none → ∃ υ o, Fs (SR M) σ2 υ ∧ (∃ j, υ.1 (M + 31) = hIt H j R) ∧ lp (fun st : Int32 × Sg => bX7_isEnough_46 M (nI s) st.1 st.2) (nI i, τ) = some o ∧ ((o = Sum.inr υ ∧ wFs (oH n H R) 72 = none) ∨ (o = Sum.inl υ ∧ (wFs (oH n H R) 72).isSome = true)) := by
    intro d
    induction d with
    | zero =>
      intro i τ hi hF hr hv hw
      have : i = 72 := by omega
      subst this
      refine ⟨τ, Sum.inr τ, hF, ⟨_, hr⟩, lp_r ?_, Or.inl ⟨rfl, hw⟩⟩
      show bX7_isEnough_46 M (nI s) (nI 72) τ = _
      unfold bX7_isEnough_46
      rw [if_pos (by decide)]
    | succ d ih =>
      intro i τ hi hF hr hv hw
      have k49 : ∀ j, 49 ≤ j → j ≤ 51 → τ.1 M j = σ2.1 M j := fun j j1 j2 => hF.1 _ _ (SR_r (by omega) (by omega) (by omega) (by omega) (by omega))
      have msτ : MS τ M ℓ n m bo dr lb lf := x2.ms.sq (hF.mo (fun _ _ => SR_SQ))
      obtain ⟨υ, g1, g2, g3⟩ := hourGoes_v msτ (by rw [hr]; exact hv.2.1)
      rw [k49 49 (by omega) (by omega), k49 50 (by omega) (by omega), k49 51 (by omega) (by omega), e49, e50, e51, hH, hr] at g3
      have g3 : υ.1 (M + 31) = hIt H (i + 1) R := g3
      have hF2 := hF.tr g1
      have msυ : MS υ M ℓ n m bo dr lb lf := x2.ms.sq (hF2.mo (fun _ _ => SR_SQ))
      have m0 : nI (mk8 (oH n H R i)) = 0 ↔ mk8 (oH n H R i) = 0 := by
        have := mk8_lt (oH n H R i)
        exact nI_eq (b := 0) (by omega) (by omega)
      have en : wFs (oH n H R) (i + 1) = if mk8 (oH n H R i) = 0 then none else some i := by
        rw [wFs, hw]; rfl
      have st : bX7_isEnough_46 M (nI s) (nI i) τ = if nI (mk8 (oH n H R i)) = 0 then some (Sum.inl (nI (i + 1), υ)) else some (Sum.inr (Sum.inl υ)) := by
        unfold bX7_isEnough_46
        rw [if_neg (show ¬ (72 : Int32) ≤ nI i from le_nI (a := 72) (by omega) (by omega) (by omega)), g2, Option.bind_some, soBits_v msυ.1 2, Option.bind_some, g3, nI_s]
        rfl
      by_cases q : mk8 (oH n H R i) = 0
      · rw [if_pos q] at en
        rw [if_pos (m0.mpr q)] at st
        obtain ⟨ω, o, o1, o2, o3, o4⟩ := ih (i + 1) υ (by omega) hF2 g3 (by rw [← hH] at hv ⊢; exact rv_hourS sd 1 (-1) hn hm hv) en
        exact ⟨ω, o, o1, o2, (lp_l st).trans o3, o4⟩
      · rw [if_neg q] at en
        rw [if_neg (fun z => q (m0.mp z))] at st
        refine ⟨υ, Sum.inl υ, hF2, ⟨_, g3⟩, lp_r st, Or.inr ⟨rfl, ?_⟩⟩
        rw [wFs_st _ en 72 (by omega)]; rfl
  obtain ⟨υ, o, o1, ⟨jj, o2⟩, o3, o4⟩ := loop 72 0 σ2 (by omega) Fs.rf b3 hRv rfl
  have tl : ∀ x, 88 ≤ x → ∀ ρ, H ρ x = ρ x := fun x hx ρ => by rw [← hH]; exact hourS_t hx hn hm
  have f3 : Fx M σ2 υ := o1.fx (fun _ _ => SR_SQ) (fun x hx => by rw [o2, hIt_t (tl x hx), b3])
  refine ⟨υ, ?_, (a1.tr f2).tr f3⟩
  unfold fX7_isEnough enB
  rw [hR, hH, a2, Option.bind_some, show (0 : Int32) = nI 0 from rfl, b1, Option.bind_some, o3, Option.bind_some]
  rcases o4 with ⟨rfl, q⟩ | ⟨rfl, q⟩
  · rw [q]; rfl
  · cases hw : wFs (oH n H R) 72 with
    | none => rw [hw] at q; cases q
    | some j => rfl
theorem c_enough (h : RLp M t t' ℓ n m bo dr lb lf sd kw σ) {s : Nat} (hs : s < 2 ^ n) : ∃ τ υ, fX6_startTrial 0 σ = some τ ∧ fX5_firstHour 49 40 72 (wI τ 40 4 (τ.1 40 4 ||| nI s)) = some (fsI (wFs (oH n (hourS n m bo dr lb lf sd 1 (-1)) (keR n s (nowR M σ))) 72), υ) ∧ Fx M σ υ := by
  have hn := h.n8
  have hm := h.m6
  have ht := h.t2
  obtain ⟨τ, a1, a2, a3⟩ := c_start' h
  have hT : TR (wI τ 40 4 (τ.1 40 4 ||| nI s)) t n m bo dr lb lf sd 1 (-1) (keR n s (nowR M σ)) := by
    refine a3.md (S := fun k j => k = 40 ∧ j = 4) (Fs.rf.wI ⟨rfl, rfl⟩) (fun k j q => by omega) (a3.2.1.wK hn hm (fun x hx q => keR_o (by omega)) ?_) (rv_keR a3.2.2.1 hn hm) (keR_o (by omega))
    rw [a3.2.1.1.2.2.2.1, kt_keR hs hn]
  obtain ⟨υ, b1, b2⟩ := firstHour_v (w := 49) hT.1 hT.2.1 hT.2.2.1 hT.2.2.2 (k := 72) (by omega)
  have b2 : fX5_firstHour 49 40 72 (wI τ 40 4 (τ.1 40 4 ||| nI s)) = _ := b2
  exact ⟨τ, υ, a1, b2, ((a2.mo (fun k j q => SY_SX ht q)).wI (by unfold SX; omega)).tr (b1.fy (fun k j q => by unfold SW SC at q; omega))⟩
end STAY
