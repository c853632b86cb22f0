section ASK2
variable {M a b t t' ℓ n m L : Nat} {bo : Nat → Bool} {dr : Nat → Int32} {lb : Nat → Br} {lf : Nat → Rp} {sd : Int32} {kw : Nat → Int64} {σ τ υ : Sg} {ρ ρ' : Nat → Int32}
/-- at worst so many are left -/
def woN (lft : Nat → Bool) (ev : Nat → Nat → Bool) (n x : Nat) : Nat := max (csN lft ev x n) (cnt8 lft - csN lft ev x n)
theorem c_best (h : RLp M t t' ℓ n m bo dr lb lf sd kw σ) {lft : Nat → Bool} {ev : Nat → Nat → Bool} (h54 : ∀ w, w < n → σ.1 54 w = nI (mk8 (ev w))) (hl : ∀ j, n ≤ j → lft j = false) (h0 : 0 < n) : fX6_bestToAsk 0 (nI (mk8 lft)) σ = some (nI (baS (woN lft ev n) n), σ) := by
  have hn := h.n8
  have c8 := cnt8_le lft
  have cs : ∀ x, csN lft ev x n ≤ cnt8 lft := fun x => csN_cnt hn hl
  have st : ∀ (i : Nat) (x2 x3 : Int32), i < n → bX6_bestToAsk_14 0 (nI (mk8 lft)) (nI (cnt8 lft)) x2 x3 (nI i) σ = if x3 ≤ nI (woN lft ev n i) then some (Sum.inl (x2, x3, nI (i + 1), σ)) else some (Sum.inl (nI i, nI (woN lft ev n i), nI (i + 1), σ)) := by
    intro i x2 x3 hi
    have := cs i
    have em : imax (nI (csN lft ev i n)) (nI (cnt8 lft) - nI (csN lft ev i n)) = nI (woN lft ev n i) := by
      rw [show nI (cnt8 lft) - nI (csN lft ev i n) = nI (cnt8 lft - csN lft ev i n) from pk_sub this]
      unfold imax woN
      by_cases q : cnt8 lft - csN lft ev i n ≤ csN lft ev i n
      · rw [if_neg (Int32.not_lt.mpr (nI_le q (by omega))), show max (csN lft ev i n) (cnt8 lft - csN lft ev i n) = csN lft ev i n by omega]
      · rw [if_pos (Int32.not_le.mp (le_nI (by omega) (by omega) (by omega))), show max (csN lft ev i n) (cnt8 lft - csN lft ev i n) = cnt8 lft - csN lft ev i n by omega]
    unfold bX6_bestToAsk_14 jX6_bestToAsk_59
    rw [h.1.2.2.1, h.ct.2.1, if_neg (le_nI (by omega) (by omega) hi), c_countStood h h54 hi, Option.bind_some]
    dsimp only
    rw [em, nI_s]
  have wl : ∀ x, woN lft ev n x ≤ 8 := fun x => by unfold woN; have := cs x; omega
  have hlp : lp (fun st : Int32 × Int32 × Int32 × Sg => bX6_bestToAsk_14 0 (nI (mk8 lft)) (nI (cnt8 lft)) st.1 st.2.1 st.2.2.1 st.2.2.2) (0, 1000000, 0, σ) = some (nI (baS (woN lft ev n) n), σ) := by
    have e0 : (fun st : Int32 × Int32 × Int32 × Sg => bX6_bestToAsk_14 0 (nI (mk8 lft)) (nI (cnt8 lft)) st.1 st.2.1 st.2.2.1 st.2.2.2) (0, 1000000, 0, σ) = some (Sum.inl (nI (baS (woN lft ev n) 1), nI (woN lft ev n (baS (woN lft ev n) 1)), nI 1, σ)) := by
      show bX6_bestToAsk_14 0 (nI (mk8 lft)) (nI (cnt8 lft)) 0 1000000 (nI 0) σ = _
      rw [st 0 0 1000000 h0, if_neg (show ¬ (1000000 : Int32) ≤ nI (woN lft ev n 0) from le_nI (a := 1000000) (by omega) (by have := wl 0; omega) (by have := wl 0; omega))]
      rfl
    rw [lp_l e0]
    have := lpn (f := fun st : Int32 × Int32 × Int32 × Sg => bX6_bestToAsk_14 0 (nI (mk8 lft)) (nI (cnt8 lft)) st.1 st.2.1 st.2.2.1 st.2.2.2) (fun i => (nI (baS (woN lft ev n) (i + 1)), nI (woN lft ev n (baS (woN lft ev n) (i + 1))), nI (i + 1), σ)) (n - 1) (fun i hi => ?_) (b := (nI (baS (woN lft ev n) n), σ)) ?_ 0 (by omega)
    · exact this
    · show bX6_bestToAsk_14 0 (nI (mk8 lft)) (nI (cnt8 lft)) (nI (baS (woN lft ev n) (i + 1))) (nI (woN lft ev n (baS (woN lft ev n) (i + 1)))) (nI (i + 1)) σ = some (Sum.inl (nI (baS (woN lft ev n) (i + 1 + 1)), nI (woN lft ev n (baS (woN lft ev n) (i + 1 + 1))), nI (i + 1 + 1), σ))
      have w1 := wl (i + 1)
      have w2 := wl (baS (woN lft ev n) (i + 1))
      rw [st (i + 1) _ _ (by omega), show baS (woN lft ev n) (i + 1 + 1) = if i + 1 = 0 then 0 else if woN lft ev n (i + 1) < woN lft ev n (baS (woN lft ev n) (i + 1)) then i + 1 else baS (woN lft ev n) (i + 1) from rfl, if_neg (show ¬ i + 1 = 0 by omega)]
      by_cases q : woN lft ev n (i + 1) < woN lft ev n (baS (woN lft ev n) (i + 1))
      · rw [if_neg (le_nI (by omega) (by omega) q), if_pos q]
      · rw [if_pos (nI_le (by omega) (by omega)), if_neg q]
    · show bX6_bestToAsk_14 0 (nI (mk8 lft)) (nI (cnt8 lft)) (nI (baS (woN lft ev n) (n - 1 + 1))) _ (nI (n - 1 + 1)) σ = _
      unfold bX6_bestToAsk_14
      rw [show n - 1 + 1 = n by omega, h.1.2.2.1, h.ct.2.1, if_pos (Int32.le_refl _)]
  unfold fX6_bestToAsk
  rw [bitCount_v, Option.bind_some]
  dsimp only
  rw [hlp]; rfl
theorem m_best (h : RLp M t t' ℓ n m bo dr lb lf sd kw σ) {lft : Nat → Bool} {ev : Nat → Nat → Bool} (h37 : ∀ w, w < n → σ.1 (M + 37) w = nI (mk8 (ev w))) (hl : ∀ j, n ≤ j → lft j = false) (h0 : 0 < n) (hz : ¬ nI (mk8 lft) = 0) (p1 : Int32) : lp (fun st : Int32 × Int32 × Int32 × Sg => bX7_ask_29 M p1 (nI (mk8 lft)) st.1 st.2.1 st.2.2.1 st.2.2.2) (-2, 0, 0, σ) = some (nI (baS (woN lft ev n) n), σ) := by
  have hn := h.n8
  have hX := h.ms.1
  have c8 := cnt8_le lft
  have cs : ∀ x, csN lft ev x n ≤ cnt8 lft := fun x => csN_cnt hn hl
  have st : ∀ (i : Nat) (x3 x4 : Int32), i < n → bX7_ask_29 M p1 (nI (mk8 lft)) x3 x4 (nI i) σ = if x3 < 0 then some (Sum.inl (nI i, nI (woN lft ev n i), nI (i + 1), σ)) else if nI (woN lft ev n i) < x4 then some (Sum.inl (nI i, nI (woN lft ev n i), nI (i + 1), σ)) else some (Sum.inl (x3, x4, nI (i + 1), σ)) := by
    intro i x3 x4 hi
    have := cs i
    unfold bX7_ask_29 jX7_ask_124 jX7_ask_140 jX7_ask_147
    rw [if_pos hX.vl, hX.cl, hX.2.2.2.1, if_neg (le_nI (by omega) (by omega) hi), if_neg hz, m_countStood h h37 hi p1 x3 x4, Option.bind_some]
    dsimp only
    rw [bits_v, Option.bind_some]
    dsimp only
    rw [show nI (cnt8 lft) - nI (csN lft ev i n) = nI (cnt8 lft - csN lft ev i n) from pk_sub this, nI_s]
    unfold woN
    by_cases q : csN lft ev i n ≤ cnt8 lft - csN lft ev i n
    · rw [if_pos (nI_le q (by omega)), bits_v, Option.bind_some]
      dsimp only
      rw [show nI (cnt8 lft) - nI (csN lft ev i n) = nI (cnt8 lft - csN lft ev i n) from pk_sub this, show max (csN lft ev i n) (cnt8 lft - csN lft ev i n) = cnt8 lft - csN lft ev i n by omega]
    · rw [if_neg (le_nI (by omega) (by omega) (by omega)), show max (csN lft ev i n) (cnt8 lft - csN lft ev i n) = csN lft ev i n by omega]
  have wl : ∀ x, woN lft ev n x ≤ 8 := fun x => by unfold woN; have := cs x; omega
  have e0 : (fun st : Int32 × Int32 × Int32 × Sg => bX7_ask_29 M p1 (nI (mk8 lft)) st.1 st.2.1 st.2.2.1 st.2.2.2) (-2, 0, 0, σ) = some (Sum.inl (nI (baS (woN lft ev n) 1), nI (woN lft ev n (baS (woN lft ev n) 1)), nI 1, σ)) := by
    show bX7_ask_29 M p1 (nI (mk8 lft)) (-2) 0 (nI 0) σ = _
    rw [st 0 (-2) 0 h0, if_pos (by decide)]
    rfl
  rw [lp_l e0]
  have := lpn (f := fun st : Int32 × Int32 × Int32 × Sg => bX7_ask_29 M p1 (nI (mk8 lft)) st.1 st.2.1 st.2.2.1 st.2.2.2) (fun i => (nI (baS (woN lft ev n) (i + 1)), nI (woN lft ev n (baS (woN lft ev n) (i + 1))), nI (i + 1), σ)) (n - 1) (fun i hi => ?_) (b := (nI (baS (woN lft ev n) n), σ)) ?_ 0 (by omega)
  · exact this
  · show bX7_ask_29 M p1 (nI (mk8 lft)) (nI (baS (woN lft ev n) (i + 1))) (nI (woN lft ev n (baS (woN lft ev n) (i + 1)))) (nI (i + 1)) σ = some (Sum.inl (nI (baS (woN lft ev n) (i + 1 + 1)), nI (woN lft ev n (baS (woN lft ev n) (i + 1 + 1))), nI (i + 1 + 1), σ))
    have w1 := wl (i + 1)
    have w2 := wl (baS (woN lft ev n) (i + 1))
    have w3 := baS_lt (woN lft ev n) i
    rw [st (i + 1) _ _ (by omega), show baS (woN lft ev n) (i + 1 + 1) = if i + 1 = 0 then 0 else if woN lft ev n (i + 1) < woN lft ev n (baS (woN lft ev n) (i + 1)) then i + 1 else baS (woN lft ev n) (i + 1) from rfl, if_neg (show ¬ i + 1 = 0 by omega), if_neg (Int32.not_lt.mpr (nI_n1 (by omega)))]
    by_cases q : woN lft ev n (i + 1) < woN lft ev n (baS (woN lft ev n) (i + 1))
    · rw [if_pos (Int32.not_le.mp (le_nI (by omega) (by omega) q)), if_pos q]
    · rw [if_neg (Int32.not_lt.mpr (nI_le (by omega) (by omega))), if_neg q]
  · show bX7_ask_29 M p1 (nI (mk8 lft)) (nI (baS (woN lft ev n) (n - 1 + 1))) _ (nI (n - 1 + 1)) σ = _
    unfold bX7_ask_29
    rw [show n - 1 + 1 = n by omega, if_pos hX.vl, hX.cl, hX.2.2.2.1, if_pos (Int32.le_refl _)]
theorem ag_ask (h : RLp M t t' ℓ n m bo dr lb lf sd kw σ) (p1 : Int32) : Ag (fX6_ask 0 p1) (fX7_ask M p1) (RLp M t t' ℓ n m bo dr lb lf sd kw) σ := by
  have hn := h.n8
  have hM := h.1.1
  have ht := h.t2
  obtain ⟨kk, th, ts, h20, k2, k3, hT⟩ := tolds h
  show ∃ r σ1 σ2, fX6_ask 0 p1 σ = some (r, σ1) ∧ fX7_ask M p1 σ1 = some (r, σ2) ∧ RLp M t t' ℓ n m bo dr lb lf sd kw σ2
  unfold fX6_ask fX7_ask
  rcases karg (p := p1) h20 with q | ⟨k, hk, rfl⟩
  · refine ⟨-1, σ, σ, ?_, ?_, h⟩
    · rw [k2]
      by_cases z : p1 < 0
      · rw [if_pos z]
      · rw [if_neg z, if_neg (Int32.not_le.mpr (q.resolve_left z))]
    · rw [k3, in_0 q]; rfl
  · have z1 : ¬ nI k < 0 := Int32.not_lt.mpr (nI_n1 (by omega))
    rw [k2, if_neg z1, if_pos (nI_le hk (by omega))]
    generalize hev : evW n m bo dr lb lf sd (nowR M σ) = ev
    have hh := lp_invG (f := fun st : Int32 × Int32 × Sg => bX6_ask_18 0 (nI k) st.1 st.2.1 st.2.2) n (fun i s => s.1 = nI (mk8 (upF (fun w => agF (ev w) th ts k) i)) ∧ s.2.1 = nI i ∧ Fx M σ s.2.2 ∧ ∀ w, w < i → s.2.2.1 54 w = nI (mk8 (ev w))) (fun b => b.1 = nI (mk8 (upF (fun w => agF (ev w) th ts k) n)) ∧ Fx M σ b.2 ∧ ∀ w, w < n → b.2.1 54 w = nI (mk8 (ev w))) (fun i s hi hs => ?_) (fun s hs => ?_) (s := (0, 0, σ)) ⟨upF_0.symm, rfl, Fc.rf, fun w hw => by omega⟩
    · obtain ⟨⟨b1, τ⟩, g1, g2, g3, g4⟩ := hh
      dsimp only at g2 g3 g4
      subst g2
      have hτ := h.fx g3
      obtain ⟨υ, u1, u2, u3⟩ := m_bits hτ (hT.fx hM g3) hk h20
      rw [nowR_fx hM g3, hev] at u1 u3
      have k3' : τ.1 M 61 = nI kk := (g3.1 _ _ (by unfold SX; omega)).trans k3
      have hυ := hτ.fx u2
      have hX := hυ.ms.1
      rw [g1, Option.bind_some]
      dsimp only
      have hl : ∀ j, n ≤ j → upF (fun w => agF (ev w) th ts k) n j = false := fun j hj => by unfold upF; rw [decide_eq_false (by omega)]; rfl
      by_cases z : nI (mk8 (upF (fun w => agF (ev w) th ts k) n)) = 0
      · refine ⟨-2, τ, υ, if_pos z, ?_, hυ⟩
        rw [k3', in_1 (nI_n1 (by omega)) (nI_le hk (by omega)), Option.bind_some]
        dsimp only
        rw [if_neg one0, u1, Option.bind_some]
        dsimp only
        have : lp (fun st : Int32 × Int32 × Int32 × Sg => bX7_ask_29 M (nI k) (nI (mk8 (upF (fun w => agF (ev w) th ts k) n))) st.1 st.2.1 st.2.2.1 st.2.2.2) (-2, 0, 0, υ) = some (-2, υ) := by
          apply lp_r
          show bX7_ask_29 M (nI k) (nI (mk8 (upF (fun w => agF (ev w) th ts k) n))) (-2) 0 0 υ = _
          unfold bX7_ask_29
          rw [if_pos hX.vl, hX.cl, hX.2.2.2.1, if_pos z]
          split <;> rfl
        rw [this]; rfl
      · have h0 : 0 < n := by
          rcases Nat.eq_zero_or_pos n with y | y
          · subst y; exact absurd upF_0 z
          · exact y
        refine ⟨nI (baS (woN (upF (fun w => agF (ev w) th ts k) n) ev n) n), τ, υ, ?_, ?_, hυ⟩
        · rw [if_neg z, c_best hτ g4 hl h0]; rfl
        · rw [k3', in_1 (nI_n1 (by omega)) (nI_le hk (by omega)), Option.bind_some]
          dsimp only
          rw [if_neg one0, u1, Option.bind_some]
          dsimp only
          rw [m_best hυ u3 hl h0 z]; rfl
    · obtain ⟨x, y, τ⟩ := s
      obtain ⟨e1, e2, hF, h54⟩ := hs
      dsimp only at e1 e2 hF h54
      subst e1 e2
      have hτ := h.fx hF
      obtain ⟨υ, υ2, υ3, c1, c2, c3, c4, c5, c6, c7⟩ := c_without hτ hi
      rw [nowR_fx hM hF, hev] at c7
      have hF2 : Fx M σ (wI υ3 54 i (nI (mk8 (ev i)))) := (hF.tr c5).wI (by unfold SX; omega)
      refine Or.inl ⟨(nI (mk8 (upF (fun w => agF (ev w) th ts k) (i + 1))), nI (i + 1), wI υ3 54 i (nI (mk8 (ev i)))), ?_, rfl, rfl, hF2, fun w hw => ?_⟩
      · show bX6_ask_18 0 (nI k) (nI (mk8 (upF (fun w => agF (ev w) th ts k) i))) (nI i) τ = _
        unfold bX6_ask_18 jX6_ask_90
        rw [hτ.1.2.2.1, hτ.ct.2.1, if_neg (le_nI (by omega) (by omega) hi), c1, Option.bind_some]
        simp (disch := omega) only [vif, nI_clamp, Nat.zero_add]
        rw [c2, Option.bind_some, c3, Option.bind_some, c7, wI_n (by omega), c7, c_agrees (hT.fx hM hF2) hk h20 hn, Option.bind_some]
        dsimp only
        rw [nI_s]
        cases hq : agF (ev i) th ts k
        · rw [if_pos (by decide), ← upF_f (f := fun w => agF (ev w) th ts k) hq, Int32.or_zero]
        · rw [if_neg (by decide), upF_t (f := fun w => agF (ev w) th ts k) (by omega) hq]
      · show (wI υ3 54 i (nI (mk8 (ev i)))).1 54 w = _
        rw [wI_k, upd_a]
        by_cases q : w = i
        · rw [if_pos q, q]
        · rw [if_neg q, c4.1 54 w (by unfold SY; omega)]; exact h54 w (by omega)
    · obtain ⟨x, y, τ⟩ := s
      obtain ⟨e1, e2, hF, h54⟩ := hs
      dsimp only at e1 e2 hF h54
      subst e1 e2
      have hτ := h.fx hF
      refine ⟨(nI (mk8 (upF (fun w => agF (ev w) th ts k) n)), τ), ?_, rfl, hF, h54⟩
      show bX6_ask_18 0 (nI k) _ (nI n) τ = _
      unfold bX6_ask_18
      rw [hτ.1.2.2.1, hτ.ct.2.1, if_pos (Int32.le_refl _)]
end ASK2
