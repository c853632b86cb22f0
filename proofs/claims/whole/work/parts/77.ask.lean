section ASK
variable {M a b t t' ℓ n m L : Nat} {bo : Nat → Bool} {dr : Nat → Int32} {lb : Nat → Br} {lf : Nat → Rp} {sd : Int32} {kw : Nat → Int64} {σ τ υ : Sg} {ρ ρ' : Nat → Int32}
/-- what is told, on both sides -/
def TD (M n : Nat) (σ : Sg) (k : Nat) (th : Nat → Nat) (ts : Nat → Bool) : Prop := ∀ i, i < k → th i < n ∧ σ.1 53 i = nI (th i) ∧ σ.1 (M + 35) i = nI (th i) ∧ σ.1 (M + 36) i = nI (b2n (ts i)) ∧ ius (σ.1 0 15) (nI i) &&& 1 = nI (b2n (ts i))
theorem tolds (h : RLp M t t' ℓ n m bo dr lb lf sd kw σ) : ∃ k th ts, k ≤ 20 ∧ σ.1 0 16 = nI k ∧ σ.1 M 61 = nI k ∧ TD M n σ k th ts := by
  obtain ⟨k, k1, k2, k3, k4⟩ := h.2.2.2.2.1
  have hn := h.n8
  refine ⟨k, fun i => (σ.1 53 i).toNatClampNeg, fun i => decide (σ.1 (M + 36) i = 1), k1, k2, k3, fun i hi => ?_⟩
  obtain ⟨⟨w, hw, e1, e2⟩, b, e3, e4⟩ := k4 i hi
  have ec : (σ.1 53 i).toNatClampNeg = w := by rw [e1, nI_clamp (by omega)]
  have eb : decide (σ.1 (M + 36) i = 1) = b := by rw [e3]; cases b <;> decide
  show (σ.1 53 i).toNatClampNeg < n ∧ σ.1 53 i = nI (σ.1 53 i).toNatClampNeg ∧ σ.1 (M + 35) i = nI (σ.1 53 i).toNatClampNeg ∧ σ.1 (M + 36) i = nI (b2n (decide (σ.1 (M + 36) i = 1))) ∧ ius (σ.1 0 15) (nI i) &&& 1 = nI (b2n (decide (σ.1 (M + 36) i = 1)))
  rw [ec, eb]
  exact ⟨hw, e1, e2, e3, e4⟩
theorem TD.fx {k : Nat} {th : Nat → Nat} {ts : Nat → Bool} (h : TD M n σ k th ts) (hM : 442 ≤ M) (hF : Fx M σ τ) : TD M n τ k th ts := fun i hi => by
  rw [hF.1 53 i (by unfold SX; omega), hF.1 (M + 35) i (by unfold SX; omega), hF.1 (M + 36) i (by unfold SX; omega), hF.1 0 15 (by unfold SX; omega)]
  exact h i hi
/-- the first k of what is told agree -/
def agF (ev : Nat → Bool) (th : Nat → Nat) (ts : Nat → Bool) : Nat → Bool
  | 0 => true
  | i + 1 => agF ev th ts i && (ev (th i) == ts i)
theorem agF_f {ev : Nat → Bool} {th : Nat → Nat} {ts : Nat → Bool} {i : Nat} (h : agF ev th ts i = false) : ∀ d, agF ev th ts (i + d) = false
  | 0 => h
  | d + 1 => by
    show (agF ev th ts (i + d) && _) = false
    rw [agF_f h d]; rfl
theorem bI (x y : Bool) : nI (b2n x) = nI (b2n y) ↔ x = y := by revert x y; decide
theorem c_agrees {k kk : Nat} {th : Nat → Nat} {ts : Nat → Bool} {ev : Nat → Bool} (hT : TD M n σ kk th ts) (hk : k ≤ kk) (h20 : kk ≤ 20) (hn : n ≤ 8) : fX6_agrees 0 (nI (mk8 ev)) (nI k) σ = some (nI (b2n (agF ev th ts k)), σ) := by
  have hh := lp_invG (f := fun st : Int32 × Sg => bX6_agrees_2 0 (nI (mk8 ev)) (nI k) st.1 st.2) k (fun i s => s = (nI i, σ) ∧ agF ev th ts i = true) (fun b => (b = Sum.inr σ ∧ agF ev th ts k = true) ∨ (b = Sum.inl σ ∧ agF ev th ts k = false)) (fun i s hi hs => ?_) (fun s hs => ?_) (s := (nI 0, σ)) ⟨rfl, rfl⟩
  · obtain ⟨b, h1, h2⟩ := hh
    unfold fX6_agrees
    rw [show (0 : Int32) = nI 0 from rfl, h1]
    rcases h2 with ⟨rfl, h2⟩ | ⟨rfl, h2⟩
    · rw [h2]; rfl
    · rw [h2]; rfl
  · obtain ⟨rfl, ha⟩ := hs
    obtain ⟨t1, t2, -, -, t5⟩ := hT i (by omega)
    have st : bX6_agrees_2 0 (nI (mk8 ev)) (nI k) (nI i) σ = if nI (b2n (ev (th i))) = nI (b2n (ts i)) then some (Sum.inl (nI (i + 1), σ)) else some (Sum.inr (Sum.inl σ)) := by
      unfold bX6_agrees_2
      rw [if_neg (le_nI (by omega) (by omega) hi), if_neg (show ¬ (20 : Int32) ≤ nI i from le_nI (a := 20) (by omega) (by omega) (by omega))]
      simp (disch := omega) only [vif, nI_clamp, Nat.zero_add]
      rw [t2, fX6_bit_v _ (by omega), Option.bind_some]
      unfold fX6_bit
      dsimp only
      rw [Option.bind_some]
      dsimp only
      rw [t5, nI_s]
    by_cases q : ev (th i) = ts i
    · refine Or.inl ⟨(nI (i + 1), σ), ?_, rfl, ?_⟩
      · show bX6_agrees_2 0 (nI (mk8 ev)) (nI k) (nI i) σ = _
        rw [st, if_pos ((bI _ _).mpr q)]
      · show (agF ev th ts i && (ev (th i) == ts i)) = true
        rw [ha, q]; simp
    · refine Or.inr ⟨Sum.inl σ, ?_, Or.inr ⟨rfl, ?_⟩⟩
      · show bX6_agrees_2 0 (nI (mk8 ev)) (nI k) (nI i) σ = _
        rw [st, if_neg (fun z => q ((bI _ _).mp z))]
      · have : agF ev th ts (i + 1) = false := by
          show (agF ev th ts i && (ev (th i) == ts i)) = false
          rw [ha]
          simp [q]
        have := agF_f this (k - (i + 1))
        rwa [show i + 1 + (k - (i + 1)) = k by omega] at this
  · obtain ⟨rfl, ha⟩ := hs
    refine ⟨Sum.inr σ, ?_, Or.inl ⟨rfl, ha⟩⟩
    show bX6_agrees_2 0 (nI (mk8 ev)) (nI k) (nI k) σ = _
    unfold bX6_agrees_2
    rw [if_pos (Int32.le_refl _)]
theorem m_agrees {k kk w : Nat} {th : Nat → Nat} {ts : Nat → Bool} {ev : Nat → Bool} (x2 : Int32) (hw : w < 8) (he : σ.1 (M + 37) w = nI (mk8 ev)) (hT : TD M n σ kk th ts) (hk : k ≤ kk) (h20 : kk ≤ 20) (hn : n ≤ 8) : lp (fun st : Int32 × Int32 × Sg => bX7_oversleptBits_34 M (nI k) x2 (nI w) st.1 st.2.1 st.2.2) (1, 0, σ) = some (nI (b2n (agF ev th ts k)), σ) := by
  refine lpn (f := fun st : Int32 × Int32 × Sg => bX7_oversleptBits_34 M (nI k) x2 (nI w) st.1 st.2.1 st.2.2) (fun i => (nI (b2n (agF ev th ts i)), nI i, σ)) k (fun i hi => ?_) ?_ 0 (by omega)
  · show bX7_oversleptBits_34 M (nI k) x2 (nI w) (nI (b2n (agF ev th ts i))) (nI i) σ = some (Sum.inl (nI (b2n (agF ev th ts (i + 1))), nI (i + 1), σ))
    obtain ⟨t1, t2, t3, t4, t5⟩ := hT i (by omega)
    rw [show agF ev th ts (i + 1) = (agF ev th ts i && (ev (th i) == ts i)) from rfl]
    unfold bX7_oversleptBits_34 jX7_oversleptBits_69
    rw [if_neg (le_nI (by omega) (by omega) hi)]
    simp (disch := omega) only [vif, nI_clamp]
    rw [he, t3, mk8_shr _ (by omega), t4, nI_s]
    by_cases q : ev (th i) = ts i
    · rw [if_pos ((bI _ _).mpr q), q]; simp
    · rw [if_neg (fun z => q ((bI _ _).mp z)), show (ev (th i) == ts i) = false by simp [q], Bool.and_false]; rfl
  · show bX7_oversleptBits_34 M (nI k) x2 (nI w) _ (nI k) σ = _
    unfold bX7_oversleptBits_34
    rw [if_pos (Int32.le_refl _)]
theorem m_bits (h : RLp M t t' ℓ n m bo dr lb lf sd kw σ) {k kk : Nat} {th : Nat → Nat} {ts : Nat → Bool} (hT : TD M n σ kk th ts) (hk : k ≤ kk) (h20 : kk ≤ 20) : ∃ τ, fX7_oversleptBits M (nI k) σ = some (nI (mk8 (upF (fun w => agF (evW n m bo dr lb lf sd (nowR M σ) w) th ts k) n)), τ) ∧ Fx M σ τ ∧ ∀ w, w < n → τ.1 (M + 37) w = nI (mk8 (evW n m bo dr lb lf sd (nowR M σ) w)) := by
  have hn := h.n8
  have hM := h.1.1
  generalize hev : evW n m bo dr lb lf sd (nowR M σ) = ev
  have hh := lp_invG (f := fun st : Int32 × Int32 × Sg => bX7_oversleptBits_4 M (nI k) st.1 st.2.1 st.2.2) n (fun i s => s.1 = nI (mk8 (upF (fun w => agF (ev w) th ts k) i)) ∧ s.2.1 = nI i ∧ Fx M σ s.2.2 ∧ ∀ w, w < i → s.2.2.1 (M + 37) w = nI (mk8 (ev w))) (fun b => b.1 = nI (mk8 (upF (fun w => agF (ev w) th ts k) n)) ∧ Fx M σ b.2 ∧ ∀ w, w < n → b.2.1 (M + 37) w = nI (mk8 (ev w))) (fun i s hi hs => ?_) (fun s hs => ?_) (s := (0, 0, σ)) ⟨upF_0.symm, rfl, Fc.rf, fun w hw => by omega⟩
  · obtain ⟨b, h1, h2, h3, h4⟩ := hh
    refine ⟨b.2, ?_, h3, h4⟩
    unfold fX7_oversleptBits
    rw [h1, Option.bind_some]
    dsimp only
    rw [h2]
  · obtain ⟨x, y, τ⟩ := s
    obtain ⟨e1, e2, hF, h37⟩ := hs
    dsimp only at e1 e2 hF h37
    subst e1 e2
    have hτ := h.fx hF
    have hX := hτ.ms.1
    obtain ⟨υ, u1, u2, u3, u4⟩ := m_without hτ hi
    rw [nowR_fx hM hF, hev] at u1
    have hF2 : Fx M σ (wI υ (M + 37) i (nI (mk8 (ev i)))) := (hF.tr u3).wI (by unfold SX; omega)
    have ag := m_agrees (M := M) (σ := wI υ (M + 37) i (nI (mk8 (ev i)))) (w := i) (ev := ev i) (nI (mk8 (upF (fun w => agF (ev w) th ts k) i))) (by omega) (by rw [wI_k, upd_k]) (hT.fx hM hF2) hk h20 hn
    refine Or.inl ⟨(nI (mk8 (upF (fun w => agF (ev w) th ts k) (i + 1))), nI (i + 1), wI υ (M + 37) i (nI (mk8 (ev i)))), ?_, rfl, rfl, hF2, fun w hw => ?_⟩
    · show bX7_oversleptBits_4 M (nI k) (nI (mk8 (upF (fun w => agF (ev w) th ts k) i))) (nI i) τ = _
      unfold bX7_oversleptBits_4 jX7_oversleptBits_86
      rw [if_pos hX.vl, hX.cl, hX.2.2.2.1, if_neg (le_nI (by omega) (by omega) hi), u1, Option.bind_some]
      simp (disch := omega) only [vif, nI_clamp]
      rw [ag, Option.bind_some]
      dsimp only
      rw [nI_s]
      cases hq : agF (ev i) th ts k
      · rw [if_pos (by decide), upF_f (f := fun w => agF (ev w) th ts k) hq]
      · rw [if_neg (by decide), upF_t (f := fun w => agF (ev w) th ts k) (by omega) hq]
    · show (wI υ (M + 37) i (nI (mk8 (ev i)))).1 (M + 37) w = _
      rw [wI_k, upd_a]
      by_cases q : w = i
      · rw [if_pos q, q]
      · rw [if_neg q, u2.1 (M + 37) w (by unfold SZ; omega)]; exact h37 w (by omega)
  · obtain ⟨x, y, τ⟩ := s
    obtain ⟨e1, e2, hF, h37⟩ := hs
    dsimp only at e1 e2 hF h37
    subst e1 e2
    have hX := (h.fx hF).ms.1
    refine ⟨(nI (mk8 (upF (fun w => agF (ev w) th ts k) n)), τ), ?_, rfl, hF, h37⟩
    show bX7_oversleptBits_4 M (nI k) _ (nI n) τ = _
    unfold bX7_oversleptBits_4
    rw [if_pos hX.vl, hX.cl, hX.2.2.2.1, if_pos (Int32.le_refl _)]
theorem karg {p : Int32} {kk : Nat} (h20 : kk ≤ 20) : (p < 0 ∨ nI kk < p) ∨ ∃ k, k ≤ kk ∧ p = nI k := by
  rcases arg p (n := kk + 1) (by omega) with (q | q) | ⟨j, hj, rfl⟩
  · exact Or.inl (Or.inl q)
  · exact Or.inl (Or.inr (Int32.not_le.mp (fun z => absurd (Int32.le_trans q z) (le_nI (by omega) (by omega) (by omega)))))
  · exact Or.inr ⟨j, by omega, rfl⟩
theorem ag_overslept (h : RLp M t t' ℓ n m bo dr lb lf sd kw σ) (p1 p2 : Int32) : Ag (fX6_overslept 0 p1 p2) (fX7_overslept M p1 p2) (RLp M t t' ℓ n m bo dr lb lf sd kw) σ := by
  have hn := h.n8
  have hM := h.1.1
  obtain ⟨kk, th, ts, h20, k2, k3, hT⟩ := tolds h
  show ∃ r σ1 σ2, fX6_overslept 0 p1 p2 σ = some (r, σ1) ∧ fX7_overslept M p1 p2 σ1 = some (r, σ2) ∧ RLp M t t' ℓ n m bo dr lb lf sd kw σ2
  unfold fX6_overslept fX7_overslept
  rcases karg (p := p1) h20 with q | ⟨k, hk, rfl⟩
  · refine ⟨-1, σ, σ, ?_, ?_, h⟩
    · rw [k2]
      by_cases z : p1 < 0
      · rw [if_pos z]
      · rw [if_neg z, if_pos (q.resolve_left z)]
    · rw [k3, in_0 q]; rfl
  · have z1 : ¬ nI k < 0 := Int32.not_lt.mpr (nI_n1 (by omega))
    have z2 : ¬ nI kk < nI k := Int32.not_lt.mpr (nI_le (by omega) (by omega))
    rw [k2, if_neg z1, if_neg z2]
    rcases either p2 with hp | ⟨h0, h1, hp⟩
    · rw [c_ei1 hp, Option.bind_some]
      dsimp only
      rw [if_neg one0]
      generalize hev : evW n m bo dr lb lf sd (nowR M σ) = ev
      have hh := lp_invG (f := fun st : Int32 × Int32 × Sg => bX6_overslept_26 0 (nI k) p2 st.1 st.2.1 st.2.2) n (fun i s => s.1 = nI (mk8 (upF (fun w => agF (ev w) th ts k) i)) ∧ s.2.1 = nI i ∧ Fx M σ s.2.2) (fun b => b.1 = nI (mk8 (upF (fun w => agF (ev w) th ts k) n)) ∧ Fx M σ b.2) (fun i s hi hs => ?_) (fun s hs => ?_) (s := (0, 0, σ)) ⟨upF_0.symm, rfl, Fc.rf⟩
      · obtain ⟨⟨b1, τ⟩, g1, g2, g3⟩ := hh
        dsimp only at g2 g3
        subst g2
        obtain ⟨υ, u1, u2, -⟩ := m_bits (h.fx g3) (hT.fx hM g3) hk h20
        rw [nowR_fx hM g3, hev] at u1
        have k3' : τ.1 M 61 = nI kk := (g3.1 _ _ (by unfold SX; omega)).trans k3
        refine ⟨if p2 = 0 then nI (cnt8 (upF (fun w => agF (ev w) th ts k) n)) else nI (mk8 (upF (fun w => agF (ev w) th ts k) n)), τ, υ, ?_, ?_, (h.fx g3).fx u2⟩
        · rw [g1, Option.bind_some]
          dsimp only
          rw [bitCount_v]
          by_cases z : p2 = 0
          · rw [if_pos z, if_pos z]; rfl
          · rw [if_neg z, if_neg z]
        · rw [k3', in_1 (nI_n1 (by omega)) (nI_le (by omega) (by omega)), Option.bind_some]
          dsimp only
          rw [if_neg one0, m_ei1 hp, Option.bind_some]
          dsimp only
          rw [if_neg one0, u1, Option.bind_some]
          dsimp only
          rw [bits_v]
          by_cases z : p2 = 0
          · rw [if_pos z, if_pos z]; rfl
          · rw [if_neg z, if_neg z]
      · obtain ⟨x, y, τ⟩ := s
        obtain ⟨e1, e2, hF⟩ := hs
        dsimp only at e1 e2 hF
        subst e1 e2
        have hτ := h.fx hF
        obtain ⟨υ, υ2, υ3, c1, c2, c3, c4, c5, c6, c7⟩ := c_without hτ hi
        rw [nowR_fx hM hF, hev] at c7
        refine Or.inl ⟨(nI (mk8 (upF (fun w => agF (ev w) th ts k) (i + 1))), nI (i + 1), υ3), ?_, rfl, rfl, hF.tr c5⟩
        show bX6_overslept_26 0 (nI k) p2 (nI (mk8 (upF (fun w => agF (ev w) th ts k) i))) (nI i) τ = _
        unfold bX6_overslept_26 jX6_overslept_88
        rw [hτ.1.2.2.1, hτ.ct.2.1, if_neg (le_nI (by omega) (by omega) hi), c1, Option.bind_some]
        simp only [Nat.zero_add]
        rw [c2, Option.bind_some, c3, Option.bind_some, c7, c_agrees (hT.fx hM (hF.tr c5)) hk h20 hn, Option.bind_some]
        dsimp only
        rw [nI_s]
        cases hq : agF (ev i) th ts k
        · rw [if_pos (by decide), ← upF_f (f := fun w => agF (ev w) th ts k) hq, Int32.or_zero]
        · rw [if_neg (by decide), upF_t (f := fun w => agF (ev w) th ts k) (by omega) hq]
      · obtain ⟨x, y, τ⟩ := s
        obtain ⟨e1, e2, hF⟩ := hs
        dsimp only at e1 e2 hF
        subst e1 e2
        have hτ := h.fx hF
        refine ⟨(nI (mk8 (upF (fun w => agF (ev w) th ts k) n)), τ), ?_, rfl, hF⟩
        show bX6_overslept_26 0 (nI k) p2 _ (nI n) τ = _
        unfold bX6_overslept_26
        rw [hτ.1.2.2.1, hτ.ct.2.1, if_pos (Int32.le_refl _)]
    · refine ⟨-1, σ, σ, by rw [c_ei0 h0 h1]; rfl, ?_, h⟩
      rw [k3, in_1 (nI_n1 (by omega)) (nI_le (by omega) (by omega)), Option.bind_some]
      dsimp only
      rw [if_neg one0, in_0 hp]; rfl
/-- how many of those left would have stood -/
def csN (lf : Nat → Bool) (ev : Nat → Nat → Bool) (x : Nat) : Nat → Nat
  | 0 => 0
  | i + 1 => csN lf ev x i + (if lf i = true then b2n (ev i x) else 0)
theorem csN_le (lf : Nat → Bool) (ev : Nat → Nat → Bool) (x : Nat) : ∀ i, csN lf ev x i ≤ i
  | 0 => Nat.le_refl _
  | i + 1 => by
    have := csN_le lf ev x i
    have := b2n_le (ev i x)
    unfold csN
    split <;> omega
theorem csN_cnt {lf : Nat → Bool} {ev : Nat → Nat → Bool} {x : Nat} {i : Nat} (hi : i ≤ 8) (hl : ∀ j, i ≤ j → lf j = false) : csN lf ev x i ≤ cnt8 lf := by
  have c : ∀ k, csN lf ev x (k + 1) = csN lf ev x k + (if lf k = true then b2n (ev k x) else 0) := fun k => rfl
  have bd : ∀ k, (if lf k = true then b2n (ev k x) else 0) ≤ b2n (lf k) := fun k => by
    have := b2n_le (ev k x)
    cases hq : lf k
    · rw [if_neg (by decide)]; exact Nat.zero_le _
    · rw [if_pos rfl]; exact this
  have z : csN lf ev x 0 = 0 := rfl
  have mono : ∀ d k, csN lf ev x k ≤ csN lf ev x (k + d) := by
    intro d
    induction d with
    | zero => intro k; exact Nat.le_refl _
    | succ d ih => intro k; have := ih k; have := c (k + d); rw [show k + (d + 1) = k + d + 1 by omega]; omega
  have h8 : csN lf ev x i ≤ csN lf ev x 8 := by have := mono (8 - i) i; rwa [show i + (8 - i) = 8 by omega] at this
  have c0 := c 0; have c1 := c 1; have c2 := c 2; have c3 := c 3; have c4 := c 4; have c5 := c 5; have c6 := c 6; have c7 := c 7
  have b0 := bd 0; have b1 := bd 1; have b2 := bd 2; have b3 := bd 3; have b4 := bd 4; have b5 := bd 5; have b6 := bd 6; have b7 := bd 7
  simp only [Nat.zero_add, Nat.reduceAdd] at c0 c1 c2 c3 c4 c5 c6 c7
  unfold cnt8
  omega
/-- the best of the first i -/
def baS (s : Nat → Nat) : Nat → Nat
  | 0 => 0
  | i + 1 => if i = 0 then 0 else if s i < s (baS s i) then i else baS s i
theorem baS_lt (s : Nat → Nat) : ∀ i, baS s (i + 1) ≤ i
  | 0 => Nat.le_refl _
  | i + 1 => by
    have := baS_lt s i
    rw [show baS s (i + 1 + 1) = if i + 1 = 0 then 0 else if s (i + 1) < s (baS s (i + 1)) then i + 1 else baS s (i + 1) from rfl]
    split
    · omega
    · split <;> omega
theorem c_countStood (h : RLp M t t' ℓ n m bo dr lb lf sd kw σ) {lft : Nat → Bool} {ev : Nat → Nat → Bool} (h54 : ∀ w, w < n → σ.1 54 w = nI (mk8 (ev w))) {x : Nat} (hx : x < n) : fX6_countStood 0 (nI (mk8 lft)) (nI x) σ = some (nI (csN lft ev x n), σ) := by
  have hn := h.n8
  have hl : lp (fun st : Int32 × Int32 × Sg => bX6_countStood_5 0 (nI (mk8 lft)) (nI x) st.1 st.2.1 st.2.2) (0, 0, σ) = some (nI (csN lft ev x n), σ) := by
    refine lpn (f := fun st : Int32 × Int32 × Sg => bX6_countStood_5 0 (nI (mk8 lft)) (nI x) st.1 st.2.1 st.2.2) (fun i => (nI (csN lft ev x i), nI i, σ)) n (fun i hi => ?_) ?_ 0 (by omega)
    · show bX6_countStood_5 0 (nI (mk8 lft)) (nI x) (nI (csN lft ev x i)) (nI i) σ = some (Sum.inl (nI (csN lft ev x (i + 1)), nI (i + 1), σ))
      rw [show csN lft ev x (i + 1) = csN lft ev x i + (if lft i = true then b2n (ev i x) else 0) from rfl]
      unfold bX6_countStood_5 jX6_countStood_41
      rw [h.1.2.2.1, h.ct.2.1, if_neg (le_nI (by omega) (by omega) hi), fX6_bit_v _ (by omega), Option.bind_some]
      simp (disch := omega) only [vif, nI_clamp, Nat.zero_add]
      rw [h54 i hi, fX6_bit_v _ (by omega), Option.bind_some]
      dsimp only
      rw [nI_s, nI_add]
      cases hq : lft i
      · rw [if_neg (by decide), if_neg (by decide)]; rfl
      · rw [if_pos (by decide), if_pos rfl]
    · show bX6_countStood_5 0 (nI (mk8 lft)) (nI x) _ (nI n) σ = _
      unfold bX6_countStood_5
      rw [h.1.2.2.1, h.ct.2.1, if_pos (Int32.le_refl _)]
  unfold fX6_countStood
  rw [hl]; rfl
theorem m_countStood (h : RLp M t t' ℓ n m bo dr lb lf sd kw σ) {lft : Nat → Bool} {ev : Nat → Nat → Bool} (h37 : ∀ w, w < n → σ.1 (M + 37) w = nI (mk8 (ev w))) {x : Nat} (hx : x < n) (p1 x3 x4 : Int32) : lp (fun st : Int32 × Int32 × Sg => bX7_ask_53 M p1 (nI (mk8 lft)) x3 x4 (nI x) st.1 st.2.1 st.2.2) (0, 0, σ) = some (nI (csN lft ev x n), σ) := by
  have hn := h.n8
  have hX := h.ms.1
  refine lpn (f := fun st : Int32 × Int32 × Sg => bX7_ask_53 M p1 (nI (mk8 lft)) x3 x4 (nI x) st.1 st.2.1 st.2.2) (fun i => (nI (csN lft ev x i), nI i, σ)) n (fun i hi => ?_) ?_ 0 (by omega)
  · show bX7_ask_53 M p1 (nI (mk8 lft)) x3 x4 (nI x) (nI (csN lft ev x i)) (nI i) σ = some (Sum.inl (nI (csN lft ev x (i + 1)), nI (i + 1), σ))
    rw [show csN lft ev x (i + 1) = csN lft ev x i + (if lft i = true then b2n (ev i x) else 0) from rfl]
    unfold bX7_ask_53 jX7_ask_94
    rw [if_pos hX.vl, hX.cl, hX.2.2.2.1, if_neg (le_nI (by omega) (by omega) hi), mk8_shr _ (by omega)]
    simp (disch := omega) only [vif, nI_clamp]
    rw [h37 i hi, mk8_shr _ (by omega), nI_s, nI_add]
    cases hq : lft i
    · rw [if_neg (by decide), if_neg (by decide)]; rfl
    · rw [if_pos (by decide), if_pos rfl]
  · show bX7_ask_53 M p1 (nI (mk8 lft)) x3 x4 (nI x) _ (nI n) σ = _
    unfold bX7_ask_53
    rw [if_pos hX.vl, hX.cl, hX.2.2.2.1, if_pos (Int32.le_refl _)]
end ASK
