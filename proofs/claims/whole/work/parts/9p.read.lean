section READ2
variable {M t t' ℓ n m : Nat} {bo : Nat → Bool} {dr : Nat → Int32} {lb : Nat → Br} {lf : Nat → Rp} {sd : Int32} {σ τ : Sg}
def kwd : Nat → Int64 := fun k => lN (wvN k)
/-- the two sides, whatever was read -/
def RLe (M : Nat) (σ : Sg) : Prop := ∃ t t' ℓ n m bo dr lb lf sd, RLp M t t' ℓ n m bo dr lb lf sd kwd σ
theorem mk8_f {f : Nat → Bool} (h : ∀ i, i < 8 → f i = false) : (0 : Int32) = nI (mk8 f) := ((mk8_z f).mpr h).symm
theorem ag_read (h : RLp M t t' ℓ n m bo dr lb lf sd kwd σ) : ∃ r σ1 σ2, fX6_read 0 σ = some (r, σ1) ∧ fX7_read M σ1 = some (r, σ2) ∧ RLe M σ2 := by
  obtain ⟨⟨hM, ht, ht1, ht2, ht3, ht4, ht5, ht6, ht7⟩, hN, ⟨u, pn, hu, u1, u2, u3, u4⟩, hK, hO, ⟨⟨L, l1, l2, l3, l4⟩, p1⟩, f1, f2, f3⟩ := id h
  have hℓ := ht4.1.1
  have h18 := ht4.1.2.1
  have htt : t' = 2 ∨ t' = 14 := by omega
  -- the codes
  have hC : ∀ i, i < L → σ.1 1 i &&& 255 = nI (cd (σ.1 1 i)) ∧ CX (σ.1 1 i) (cd (σ.1 1 i)) ∧ vp_nar .byte (σ.1 (M + 1) i) = σ.1 1 i := fun i hi => by
    obtain ⟨e1, b, e2⟩ := l4 i hi
    rw [← e1, e2]
    obtain ⟨c1, c2, c3, c4⟩ := chr b
    exact ⟨c1, ⟨c2, c3, c4⟩, by rw [vp_nar_byte, Int8.toInt8_toInt32]⟩
  generalize hCe : (fun i => cd (σ.1 1 i)) = C at *
  have hC : ∀ i, i < L → σ.1 1 i &&& 255 = nI (C i) ∧ CX (σ.1 1 i) (C i) ∧ vp_nar .byte (σ.1 (M + 1) i) = σ.1 1 i := fun i hi => by rw [← hCe]; exact hC i hi
  have mt : ∀ υ : Sg, υ.1 M 18 = nI ℓ → υ.1 M 2 = nI L → (∀ i, υ.1 (M + 1) i = σ.1 (M + 1) i) → υ.2.1 (M + 7) = σ.2.1 (M + 7) → ∃ τ, fX7_read M υ = jRd M τ ∧ FJ (SMr M (1 - ℓ)) (fun k => k = M + 6 ∨ k = M + 8) υ τ ∧ τ.1 M 2 = 0 ∧ τ.1 M 19 = nI (1 - ℓ) ∧ (match tellsS (kdT C L) (vlV C L) 401 X0 0 with
      | .error (e, q) => MF τ M C L e q
      | .ok Y => ∃ p s b, MTX τ M C L (1 - ℓ) Y p s b) := fun υ z1 z2 z3 z4 => m_text l1 hℓ z1 z2 (fun i hi => by rw [z3 i, (hC i hi).2.2]; exact ⟨(hC i hi).1, (hC i hi).2.1.1⟩) (fun k hk => by rw [z4]; exact f3 k hk)
  obtain ⟨r, τ1, a1, a2, a3⟩ := c_text (t := t') (σ := σ) (L := L) (C := C) htt ⟨l1, fun i hi => (hC i hi).2.1⟩
  have rd : fX6_read 0 σ = (let σ9 := wI τ1 0 1 (0 : Int32); let σ11 := wI σ9 0 2 (σ9.1 (0 + 26) 4); if r = 0 then ((fX6_takeDraft 0 σ11).bind (fun σ13 => some (r, σ13))) else (some (r, σ11))) := by
    unfold fX6_read
    rw [l2, ht2]
    have a1 : fX1_readText (0 + 26) (0 + 1) (nI L) t' σ = some (r, τ1) := a1
    rw [a1]
    rfl
  have hF2 : Fs (fun k j => k = 0 ∧ (j = 1 ∨ j = 2)) τ1 (wI (wI τ1 0 1 0) 0 2 (τ1.1 26 4)) := (Fs.rf.wI (by omega)).wI (by omega)
  have v1 : (wI (wI τ1 0 1 0) 0 2 (τ1.1 26 4)).1 0 1 = 0 := by rw [wI_a, if_neg (by omega), wI_a, if_pos ⟨rfl, rfl⟩]
  have v2 : (wI (wI τ1 0 1 0) 0 2 (τ1.1 26 4)).1 0 2 = τ1.1 26 4 := by rw [wI_a, if_pos ⟨rfl, rfl⟩]
  have v26 : (wI τ1 0 1 (0 : Int32)).1 (0 + 26) 4 = τ1.1 26 4 := by rw [wI_n (by omega)]
  dsimp only at rd
  rw [v26] at rd
  generalize wI (wI τ1 0 1 0) 0 2 (τ1.1 26 4) = τ2 at rd hF2 v1 v2
  have F2 : FRd M t' (1 - ℓ) σ τ2 := (a2.rd hM htt).tr (hF2.rd (fun k j q => Or.inr (Or.inl q)))
  have g1 : ∀ j, j = 18 ∨ j = 2 → τ2.1 M j = σ.1 M j := fun j hj => (hF2.1 _ _ (by omega)).trans (a2.1 _ _ (by unfold SCt; omega))
  have g2 : ∀ i, τ2.1 (M + 1) i = σ.1 (M + 1) i := fun i => (hF2.1 _ _ (by omega)).trans (a2.1 _ _ (by unfold SCt; omega))
  -- the end of a read that finds a fault
  have fin : ∀ (v : Int32) (τ3 : Sg) (pl : Int32), ¬ v = 0 → r = v → τ2.1 0 2 = pl → fX7_read M τ2 = jRd M τ3 → FJ (SMr M (1 - ℓ)) (fun k => k = M + 6 ∨ k = M + 8) τ2 τ3 → τ3.1 M 2 = 0 → jRd M τ3 = some (v, wI τ3 M 17 pl) → ∃ r σ1 σ2, fX6_read 0 σ = some (r, σ1) ∧ fX7_read M σ1 = some (r, σ2) ∧ RLe M σ2 := fun v τ3 pl hv hr h2 hd hF hz hj => by
    rw [hr, if_neg hv] at rd
    refine ⟨v, τ2, wI τ3 M 17 pl, rd, hd.trans hj, t, t', ℓ, n, m, bo, dr, lb, lf, sd, ?_⟩
    have hF4 : Fs (fun k j => k = M ∧ j = 17) τ3 (wI τ3 M 17 pl) := Fs.rf.wI ⟨rfl, rfl⟩
    refine h.rd ((F2.tr hF.rd).tr (hF4.rd (fun k j q => Or.inr (Or.inr (Or.inr q))))) ⟨⟨0, by omega, ?_, ?_, fun i hi => by omega⟩, ?_⟩
    · rw [hF4.1 _ _ (by omega), hF.1 _ _ (by unfold SMr SMt; omega)]; exact v1
    · rw [hF4.1 _ _ (by omega)]; exact hz
    · rw [hF4.1 0 2 (by omega), hF.1 0 2 (by unfold SMr SMt; omega), wI_a, if_pos ⟨rfl, rfl⟩]; exact h2
  cases hq : tellsS (kdT C L) (vlV C L) 401 X0 0 with
  | error e =>
    obtain ⟨e, q⟩ := e
    obtain ⟨τ3, b1, b2, b3, b4, b5⟩ := mt τ2 ((g1 18 (by omega)).trans h18) ((g1 2 (by omega)).trans l3) g2 (by rw [F2.2.1])
    rw [hq] at a3 b5
    obtain ⟨a4, a5⟩ := a3 b5.2.2
    refine fin (nI e) τ3 (nI (poT C L q)) (ne_nI (b := 0) (by have := b5.2.2; omega) (by omega) (by have := b5.2.2; omega)) a4 (v2.trans a5) b1 b2 b3 ?_
    unfold jRd jX7_read_164
    rw [if_neg b5.n.2, b5.2.1]
    have e13 : (wI τ3 M 17 (nI (poT C L q))).1 M 13 = τ3.1 M 13 := by rw [wI_a, if_neg (by omega)]
    dsimp only
    rw [e13, if_neg b5.n.2, b5.1]
  | ok Y =>
    have W := wx_tells 401 X0 0 WX0 Y hq
    cases hla : Y.la with
    | some x =>
      obtain ⟨k, q⟩ := x
      obtain ⟨τ3, b1, b2, b3, b4, b5⟩ := mt τ2 ((g1 18 (by omega)).trans h18) ((g1 2 (by omega)).trans l3) g2 (by rw [F2.2.1])
      rw [hq] at a3 b5
      dsimp only at a3
      rw [hla] at a3
      obtain ⟨a4, a5⟩ := a3
      obtain ⟨p', s', b', T3⟩ := b5
      have l3' := T3.2.1
      rw [hla] at l3'
      obtain ⟨m1, m2, m3, m4, m5⟩ := l3'
      have h13 := T3.1.1.2.2.2.2
      have hk0 : ¬ nI k ≤ 0 := fun z => by
        have : ¬ nI k ≤ nI 0 := le_nI (by omega) (by omega) (by omega)
        exact this z
      refine fin (nI k) τ3 (nI (poT C L q)) (ne_nI (b := 0) (by omega) (by omega) (by omega)) a4 (v2.trans a5) b1 b2 b3 ?_
      unfold jRd jX7_read_164
      rw [h13, if_pos (by decide), m1, if_neg hk0, m2]
      have e13 : (wI τ3 M 17 (nI (poT C L q))).1 M 13 = 0 := by rw [wI_a, if_neg (by omega)]; exact h13
      have e15 : (wI τ3 M 17 (nI (poT C L q))).1 M 15 = nI k := by rw [wI_a, if_neg (by omega)]; exact m1
      dsimp only
      rw [e13, if_pos (by decide), e15, if_neg hk0]
    | none =>
      rw [hq] at a3
      dsimp only at a3
      rw [hla] at a3
      obtain ⟨a4, a5, a6⟩ := a3
      subst a4
      rw [if_pos rfl] at rd
      -- the class takes the draft
      have Z2 : CTZ τ2 t' Y := by
        obtain ⟨z1, z2, z3, z4⟩ := a6
        have e : ∀ k j, k ≠ 0 → τ2.1 k j = τ1.1 k j := fun k j hk => hF2.1 _ _ (fun z => hk z.1)
        exact ⟨z1.fs hF2 (fun x j y1 y2 q => by omega), (e _ _ (by omega)).trans z2, fun x hx => by rw [e _ _ (by omega), e _ _ (by omega), e _ _ (by omega)]; exact z3 x hx, fun x hx => (e _ _ (by omega)).trans (z4 x hx)⟩
      have hn8 := Z2.1.1.1
      have hm6 := Z2.1.1.2
      have r3 : τ2.2.2.1 0 3 = t := (F2.2.2 _ _ (by omega)).trans ht1
      have r4 : τ2.2.2.1 0 4 = t' := (F2.2.2 _ _ (by omega)).trans ht2
      have td : fX6_takeDraft 0 τ2 = (fX2_begin (0 + 31) t' (wT (wT τ2 0 3 t') 0 4 t)).bind (fun σ9 => (let σ13 := wI σ9 0 11 (0 : Int32); let σ14 := wI σ13 0 13 (0 : Int32); let σ15 := wI σ14 0 16 (0 : Int32); let σ16 := wI σ15 0 15 (0 : Int32); some σ16)) := by
        unfold fX6_takeDraft
        dsimp only
        rw [r3, r4]
        have : (wT (wT τ2 0 3 t') 0 4 t).2.2.1 0 3 = t' := by
          show va_up (va_up τ2.2.2.1 0 (va_up (τ2.2.2.1 0) 3 t')) 0 (va_up (va_up τ2.2.2.1 0 (va_up (τ2.2.2.1 0) 3 t') 0) 4 t) 0 3 = t'
          simp [va_up]
        rw [this]
      have w1 : (wT (wT τ2 0 3 t') 0 4 t).1 = τ2.1 := rfl
      have w2 : (wT (wT τ2 0 3 t') 0 4 t).2.1 = τ2.2.1 := rfl
      have w3 : ∀ k j, (wT (wT τ2 0 3 t') 0 4 t).2.2.1 k j = if k = 0 ∧ j = 3 then t' else if k = 0 ∧ j = 4 then t else τ2.2.2.1 k j := fun k j => by
        show va_up (va_up τ2.2.2.1 0 (va_up (τ2.2.2.1 0) 3 t')) 0 (va_up (va_up τ2.2.2.1 0 (va_up (τ2.2.2.1 0) 3 t') 0) 4 t) k j = _
        by_cases hk : k = 0
        · subst hk
          by_cases h3 : j = 3
          · subst h3; simp [va_up]
          · by_cases h4 : j = 4
            · subst h4; simp [va_up]
            · simp [va_up, h3, h4]
        · simp [va_up, hk]
      generalize wT (wT τ2 0 3 t') 0 4 t = τ4 at td w1 w2 w3
      obtain ⟨τ5, c1, c2, c3, c4, c5, c6⟩ := c_begin (σ := τ4) htt hn8 (by rw [w1]; exact Z2.1.2.1)
      have c1 : fX2_begin (0 + 31) t' τ4 = some τ5 := c1
      rw [c1, Option.bind_some] at td
      dsimp only at td
      have hF6 : Fs (fun k j => k = 0 ∧ (j = 11 ∨ j = 13 ∨ j = 15 ∨ j = 16)) τ5 (wI (wI (wI (wI τ5 0 11 0) 0 13 0) 0 16 0) 0 15 0) := (((Fs.rf.wI (by omega)).wI (by omega)).wI (by omega)).wI (by omega)
      have v6 : ∀ j, (j = 11 ∨ j = 13 ∨ j = 15 ∨ j = 16) → (wI (wI (wI (wI τ5 0 11 0) 0 13 0) 0 16 0) 0 15 0).1 0 j = 0 := fun j hj => by
        rcases hj with rfl | rfl | rfl | rfl <;> simp [wI_a]
      generalize wI (wI (wI (wI τ5 0 11 0) 0 13 0) 0 16 0) 0 15 0 = τ6 at td hF6 v6
      rw [td, Option.bind_some] at rd
      have e6 : ∀ k j, ¬ (31 ≤ k ∧ k ≤ 39) → ¬ (k = 0 ∧ (j = 11 ∨ j = 13 ∨ j = 15 ∨ j = 16)) → τ6.1 k j = τ2.1 k j := fun k j z1 z2 => (hF6.1 _ _ z2).trans ((c2.1 _ _ (by unfold rgS; omega)).trans (by rw [w1]))
      have e6r : ∀ k j, 31 ≤ k → k ≤ 39 → τ6.1 k j = τ5.1 k j := fun k j z1 z2 => hF6.1 _ _ (by omega)
      have t6 : ∀ k j, ¬ (k = 31 ∧ j = 0) → ¬ (k = 0 ∧ (j = 3 ∨ j = 4)) → τ6.2.2.1 k j = τ2.2.2.1 k j := fun k j z1 z2 => by rw [hF6.2, c2.2.2.1 k j z1, w3, if_neg (by omega), if_neg (by omega)]
      have t63 : τ6.2.2.1 0 3 = t' := by rw [hF6.2, c2.2.2.1 0 3 (by omega), w3, if_pos ⟨rfl, rfl⟩]
      have t64 : τ6.2.2.1 0 4 = t := by rw [hF6.2, c2.2.2.1 0 4 (by omega), w3, if_neg (by omega), if_pos ⟨rfl, rfl⟩]
      have t631 : τ6.2.2.1 31 0 = t' := by rw [hF6.2]; exact c3
      have j6 : τ6.2.1 = τ2.2.1 := by rw [hF6.2, c2.2.1, w2]
      -- the model
      obtain ⟨τ7, b1, b2, b3, b4, b5⟩ := mt τ6 (by rw [e6 _ _ (by omega) (by omega), g1 18 (by omega)]; exact h18) (by rw [e6 _ _ (by omega) (by omega), g1 2 (by omega)]; exact l3) (fun i => (e6 _ _ (by omega) (by omega)).trans (g2 i)) (by rw [j6, F2.2.1])
      rw [hq] at b5
      obtain ⟨p', s', b', T7⟩ := b5
      have l7 := T7.2.1
      rw [hla] at l7
      have l7 : τ7.1 M 15 = 0 := l7
      have h13 := T7.1.1.2.2.2.2
      have e8 : ∀ k j, k < M → τ7.1 k j = τ6.1 k j := fun k j hk => b2.1 _ _ (by unfold SMr SMt; omega)
      generalize hside : 1 - ℓ = side at b2 b4 T7
      have hs2 : side < 2 := by omega
      have jr : jRd M τ7 = jX7_read_164 M M (-1) τ7 := by
        unfold jRd
        rw [h13, if_pos (by decide), l7, if_pos (by decide)]
      unfold jX7_read_164 at jr
      dsimp only at jr
      have x13 : (wI τ7 M 17 (-1)).1 M 13 = 0 := by rw [wI_a, if_neg (by omega)]; exact h13
      have x15 : (wI τ7 M 17 (-1)).1 M 15 = 0 := by rw [wI_a, if_neg (by omega)]; exact l7
      have x19 : (wI τ7 M 17 (-1)).1 M 19 = nI side := by rw [wI_a, if_neg (by omega)]; exact b4
      rw [x13, if_pos (by decide), x15, if_pos (by decide), x19] at jr
      have hF8 : Fs (fun k j => k = M ∧ (j = 17 ∨ j = 18)) τ7 (wI (wI τ7 M 17 (-1)) M 18 (nI side)) := (Fs.rf.wI (by omega)).wI (by omega)
      have y17 : (wI (wI τ7 M 17 (-1)) M 18 (nI side)).1 M 17 = -1 := by rw [wI_a, if_neg (by omega), wI_a, if_pos ⟨rfl, rfl⟩]
      have y18 : (wI (wI τ7 M 17 (-1)) M 18 (nI side)).1 M 18 = nI side := by rw [wI_a, if_pos ⟨rfl, rfl⟩]
      generalize wI (wI τ7 M 17 (-1)) M 18 (nI side) = τ8 at jr hF8 y17 y18
      have q8 : ∀ k j, M < k → τ8.1 k j = τ7.1 k j := fun k j hk => hF8.1 _ _ (by omega)
      obtain ⟨τ9, d1, d2, d3, d4, d5⟩ := m_begins (σ := τ8) hs2 hn8 hm6 y18 ((q8 _ _ (by omega)).trans T7.2.2.2.2.1.1) ((q8 _ _ (by omega)).trans T7.2.2.2.2.2.1.1)
      obtain ⟨τa, i1, i2, i3⟩ := m_keeps (M := M) (σ := τ9)
      rw [d1, Option.bind_some, i1, Option.bind_some] at jr
      have hFb : Fs (fun k j => k = M ∧ (j = 53 ∨ j = 61)) τa (wI (wI τa M 53 0) M 61 0) := (Fs.rf.wI (by omega)).wI (by omega)
      have z53 : (wI (wI τa M 53 0) M 61 0).1 M 53 = 0 := by rw [wI_a, if_neg (by omega), wI_a, if_pos ⟨rfl, rfl⟩]
      have z61 : (wI (wI τa M 53 0) M 61 0).1 M 61 = 0 := by rw [wI_a, if_pos ⟨rfl, rfl⟩]
      generalize wI (wI τa M 53 0) M 61 0 = τb at jr hFb z53 z61
      obtain ⟨τc, k1, k2, k3⟩ := held_v (M := M) (σ := τb)
      rw [k1, Option.bind_some] at jr
      refine ⟨0, τ6, τc, rd, b1.trans jr, t', t, side, Y.n, Y.m, Y.bo, Y.dr, Y.lb, Y.lf, nI Y.sd, ?_⟩
      -- what became of the cells
      have G : Fs (fun k j => k = M ∧ (j = 17 ∨ j = 18 ∨ 49 ≤ j ∧ j ≤ 51 ∨ j = 53 ∨ j = 61) ∨ k = M + 30 ∨ k = M + 31 ∨ k = M + 38) τ7 τc := ((((hF8.mo (fun k j q => by omega)).tr (d2.mo (fun k j q => by omega))).tr (i2.mo (fun k j q => by omega))).tr (hFb.mo (fun k j q => by omega))).tr (k2.mo (fun k j q => by omega))
      have eC : ∀ k j, k < M → τc.1 k j = τ6.1 k j := fun k j hk => (G.1 _ _ (by omega)).trans (e8 _ _ hk)
      have eM : ∀ k j, M < k → k ≠ M + 30 → k ≠ M + 31 → k ≠ M + 38 → τc.1 k j = τ7.1 k j := fun k j z1 z2 z3 z4 => G.1 _ _ (by omega)
      have eT : τc.2.2.1 = τ6.2.2.1 := by rw [G.2, b2.2.2]
      have eJ : τc.2.1 (M + 7) = σ.2.1 (M + 7) := by rw [G.2, b2.2.1 _ (by omega), j6, F2.2.1]
      have c18 : τc.1 M 18 = nI side := by rw [k2.1 _ _ (by omega), hFb.1 _ _ (by omega), i2.1 _ _ (by omega), d2.1 _ _ (by omega)]; exact y18
      have c17 : τc.1 M 17 = -1 := by rw [k2.1 _ _ (by omega), hFb.1 _ _ (by omega), i2.1 _ _ (by omega), d2.1 _ _ (by omega)]; exact y17
      have c2' : τc.1 M 2 = 0 := by rw [G.1 _ _ (by omega)]; exact b3
      have c53 : τc.1 M 53 = 0 := by rw [k2.1 _ _ (by omega)]; exact z53
      have c61 : τc.1 M 61 = 0 := by rw [k2.1 _ _ (by omega)]; exact z61
      have row : ∀ x, x < 88 → τc.1 (M + 30) x = τ9.1 (M + 31) x := fun x hx => by rw [k2.1 _ _ (by omega), hFb.1 _ _ (by omega)]; exact i3 x hx
      obtain ⟨Z21, Z22, Z23, Z24⟩ := Z2
      have la0 := W.2.2.2.2 hla
      have ect : ∀ k j, t' ≤ k → k ≤ t' + 9 → τc.1 k j = τ2.1 k j := fun k j z1 z2 => (eC _ _ (by omega)).trans (e6 _ _ (by omega) (by omega))
      have MTc : MS τc M side Y.n Y.m Y.bo Y.dr Y.lb Y.lf := by
        have T8 : MTX τ8 M C L side Y p' s' b' := by
          obtain ⟨⟨⟨y1, y2, y3, y4, y5⟩, n2, n3, n4, n5, n6, n7⟩, A, B, Ym⟩ := T7
          exact ⟨⟨⟨y1.fs hF8 (fun k j z1 z2 => by omega), (hF8.1 _ _ (by omega)).trans y2, y3, y4, (hF8.1 _ _ (by omega)).trans y5⟩, (hF8.1 _ _ (by omega)).trans n2, (hF8.1 _ _ (by omega)).trans n3, n4, n5, (hF8.1 _ _ (by omega)).trans n6, n7⟩, A.fs hF8 (fun j z1 z2 => by omega), B, Ym.fs hF8 (fun k j q => by omega)⟩
        have M8 := T8.ms W y18
        have Hc : Fs (fun k j => k = M ∧ (49 ≤ j ∧ j ≤ 51 ∨ j = 53 ∨ j = 61) ∨ k = M + 30 ∨ k = M + 31 ∨ k = M + 38) τ8 τc := (((d2.mo (fun k j q => by omega)).tr (i2.mo (fun k j q => by omega))).tr (hFb.mo (fun k j q => by omega))).tr (k2.mo (fun k j q => by omega))
        obtain ⟨y1, y2, y3, y4⟩ := M8
        exact ⟨y1.fs Hc (by omega) (by omega) (by omega), fun x hx => (Hc.1 _ _ (by omega)).trans (y2 x hx), fun x hx => (Hc.1 _ _ (by omega)).trans (y3 x hx), fun k hk => (y4 k hk).fs Hc (fun x j z1 z2 => by omega)⟩
      refine ⟨⟨hM, by omega, by rw [eT]; exact t63, by rw [eT]; exact t64, ?_, MTc, ?_, ?_, fun e he => (la0.2 e he).1⟩, ⟨by rw [eT]; exact t631, ⟨⟨?_, ?_, ?_, ?_, ?_, ?_, ?_⟩, fun x hx => ?_, fun e he => ?_⟩, ⟨fun x hx => ⟨Or.inl ?_, Or.inl ?_, Or.inl ?_⟩, fun e he => ?_, fun e he => Or.inl ?_, ?_, ?_, fun x hx => ?_⟩, ?_, ?_, ?_, fun _ => ?_⟩, ⟨0, pn, ⟨by omega, hu.2⟩, ?_, c53, ?_, fun i hi => by omega⟩, ⟨fun _ => false, ?_, fun _ _ => rfl, fun s hs => ⟨k3 s hs, fun q => by cases q⟩⟩, ⟨0, by omega, ?_, c61, fun i hi => by omega⟩, ⟨⟨0, by omega, ?_, c2', fun i hi => by omega⟩, ?_⟩, fun i hi => ?_, fun i hi => ?_, fun k hk => by rw [eJ]; exact f3 k hk⟩
      · exact Z21.fs (S := fun k j => ¬ (t' ≤ k ∧ k ≤ t' + 9)) (τ := (τc.1, τ2.2)) ⟨fun k j hk => by
          have := Classical.not_not.mp hk
          exact ect k j this.1 this.2, rfl⟩ (fun x j z1 z2 q => q ⟨z1, z2⟩)
      · rw [ect _ _ (by omega) (by omega)]; exact Z22
      · rw [eM _ _ (by omega) (by omega) (by omega) (by omega)]; exact T7.2.2.2.2.2.2.2.1
      · rw [eC _ _ (by omega), e6r _ _ (by omega) (by omega), row 84 (by omega), d4 84 (by omega) (by omega) (by omega)]; exact c4.1
      · rw [eC _ _ (by omega), e6r _ _ (by omega) (by omega), c4.2.1]
        congr 1
        refine mk8_c (fun i hi => ?_)
        show decide (i < Y.n) = decide (i < Y.n ∧ τc.1 (M + 30) (40 + i) = 0)
        rw [row _ (by omega), d4 _ (by omega) (by omega) (by omega)]
        simp
      · rw [eC _ _ (by omega), e6r _ _ (by omega) (by omega), c4.2.2.1]
        refine mk8_f (fun i hi => ?_)
        show decide (i < Y.n ∧ τc.1 (M + 30) (40 + i) = 2) = false
        rw [row _ (by omega), d4 _ (by omega) (by omega) (by omega)]
        simp
      · rw [eC _ _ (by omega), e6r _ _ (by omega) (by omega), c4.2.2.2.1]
        refine mk8_f (fun i hi => ?_)
        show decide (i < Y.n ∧ τc.1 (M + 30) (32 + i) = 1) = false
        rw [row _ (by omega), d4 _ (by omega) (by omega) (by omega)]
        simp
      · rw [eC _ _ (by omega), e6r _ _ (by omega) (by omega), c4.2.2.2.2.1]
        refine mk8_f (fun i hi => ?_)
        show decide (i < Y.n ∧ τc.1 (M + 30) (56 + i) = 1) = false
        rw [row _ (by omega), d4 _ (by omega) (by omega) (by omega)]
        simp
      · rw [eC _ _ (by omega), e6r _ _ (by omega) (by omega), row 86 (by omega), d4 86 (by omega) (by omega) (by omega)]; exact c4.2.2.2.2.2.2.2.2.2.1
      · rw [eC _ _ (by omega), e6r _ _ (by omega) (by omega), row 87 (by omega), d4 87 (by omega) (by omega) (by omega)]; exact c4.2.2.2.2.2.2.2.2.2.2
      · obtain ⟨o1, o2, o3, o4, o5, o6⟩ := c5 x (by omega)
        obtain ⟨s1, s2, s3, s4, s5⟩ := d3 x hx
        obtain ⟨y1, y2, y3⟩ := Z23 x hx
        obtain ⟨z1, z2, z3⟩ := T7.2.2.2.2.2.2.2.2.2.1 x hx
        rw [w1] at o1 o2 o3
        refine ⟨?_, ?_, ?_, ?_, ?_, ?_⟩
        · rw [eC _ _ (by omega), e6r _ _ (by omega) (by omega), row _ (by omega), s1, q8 _ _ (by omega), z1]; exact o1.trans y1
        · rw [eC _ _ (by omega), e6r _ _ (by omega) (by omega), row _ (by omega), s2, q8 _ _ (by omega), z2]; exact o2.trans y2
        · rw [eC _ _ (by omega), e6r _ _ (by omega) (by omega), row _ (by omega), s3, q8 _ _ (by omega), z3]; exact o3.trans y3
        · rw [eC _ _ (by omega), e6r _ _ (by omega) (by omega), row _ (by omega), s4]; exact o4
        · rw [eC _ _ (by omega), e6r _ _ (by omega) (by omega), row _ (by omega), d4 _ (by omega) (by omega) (by omega)]; exact o5
        · rw [eC _ _ (by omega), e6r _ _ (by omega) (by omega), row _ (by omega), s5]; exact o6
      · obtain ⟨o1, o2⟩ := c6 e (by omega)
        obtain ⟨s1, s2⟩ := d5 e he
        rw [w1] at o1
        refine ⟨?_, ?_⟩
        · rw [eC _ _ (by omega), e6r _ _ (by omega) (by omega), row _ (by omega), s1, q8 _ _ (by omega), (T7.2.2.2.2.2.2.2.2.2.2.1 e he).2]; exact o1.trans (Z24 e he)
        · rw [eC _ _ (by omega), e6r _ _ (by omega) (by omega), row _ (by omega), s2]; exact o2
      · rw [row _ (by omega), d4 _ (by omega) (by omega) (by omega)]
      · rw [row _ (by omega), d4 _ (by omega) (by omega) (by omega)]
      · rw [row _ (by omega), d4 _ (by omega) (by omega) (by omega)]
      · obtain ⟨b, b1, b2⟩ := (la0.2 e he).2
        refine ⟨b, b1, ?_⟩
        rw [row _ (by omega), (d5 e he).1, q8 _ _ (by omega), (T7.2.2.2.2.2.2.2.2.2.2.1 e he).2]; exact b2
      · rw [row _ (by omega), (d5 e he).2]
      · rw [row _ (by omega), d4 _ (by omega) (by omega) (by omega)]; exact Int32.le_refl _
      · rw [row _ (by omega), d4 _ (by omega) (by omega) (by omega)]; decide
      · rw [row _ (by omega), (d3 x hx).2.1, q8 _ _ (by omega), (T7.2.2.2.2.2.2.2.2.2.1 x hx).2.1]
        exact nI_n1 (by have := la0.1 x hx; omega)
      · rw [eC _ _ (by omega), e6r _ _ (by omega) (by omega), c4.2.2.2.2.2.1]
        refine mk8_f (fun i hi => ?_)
        refine decide_eq_false (fun z => ?_)
        have : (0 : Int32) ≤ nI i := nI_n1 (by omega)
        rw [z] at this
        exact absurd this (by decide)
      · rw [eC _ _ (by omega), e6r _ _ (by omega) (by omega)]; exact c4.2.2.2.2.2.2.1
      · rw [eC _ _ (by omega), e6r _ _ (by omega) (by omega), c4.2.2.2.2.2.2.2.1, w1]; exact Z22
      · rw [eC _ _ (by omega), e6r _ _ (by omega) (by omega), c4.2.2.2.2.2.2.2.2.1, row _ (by omega), d4 _ (by omega) (by omega) (by omega)]
      · rw [eC _ _ (by omega)]; exact v6 11 (by omega)
      · rw [eC _ _ (by omega), e6 _ _ (by omega) (by omega), F2.1 _ _ (by unfold SRd SCt SMr SMt; omega)]; exact u3
      · rw [eC _ _ (by omega)]; exact (v6 13 (by omega)).trans (mk8_f (fun _ _ => rfl))
      · rw [eC _ _ (by omega)]; exact v6 16 (by omega)
      · rw [eC _ _ (by omega), e6 _ _ (by omega) (by omega)]; exact v1
      · rw [eC _ _ (by omega), e6 _ _ (by omega) (by omega), c17, v2]; exact a5
      · rw [eT, t6 _ _ (by omega) (by omega), F2.2.2 _ _ (by omega)]; exact f1 i hi
      · rw [eT, t6 _ _ (by omega) (by omega), F2.2.2 _ _ (by omega)]; exact f2 i hi
end READ2
