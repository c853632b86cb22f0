/-! a text begins -/
section BEGIN
variable {M L ℓ n m a t : Nat} {σ τ : Sg}
theorem cpy_v {b c : Nat} {k : Int32} {N : Nat} (hk : k.toNatClampNeg = N) : Fs (fun x _ => x = b) σ (wR σ b (va_cpy (σ.1 c) (σ.1 b) ((0 : Int32)).toNatClampNeg ((0 : Int32)).toNatClampNeg k.toNatClampNeg)) ∧ ∀ j, j < N → (wR σ b (va_cpy (σ.1 c) (σ.1 b) ((0 : Int32)).toNatClampNeg ((0 : Int32)).toNatClampNeg k.toNatClampNeg)).1 b j = σ.1 c j := by
  have e : ((0 : Int32)).toNatClampNeg = 0 := rfl
  refine ⟨⟨fun x j hx => by rw [wR_n hx], rfl⟩, fun j hj => ?_⟩
  rw [wR_k, e, hk, pk_cpy_in (Nat.zero_le _) (by omega), Nat.zero_add, Nat.sub_zero]
theorem all_n (hn : n ≤ 8) : ((1 : Int32) <<< (nI n &&& 31)) - (1 : Int32) = nI (mk8 (fun h => decide (h < n))) := by
  have : ∀ j : Fin 9, ((1 : Int32) <<< (nI j.1 &&& 31)) - (1 : Int32) = nI (mk8 (fun h => decide (h < j.1))) := by decide +kernel
  exact this ⟨n, by omega⟩
/-- the class's ring begins -/
theorem c_begin (ht : t = 2 ∨ t = 14) (hn : n ≤ 8) (h0 : σ.1 t 0 = nI n) : ∃ τ, fX2_begin 31 t σ = some τ ∧ Fc (rgS 31) 31 σ τ ∧ τ.2.2.1 31 0 = t ∧ (τ.1 31 1 = 0 ∧ τ.1 31 2 = nI (mk8 (fun h => decide (h < n))) ∧ τ.1 31 3 = 0 ∧ τ.1 31 4 = 0 ∧ τ.1 31 5 = 0 ∧ τ.1 31 6 = 0 ∧ τ.1 31 7 = 0 ∧ τ.1 31 8 = σ.1 t 3 ∧ τ.1 31 9 = 0 ∧ τ.1 31 10 = 0 ∧ τ.1 31 11 = 0) ∧ (∀ h, h < 8 → τ.1 32 h = σ.1 (t + 2) h ∧ τ.1 33 h = σ.1 (t + 3) h ∧ τ.1 34 h = σ.1 (t + 4) h ∧ τ.1 35 h = nI h ∧ τ.1 36 h = 0 ∧ τ.1 37 h = -2) ∧ ∀ e, e < 6 → τ.1 38 e = σ.1 (t + 6) e ∧ τ.1 39 e = -2 := by
  unfold fX2_begin
  dsimp only
  have e3 : (wI (wI (wI (wI (wI (wI (wI (wT σ 31 0 t) 31 1 0) 31 2 ((1 <<< ((wI (wT σ 31 0 t) 31 1 0).1 t 0 &&& 31)) - 1)) 31 3 0) 31 4 0) 31 5 0) 31 6 0) 31 7 0).1 t 3 = σ.1 t 3 := by
    rw [wI_n (by omega), wI_n (by omega), wI_n (by omega), wI_n (by omega), wI_n (by omega), wI_n (by omega), wI_n (by omega)]; rfl
  have e0 : (wI (wT σ 31 0 t) 31 1 0).1 t 0 = nI n := by rw [wI_n (by omega)]; exact h0
  rw [e3, e0, all_n hn]
  have g1 : Fc (fun k _ => k = 31) 31 σ (wI (wI (wI (wI (wI (wI (wI (wI (wI (wI (wI (wT σ 31 0 t) 31 1 0) 31 2 (nI (mk8 (fun h => decide (h < n))))) 31 3 0) 31 4 0) 31 5 0) 31 6 0) 31 7 0) 31 8 (σ.1 t 3)) 31 9 0) 31 10 0) 31 11 0) := by
    refine ⟨fun k j hk => ?_, rfl, fun k j hk => ?_, rfl⟩
    · rw [wI_n hk, wI_n hk, wI_n hk, wI_n hk, wI_n hk, wI_n hk, wI_n hk, wI_n hk, wI_n hk, wI_n hk, wI_n hk]; rfl
    · show va_up σ.2.2.1 31 (va_up (σ.2.2.1 31) 0 t) k j = _
      by_cases q : k = 31
      · subst q
        have : j ≠ 0 := fun z => hk ⟨rfl, z⟩
        simp [va_up, this]
      · rw [va_up_ne _ _ q]
  have g2 : (wI (wI (wI (wI (wI (wI (wI (wI (wI (wI (wI (wT σ 31 0 t) 31 1 0) 31 2 (nI (mk8 (fun h => decide (h < n))))) 31 3 0) 31 4 0) 31 5 0) 31 6 0) 31 7 0) 31 8 (σ.1 t 3)) 31 9 0) 31 10 0) 31 11 0).2.2.1 31 0 = t := by
    show va_up σ.2.2.1 31 (va_up (σ.2.2.1 31) 0 t) 31 0 = t
    simp [va_up]
  have g3 : ∀ j, 1 ≤ j → j ≤ 11 → (wI (wI (wI (wI (wI (wI (wI (wI (wI (wI (wI (wT σ 31 0 t) 31 1 0) 31 2 (nI (mk8 (fun h => decide (h < n))))) 31 3 0) 31 4 0) 31 5 0) 31 6 0) 31 7 0) 31 8 (σ.1 t 3)) 31 9 0) 31 10 0) 31 11 0).1 31 j = if j = 2 then nI (mk8 (fun h => decide (h < n))) else if j = 8 then σ.1 t 3 else 0 := fun j h1 h2 => by
    rcases (show j = 1 ∨ j = 2 ∨ j = 3 ∨ j = 4 ∨ j = 5 ∨ j = 6 ∨ j = 7 ∨ j = 8 ∨ j = 9 ∨ j = 10 ∨ j = 11 by omega) with rfl | rfl | rfl | rfl | rfl | rfl | rfl | rfl | rfl | rfl | rfl <;> simp [wI_a]
  generalize wI (wI (wI (wI (wI (wI (wI (wI (wI (wI (wI (wT σ 31 0 t) 31 1 0) 31 2 (nI (mk8 (fun h => decide (h < n))))) 31 3 0) 31 4 0) 31 5 0) 31 6 0) 31 7 0) 31 8 (σ.1 t 3)) 31 9 0) 31 10 0) 31 11 0 = σ1 at g1 g2 g3
  obtain ⟨p1, p2⟩ := cpy_v (σ := σ1) (b := 31 + 1) (c := t + 2) (k := 8) (N := 8) rfl
  generalize wR σ1 (31 + 1) (va_cpy (σ1.1 (t + 2)) (σ1.1 (31 + 1)) ((0 : Int32)).toNatClampNeg ((0 : Int32)).toNatClampNeg ((8 : Int32)).toNatClampNeg) = σ2 at p1 p2
  obtain ⟨q1, q2⟩ := cpy_v (σ := σ2) (b := 31 + 2) (c := t + 3) (k := 8) (N := 8) rfl
  generalize wR σ2 (31 + 2) (va_cpy (σ2.1 (t + 3)) (σ2.1 (31 + 2)) ((0 : Int32)).toNatClampNeg ((0 : Int32)).toNatClampNeg ((8 : Int32)).toNatClampNeg) = σ3 at q1 q2
  obtain ⟨r1, r2⟩ := cpy_v (σ := σ3) (b := 31 + 3) (c := t + 4) (k := 8) (N := 8) rfl
  generalize wR σ3 (31 + 3) (va_cpy (σ3.1 (t + 4)) (σ3.1 (31 + 3)) ((0 : Int32)).toNatClampNeg ((0 : Int32)).toNatClampNeg ((8 : Int32)).toNatClampNeg) = σ4 at r1 r2
  obtain ⟨σ5, s1, s2, s3⟩ := lp_inv (f := fun st : Int32 × Sg => bX2_begin_117 31 t st.1 st.2) 8 (fun i τ => Fs (fun x _ => x = 31 + 4) σ4 τ ∧ ∀ h, h < i → τ.1 (31 + 4) h = nI h) (fun i τ hi hI => by
    refine ⟨wI τ (31 + 4) i (nI i), ?_, hI.1.wI rfl, fun h hh => ?_⟩
    · show bX2_begin_117 31 t (nI i) τ = _
      unfold bX2_begin_117
      rw [if_neg (show ¬ (8 : Int32) ≤ nI i from le_nI (a := 8) (by omega) (by omega) hi)]
      simp (disch := omega) only [vif, nI_clamp]
      rw [nI_s]
    · rw [wI_a]
      by_cases z : h = i
      · rw [if_pos ⟨rfl, z⟩, z]
      · rw [if_neg (by omega)]; exact hI.2 h (by omega)) (fun τ hI => by
    show bX2_begin_117 31 t (nI 8) τ = _
    unfold bX2_begin_117
    rw [if_pos (show (8 : Int32) ≤ nI 8 by decide)]) (σ := σ4) ⟨Fs.rf, fun h hh => by omega⟩
  have s1 : lp (fun st : Int32 × Sg => bX2_begin_117 31 t st.1 st.2) (0, σ4) = some σ5 := s1
  rw [s1, Option.bind_some]
  obtain ⟨σ6, u1, u2, u3⟩ := fill_v 8 (31 + 5) 0 σ5 (by omega)
  rw [u2, Option.bind_some]
  obtain ⟨σ7, w1, w2, w3⟩ := fill_v 8 (31 + 6) (-2) σ6 (by omega)
  rw [w2, Option.bind_some]
  obtain ⟨x1, x2⟩ := cpy_v (σ := σ7) (b := 31 + 7) (c := t + 6) (k := 6) (N := 6) rfl
  generalize wR σ7 (31 + 7) (va_cpy (σ7.1 (t + 6)) (σ7.1 (31 + 7)) ((0 : Int32)).toNatClampNeg ((0 : Int32)).toNatClampNeg ((6 : Int32)).toNatClampNeg) = σ8 at x1 x2
  obtain ⟨σ9, y1, y2, y3⟩ := fill_v 6 (31 + 8) (-2) σ8 (by omega)
  rw [y2, Option.bind_some]
  have G : Fs (fun x _ => 32 ≤ x ∧ x ≤ 39) σ1 σ9 := (((((((p1.mo (fun x j z => by omega)).tr (q1.mo (fun x j z => by omega))).tr (r1.mo (fun x j z => by omega))).tr (s2.mo (fun x j z => by omega))).tr (u1.mo (fun x j z => by omega))).tr (w1.mo (fun x j z => by omega))).tr (x1.mo (fun x j z => by omega))).tr (y1.mo (fun x j z => by omega))
  have g3' : ∀ j, 1 ≤ j → j ≤ 11 → σ9.1 31 j = if j = 2 then nI (mk8 (fun h => decide (h < n))) else if j = 8 then σ.1 t 3 else 0 := fun j h1 h2 => (G.1 _ _ (by omega)).trans (g3 j h1 h2)
  refine ⟨σ9, rfl, (g1.mo (fun k j z => by unfold rgS; omega)).tr ((G.mo (fun k j z => by unfold rgS; omega)).fc), by rw [G.2]; exact g2, ⟨g3' 1 (by omega) (by omega), g3' 2 (by omega) (by omega), g3' 3 (by omega) (by omega), g3' 4 (by omega) (by omega), g3' 5 (by omega) (by omega), g3' 6 (by omega) (by omega), g3' 7 (by omega) (by omega), g3' 8 (by omega) (by omega), g3' 9 (by omega) (by omega), g3' 10 (by omega) (by omega), g3' 11 (by omega) (by omega)⟩, fun h hh => ⟨?_, ?_, ?_, ?_, ?_, ?_⟩, fun e he => ⟨?_, ?_⟩⟩
  · rw [y1.1 _ _ (by omega), x1.1 _ _ (by omega), w1.1 _ _ (by omega), u1.1 _ _ (by omega), s2.1 _ _ (by omega), r1.1 _ _ (by omega), q1.1 _ _ (by omega)]
    exact (p2 h hh).trans (g1.1 _ _ (by omega))
  · rw [y1.1 _ _ (by omega), x1.1 _ _ (by omega), w1.1 _ _ (by omega), u1.1 _ _ (by omega), s2.1 _ _ (by omega), r1.1 _ _ (by omega)]
    exact (q2 h hh).trans ((p1.1 _ _ (by omega)).trans (g1.1 _ _ (by omega)))
  · rw [y1.1 _ _ (by omega), x1.1 _ _ (by omega), w1.1 _ _ (by omega), u1.1 _ _ (by omega), s2.1 _ _ (by omega)]
    exact (r2 h hh).trans ((q1.1 _ _ (by omega)).trans ((p1.1 _ _ (by omega)).trans (g1.1 _ _ (by omega))))
  · rw [y1.1 _ _ (by omega), x1.1 _ _ (by omega), w1.1 _ _ (by omega), u1.1 _ _ (by omega)]
    exact s3 h hh
  · rw [y1.1 _ _ (by omega), x1.1 _ _ (by omega), w1.1 _ _ (by omega)]
    exact u3 h hh
  · rw [y1.1 _ _ (by omega), x1.1 _ _ (by omega)]
    exact w3 h hh
  · rw [y1.1 _ _ (by omega)]
    exact (x2 e he).trans ((w1.1 _ _ (by omega)).trans ((u1.1 _ _ (by omega)).trans ((s2.1 _ _ (by omega)).trans ((r1.1 _ _ (by omega)).trans ((q1.1 _ _ (by omega)).trans ((p1.1 _ _ (by omega)).trans (g1.1 _ _ (by omega))))))))
  · exact y3 e he
/-- the model's row begins -/
theorem m_begins (hℓ : ℓ < 2) (hn : n ≤ 8) (hm : m ≤ 6) (h18 : σ.1 M 18 = nI ℓ) (h9 : σ.1 (M + 9) ℓ = nI n) (h14 : σ.1 (M + 14) ℓ = nI m) : ∃ τ, fX7_begins M σ = some τ ∧ Fs (fun k j => k = M + 31 ∨ k = M ∧ 49 ≤ j ∧ j ≤ 51) σ τ ∧ (∀ h, h < n → τ.1 (M + 31) h = σ.1 (M + 10) (8 * ℓ + h) ∧ τ.1 (M + 31) (8 + h) = σ.1 (M + 11) (8 * ℓ + h) ∧ τ.1 (M + 31) (16 + h) = σ.1 (M + 12) (8 * ℓ + h) ∧ τ.1 (M + 31) (24 + h) = nI h ∧ τ.1 (M + 31) (64 + h) = -2) ∧ (∀ x, 32 ≤ x → x < 88 → ¬ (64 ≤ x ∧ x < 84) → τ.1 (M + 31) x = 0) ∧ ∀ e, e < m → τ.1 (M + 31) (72 + e) = σ.1 (M + 16) (6 * ℓ + e) ∧ τ.1 (M + 31) (78 + e) = -2 := by
  unfold fX7_begins
  obtain ⟨σ1, a1, a2, a3⟩ := lp_inv (f := fun st : Int32 × Sg => bX7_begins_2 M st.1 st.2) 88 (fun i τ => Fs (fun x _ => x = M + 31) σ τ ∧ ∀ h, h < i → τ.1 (M + 31) h = 0) (fun i τ hi hI => by
    refine ⟨wI τ (M + 31) i 0, ?_, hI.1.wI rfl, fun h hh => ?_⟩
    · show bX7_begins_2 M (nI i) τ = _
      unfold bX7_begins_2
      rw [if_neg (show ¬ (88 : Int32) ≤ nI i from le_nI (a := 88) (by omega) (by omega) hi)]
      simp (disch := omega) only [vif, nI_clamp]
      rw [nI_s]
    · rw [wI_a]
      by_cases z : h = i
      · rw [if_pos ⟨rfl, z⟩]
      · rw [if_neg (by omega)]; exact hI.2 h (by omega)) (fun τ hI => by
    show bX7_begins_2 M (nI 88) τ = _
    unfold bX7_begins_2
    rw [if_pos (show (88 : Int32) ≤ nI 88 by decide)]) (σ := σ) ⟨Fs.rf, fun h hh => by omega⟩
  have a1 : lp (fun st : Int32 × Sg => bX7_begins_2 M st.1 st.2) (0, σ) = some σ1 := a1
  rw [a1, Option.bind_some]
  obtain ⟨σ2, b1, b2, b3, b4⟩ := lp_inv (f := fun st : Int32 × Sg => bX7_begins_23 M st.1 st.2) n (fun i τ => Fs (fun x _ => x = M + 31) σ1 τ ∧ (∀ h, h < i → τ.1 (M + 31) h = σ.1 (M + 10) (8 * ℓ + h) ∧ τ.1 (M + 31) (8 + h) = σ.1 (M + 11) (8 * ℓ + h) ∧ τ.1 (M + 31) (16 + h) = σ.1 (M + 12) (8 * ℓ + h) ∧ τ.1 (M + 31) (24 + h) = nI h ∧ τ.1 (M + 31) (64 + h) = -2) ∧ ∀ x, 32 ≤ x → x < 88 → ¬ (64 ≤ x ∧ x < 72) → τ.1 (M + 31) x = 0) (fun i τ hi hI => by
    obtain ⟨i1, i2, i3⟩ := hI
    have e : ∀ k j, k ≠ M + 31 → τ.1 k j = σ.1 k j := fun k j hk => (i1.1 _ _ hk).trans (a2.1 _ _ hk)
    refine ⟨wI (wI (wI (wI (wI τ (M + 31) i (σ.1 (M + 10) (8 * ℓ + i))) (M + 31) (8 + i) (σ.1 (M + 11) (8 * ℓ + i))) (M + 31) (16 + i) (σ.1 (M + 12) (8 * ℓ + i))) (M + 31) (24 + i) (nI i)) (M + 31) (64 + i) (-2), ?_, ((((i1.wI rfl).wI rfl).wI rfl).wI rfl).wI rfl, fun h hh => ?_, fun x h1 h2 h3 => ?_⟩
    · show bX7_begins_23 M (nI i) τ = _
      unfold bX7_begins_23
      have w1 : (wI τ (M + 31) i (σ.1 (M + 10) (8 * ℓ + i))).1 M 18 = nI ℓ := by rw [wI_n (by omega), e _ _ (by omega)]; exact h18
      have w2 : (wI (wI τ (M + 31) i (σ.1 (M + 10) (8 * ℓ + i))) (M + 31) (8 + i) (σ.1 (M + 11) (8 * ℓ + i))).1 M 18 = nI ℓ := by rw [wI_n (by omega)]; exact w1
      have w3 : (wI τ (M + 31) i (σ.1 (M + 10) (8 * ℓ + i))).1 (M + 11) (8 * ℓ + i) = σ.1 (M + 11) (8 * ℓ + i) := by rw [wI_n (by omega), e _ _ (by omega)]
      have w4 : (wI (wI τ (M + 31) i (σ.1 (M + 10) (8 * ℓ + i))) (M + 31) (8 + i) (σ.1 (M + 11) (8 * ℓ + i))).1 (M + 12) (8 * ℓ + i) = σ.1 (M + 12) (8 * ℓ + i) := by rw [wI_n (by omega), wI_n (by omega), e _ _ (by omega)]
      rw [e M 18 (by omega), h18, e (M + 9) _ (by omega)]
      simp (disch := omega) only [vif, nI_clamp]
      rw [h9, if_neg (le_nI (by omega) (by omega) hi), k8m, nI_add]
      simp (disch := omega) only [vif, nI_clamp]
      rw [e (M + 10) _ (by omega), w1, k8m, nI_add, show (8 : Int32) + nI i = nI (8 + i) from nI_add 8 i]
      simp (disch := omega) only [vif, nI_clamp]
      rw [w3, w2, k8m, nI_add, show (16 : Int32) + nI i = nI (16 + i) from nI_add 16 i]
      simp (disch := omega) only [vif, nI_clamp]
      rw [w4, show (24 : Int32) + nI i = nI (24 + i) from nI_add 24 i, show (64 : Int32) + nI i = nI (64 + i) from nI_add 64 i]
      simp (disch := omega) only [vif, nI_clamp]
      rw [nI_s]
    · by_cases z : h = i
      · subst z
        refine ⟨?_, ?_, ?_, ?_, ?_⟩
        · rw [wI_a, if_neg (by omega), wI_a, if_neg (by omega), wI_a, if_neg (by omega), wI_a, if_neg (by omega), wI_a, if_pos ⟨rfl, rfl⟩]
        · rw [wI_a, if_neg (by omega), wI_a, if_neg (by omega), wI_a, if_neg (by omega), wI_a, if_pos ⟨rfl, rfl⟩]
        · rw [wI_a, if_neg (by omega), wI_a, if_neg (by omega), wI_a, if_pos ⟨rfl, rfl⟩]
        · rw [wI_a, if_neg (by omega), wI_a, if_pos ⟨rfl, rfl⟩]
        · rw [wI_a, if_pos ⟨rfl, rfl⟩]
      · have o : ∀ x, ¬ (x = i ∨ x = 8 + i ∨ x = 16 + i ∨ x = 24 + i ∨ x = 64 + i) → (wI (wI (wI (wI (wI τ (M + 31) i (σ.1 (M + 10) (8 * ℓ + i))) (M + 31) (8 + i) (σ.1 (M + 11) (8 * ℓ + i))) (M + 31) (16 + i) (σ.1 (M + 12) (8 * ℓ + i))) (M + 31) (24 + i) (nI i)) (M + 31) (64 + i) (-2)).1 (M + 31) x = τ.1 (M + 31) x := fun x hx => by
          rw [wI_a, if_neg (by omega), wI_a, if_neg (by omega), wI_a, if_neg (by omega), wI_a, if_neg (by omega), wI_a, if_neg (by omega)]
        rw [o _ (by omega), o _ (by omega), o _ (by omega), o _ (by omega), o _ (by omega)]
        exact i2 h (by omega)
    · rw [wI_a, if_neg (by omega), wI_a, if_neg (by omega), wI_a, if_neg (by omega), wI_a, if_neg (by omega), wI_a, if_neg (by omega)]
      exact i3 x h1 h2 h3) (fun τ hI => by
    have e : ∀ k j, k ≠ M + 31 → τ.1 k j = σ.1 k j := fun k j hk => (hI.1.1 _ _ hk).trans (a2.1 _ _ hk)
    show bX7_begins_23 M (nI n) τ = _
    unfold bX7_begins_23
    rw [e M 18 (by omega), h18, e (M + 9) _ (by omega)]
    simp (disch := omega) only [vif, nI_clamp]
    rw [h9, if_pos (Int32.le_refl _)]) (σ := σ1) ⟨Fs.rf, fun h hh => by omega, fun x h1 h2 h3 => a3 x (by omega)⟩
  have b1 : lp (fun st : Int32 × Sg => bX7_begins_23 M st.1 st.2) (0, σ1) = some σ2 := b1
  rw [b1, Option.bind_some]
  have e2 : ∀ k j, k ≠ M + 31 → σ2.1 k j = σ.1 k j := fun k j hk => (b2.1 _ _ hk).trans (a2.1 _ _ hk)
  obtain ⟨σ3, c1, c2, c3⟩ := lp_inv (f := fun st : Int32 × Sg => bX7_begins_131 M st.1 st.2) 6 (fun i τ => Fs (fun x j => x = M + 31 ∧ 72 ≤ j ∧ j < 84) σ2 τ ∧ ∀ h, h < i → (h < m → τ.1 (M + 31) (72 + h) = σ.1 (M + 16) (6 * ℓ + h)) ∧ τ.1 (M + 31) (78 + h) = -2) (fun i τ hi hI => by
    obtain ⟨i1, i2⟩ := hI
    have e : ∀ k j, k ≠ M + 31 → τ.1 k j = σ.1 k j := fun k j hk => (i1.1 _ _ (fun z => hk z.1)).trans (e2 _ _ hk)
    have fin : ∀ v : Int32, (i < m → v = σ.1 (M + 16) (6 * ℓ + i)) → ∃ τ', jX7_begins_176 M (nI i) (M + 31) ((72 : Int32) + nI i) v τ = some (Sum.inl (nI (i + 1), τ')) ∧ Fs (fun x j => x = M + 31 ∧ 72 ≤ j ∧ j < 84) σ2 τ' ∧ ∀ h, h < i + 1 → (h < m → τ'.1 (M + 31) (72 + h) = σ.1 (M + 16) (6 * ℓ + h)) ∧ τ'.1 (M + 31) (78 + h) = -2 := fun v hv => by
      refine ⟨wI (wI τ (M + 31) (72 + i) v) (M + 31) (78 + i) (-2), ?_, (i1.wI (by omega)).wI (by omega), fun h hh => ?_⟩
      · unfold jX7_begins_176
        rw [show (72 : Int32) + nI i = nI (72 + i) from nI_add 72 i, show (78 : Int32) + nI i = nI (78 + i) from nI_add 78 i]
        simp (disch := omega) only [vif, nI_clamp]
        rw [nI_s]
      · rw [wI_a, if_neg (by omega), wI_a]
        by_cases z : h = i
        · subst z
          rw [if_pos ⟨rfl, rfl⟩]
          exact ⟨hv, by rw [wI_a, if_pos ⟨rfl, rfl⟩]⟩
        · rw [if_neg (by omega), wI_a, if_neg (by omega), wI_a, if_neg (by omega)]
          exact i2 h (by omega)
    have body : bX7_begins_131 M (nI i) τ = jX7_begins_176 M (nI i) (M + 31) ((72 : Int32) + nI i) (if m ≤ i then -1 else σ.1 (M + 16) (6 * ℓ + i)) τ := by
      unfold bX7_begins_131
      rw [if_neg (show ¬ (6 : Int32) ≤ nI i from le_nI (a := 6) (by omega) (by omega) hi), e M 18 (by omega), h18, e (M + 14) _ (by omega)]
      simp (disch := omega) only [vif, nI_clamp]
      rw [h14]
      by_cases z : m ≤ i
      · rw [if_pos (nI_le z (by omega)), if_pos z]
      · rw [if_neg (le_nI (by omega) (by omega) (by omega)), if_neg z, k6, nI_add]
        simp (disch := omega) only [vif, nI_clamp]
        rw [e (M + 16) _ (by omega)]
    obtain ⟨τ', f1, f2⟩ := fin (if m ≤ i then -1 else σ.1 (M + 16) (6 * ℓ + i)) (fun z => by rw [if_neg (by omega)])
    exact ⟨τ', body.trans f1, f2⟩) (fun τ hI => by
    show bX7_begins_131 M (nI 6) τ = _
    unfold bX7_begins_131
    rw [if_pos (show (6 : Int32) ≤ nI 6 by decide)]) (σ := σ2) ⟨Fs.rf, fun h hh => by omega⟩
  have c1 : lp (fun st : Int32 × Sg => bX7_begins_131 M st.1 st.2) (0, σ2) = some σ3 := c1
  rw [c1, Option.bind_some, c2.1 M 18 (by omega), e2 _ _ (by omega), h18]
  simp (disch := omega) only [vif, nI_clamp]
  have hF4 : Fs (fun k j => k = M ∧ 49 ≤ j ∧ j ≤ 51) σ3 (wI (wI (wI σ3 M 49 (σ3.1 (M + 17) ℓ)) M 50 0) M 51 (-1)) := ((Fs.rf.wI (by omega)).wI (by omega)).wI (by omega)
  refine ⟨_, rfl, ?_⟩
  generalize wI (wI (wI σ3 M 49 (σ3.1 (M + 17) ℓ)) M 50 0) M 51 (-1) = σ4 at hF4
  refine ⟨(((a2.mo (fun k j q => Or.inl q)).tr (b2.mo (fun k j q => Or.inl q))).tr (c2.mo (fun k j q => Or.inl q.1))).tr (hF4.mo (fun k j q => Or.inr q)), fun h hh => ?_, fun x h1 h2 h3 => ?_, fun e he => ?_⟩
  · rw [hF4.1 _ _ (by omega), hF4.1 _ _ (by omega), hF4.1 _ _ (by omega), hF4.1 _ _ (by omega), hF4.1 _ _ (by omega), c2.1 _ _ (by omega), c2.1 _ _ (by omega), c2.1 _ _ (by omega), c2.1 _ _ (by omega), c2.1 _ _ (by omega)]
    exact b3 h hh
  · rw [hF4.1 _ _ (by omega), c2.1 _ _ (by omega)]
    exact b4 x h1 h2 (by omega)
  · rw [hF4.1 _ _ (by omega), hF4.1 _ _ (by omega)]
    exact ⟨(c3 e (by omega)).1 he, (c3 e (by omega)).2⟩
theorem m_keeps : ∃ τ, fX7_keepsRow M σ = some τ ∧ Fs (fun x _ => x = M + 30) σ τ ∧ ∀ x, x < 88 → τ.1 (M + 30) x = σ.1 (M + 31) x := by
  unfold fX7_keepsRow
  obtain ⟨σ1, a1, a2, a3⟩ := lp_inv (f := fun st : Int32 × Sg => bX7_keepsRow_2 M st.1 st.2) 88 (fun i τ => Fs (fun x _ => x = M + 30) σ τ ∧ ∀ h, h < i → τ.1 (M + 30) h = σ.1 (M + 31) h) (fun i τ hi hI => by
    refine ⟨wI τ (M + 30) i (τ.1 (M + 31) i), ?_, hI.1.wI rfl, fun h hh => ?_⟩
    · show bX7_keepsRow_2 M (nI i) τ = _
      unfold bX7_keepsRow_2
      rw [if_neg (show ¬ (88 : Int32) ≤ nI i from le_nI (a := 88) (by omega) (by omega) hi)]
      simp (disch := omega) only [vif, nI_clamp]
      rw [nI_s]
    · rw [wI_a]
      by_cases z : h = i
      · rw [if_pos ⟨rfl, z⟩, z, hI.1.1 _ _ (by omega)]
      · rw [if_neg (by omega)]; exact hI.2 h (by omega)) (fun τ hI => by
    show bX7_keepsRow_2 M (nI 88) τ = _
    unfold bX7_keepsRow_2
    rw [if_pos (show (88 : Int32) ≤ nI 88 by decide)]) (σ := σ) ⟨Fs.rf, fun h hh => by omega⟩
  have a1 : lp (fun st : Int32 × Sg => bX7_keepsRow_2 M st.1 st.2) (0, σ) = some σ1 := a1
  rw [a1, Option.bind_some]
  exact ⟨σ1, rfl, a2, a3⟩
end BEGIN
