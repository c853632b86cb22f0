set_option maxRecDepth 100000 in
theorem m8_xor : ∀ a0 a1 a2 a3 a4 a5 a6 a7 b0 b1 b2 b3 b4 b5 b6 b7 : Bool, m8 a0 a1 a2 a3 a4 a5 a6 a7 ^^^ m8 b0 b1 b2 b3 b4 b5 b6 b7 = m8 (a0 != b0) (a1 != b1) (a2 != b2) (a3 != b3) (a4 != b4) (a5 != b5) (a6 != b6) (a7 != b7) := by decide +kernel
theorem mk8_xor (f g : Nat → Bool) : nI (mk8 f) ^^^ nI (mk8 g) = nI (mk8 (fun i => f i != g i)) := by
  rw [xorM, mk8_m, mk8_m, m8_xor]; rfl
section UNDO
variable {M a b t t' ℓ n m L : Nat} {bo : Nat → Bool} {dr : Nat → Int32} {lb : Nat → Br} {lf : Nat → Rp} {sd : Int32} {kw : Nat → Int64} {σ τ υ : Sg} {ρ ρ' : Nat → Int32}
def swT (w v h : Nat) : Nat := if h = w then v else if h = v then w else h
/-- two change houses, in the first e entries of a row -/
def swI (w v e : Nat) (ρ : Nat → Int32) (x : Nat) : Int32 := if x < e then ρ (8 * (x / 8) + swT w v (x % 8)) else ρ x
theorem swT_lt {w v h : Nat} (hw : w < n) (hv : v < n) (hh : h < n) : swT w v h < n := by unfold swT; split <;> (try split) <;> omega
theorem swI_s {w v i : Nat} (hw : w < 8) (hv : v < 8) : upd (upd (swI w v (8 * i) ρ) (8 * i + w) (swI w v (8 * i) ρ (8 * i + v))) (8 * i + v) (swI w v (8 * i) ρ (8 * i + w)) = swI w v (8 * (i + 1)) ρ := by
  have e1 : swI w v (8 * i) ρ (8 * i + v) = ρ (8 * i + v) := if_neg (by omega)
  have e2 : swI w v (8 * i) ρ (8 * i + w) = ρ (8 * i + w) := if_neg (by omega)
  rw [e1, e2]
  funext x
  rw [upd_a, upd_a]
  unfold swI
  by_cases q : x < 8 * i
  · rw [if_neg (by omega), if_neg (by omega), if_pos q, if_pos (by omega)]
  · rw [if_neg q]
    by_cases z : x < 8 * (i + 1)
    · rw [if_pos z, show x / 8 = i by omega]
      unfold swT
      by_cases y1 : x = 8 * i + v
      · rw [if_pos y1]
        by_cases y2 : x % 8 = w
        · rw [if_pos y2]; congr 1; omega
        · rw [if_neg y2, if_pos (by omega)]
      · rw [if_neg y1]
        by_cases y2 : x = 8 * i + w
        · rw [if_pos y2, if_pos (by omega)]
        · rw [if_neg y2, if_neg (by omega), if_neg (by omega)]; congr 1; omega
    · rw [if_neg z, if_neg (by omega), if_neg (by omega)]
theorem m_changes {w v : Nat} (hw : w < 8) (hv : v < 8) : ∃ τ, fX7_changes M (nI w) (nI v) σ = some τ ∧ Fs (fun k j => k = M + 31 ∧ j < 88) σ τ ∧ τ.1 (M + 31) = swI w v 40 (σ.1 (M + 31)) := by
  have hh := lp_invG (f := fun st : Int32 × Sg => bX7_changes_2 M (nI w) (nI v) st.1 st.2) 5 (fun i s => s.1 = nI (8 * i) ∧ Fs (fun k j => k = M + 31 ∧ j < 88) σ s.2 ∧ s.2.1 (M + 31) = swI w v (8 * i) (σ.1 (M + 31))) (fun τ => Fs (fun k j => k = M + 31 ∧ j < 88) σ τ ∧ τ.1 (M + 31) = swI w v 40 (σ.1 (M + 31))) (fun i s hi hs => ?_) (fun s hs => ?_) (s := (0, σ)) ⟨rfl, Fs.rf, by funext x; unfold swI; rw [if_neg (by omega)]⟩
  · obtain ⟨τ, g1, g2, g3⟩ := hh
    exact ⟨τ, by unfold fX7_changes; rw [g1]; rfl, g2, g3⟩
  · obtain ⟨x, υ⟩ := s
    obtain ⟨rfl, hF, hr⟩ := hs
    dsimp only at hF hr
    refine Or.inl ⟨(nI (8 * (i + 1)), wI (wI υ (M + 31) (8 * i + w) (υ.1 (M + 31) (8 * i + v))) (M + 31) (8 * i + v) (υ.1 (M + 31) (8 * i + w))), ?_, rfl, (hF.wI ⟨rfl, by omega⟩).wI ⟨rfl, by omega⟩, ?_⟩
    · show bX7_changes_2 M (nI w) (nI v) (nI (8 * i)) υ = _
      unfold bX7_changes_2
      rw [if_neg (show ¬ (40 : Int32) ≤ nI (8 * i) from le_nI (a := 40) (by omega) (by omega) (by omega)), nI_add, nI_add, show nI (8 * i) + 8 = nI (8 * (i + 1)) from nI_add (8 * i) 8]
      simp (disch := omega) only [vif, nI_clamp]
    · show (wI (wI υ (M + 31) (8 * i + w) (υ.1 (M + 31) (8 * i + v))) (M + 31) (8 * i + v) (υ.1 (M + 31) (8 * i + w))).1 (M + 31) = _
      rw [wI_k, wI_k, hr, swI_s hw hv]
  · obtain ⟨x, υ⟩ := s
    obtain ⟨rfl, hF, hr⟩ := hs
    refine ⟨υ, ?_, hF, hr⟩
    show bX7_changes_2 M (nI w) (nI v) (nI 40) υ = _
    unfold bX7_changes_2
    rw [if_pos (by decide)]
theorem swI_at {w v k h : Nat} (hk : k < 5) (hh : h < 8) : swI w v 40 ρ (8 * k + h) = ρ (8 * k + swT w v h) := by
  unfold swI
  rw [if_pos (by omega), show (8 * k + h) / 8 = k by omega, show (8 * k + h) % 8 = h by omega]
theorem swI_o {w v x : Nat} (hx : 40 ≤ x) : swI w v 40 ρ x = ρ x := if_neg (by omega)
theorem c_swap {A w v : Nat} (hw : w < 8) (hv : v < 8) : ∃ τ, fX2_swap A (nI w) (nI v) σ = some τ ∧ Fs (fun k j => k = A) σ τ ∧ ∀ h, τ.1 A h = σ.1 A (swT w v h) := by
  refine ⟨wI (wI σ A w (σ.1 A v)) A v (σ.1 A w), ?_, (Fs.rf.wI (S := fun k _ => k = A) rfl).wI rfl, fun h => ?_⟩
  · unfold fX2_swap
    simp (disch := omega) only [vif, nI_clamp]
  · rw [wI_k, wI_k, upd_a, upd_a]
    unfold swT
    by_cases q : h = v
    · rw [if_pos q]
      by_cases z : h = w
      · rw [if_pos z, ← q, ← z]
      · rw [if_neg z, if_pos q]
    · rw [if_neg q]
      by_cases z : h = w
      · rw [if_pos z, if_pos z]
      · rw [if_neg z, if_neg z, if_neg q]
theorem ktF_sw {w v : Nat} (hw : w < n) (hv : v < n) (hn : n ≤ 8) {j : Nat} (hj : j < 8) : ktF n (swI w v 40 ρ) 32 j = ktF n ρ 32 (swT w v j) := by
  unfold ktF
  by_cases q : j < n
  · rw [show swI w v 40 ρ (32 + j) = ρ (32 + swT w v j) from swI_at (k := 4) (by omega) hj]
    have := swT_lt hw hv q
    simp [q, this]
  · have : swT w v j = j := by unfold swT; rw [if_neg (by omega), if_neg (by omega)]
    rw [this]; simp [q]
theorem c_swapPeople (hc : CR σ a n m ρ) (hn : n ≤ 8) (hm : m ≤ 6) {w v : Nat} (hw : w < n) (hv : v < n) (hwv : w ≠ v) : ∃ τ, fX2_swapPeople a (nI w) (nI v) σ = some τ ∧ Fs (fun k j => (a < k ∧ k < a + 5) ∨ k = a ∧ j = 4) σ τ ∧ CR τ a n m (swI w v 40 ρ) := by
  obtain ⟨τ1, a1, b1, c1⟩ := c_swap (σ := σ) (A := a + 1) (w := w) (v := v) (by omega) (by omega)
  obtain ⟨τ2, a2, b2, c2⟩ := c_swap (σ := τ1) (A := a + 2) (w := w) (v := v) (by omega) (by omega)
  obtain ⟨τ3, a3, b3, c3⟩ := c_swap (σ := τ2) (A := a + 3) (w := w) (v := v) (by omega) (by omega)
  obtain ⟨τ4, a4, b4, c4⟩ := c_swap (σ := τ3) (A := a + 4) (w := w) (v := v) (by omega) (by omega)
  have e : ∀ k j, k ≠ a + 1 → k ≠ a + 2 → k ≠ a + 3 → k ≠ a + 4 → τ4.1 k j = σ.1 k j := fun k j q1 q2 q3 q4 => (b4.1 k j q4).trans ((b3.1 k j q3).trans ((b2.1 k j q2).trans (b1.1 k j q1)))
  have f1 : ∀ h, τ4.1 (a + 1) h = σ.1 (a + 1) (swT w v h) := fun h => (b4.1 _ _ (by omega)).trans ((b3.1 _ _ (by omega)).trans ((b2.1 _ _ (by omega)).trans (c1 h)))
  have f2 : ∀ h, τ4.1 (a + 2) h = σ.1 (a + 2) (swT w v h) := fun h => (b4.1 _ _ (by omega)).trans ((b3.1 _ _ (by omega)).trans ((c2 h).trans (b1.1 _ _ (by omega))))
  have f3 : ∀ h, τ4.1 (a + 3) h = σ.1 (a + 3) (swT w v h) := fun h => (b4.1 _ _ (by omega)).trans ((c3 h).trans ((b2.1 _ _ (by omega)).trans (b1.1 _ _ (by omega))))
  have f4 : ∀ h, τ4.1 (a + 4) h = σ.1 (a + 4) (swT w v h) := fun h => (c4 h).trans ((b3.1 _ _ (by omega)).trans ((b2.1 _ _ (by omega)).trans (b1.1 _ _ (by omega))))
  obtain ⟨⟨d1, d2, d3, d4, d5, d6, d7⟩, ch, ce⟩ := hc
  have e4 : τ4.1 a 4 = nI (mk8 (ktF n ρ 32)) := (e _ _ (by omega) (by omega) (by omega) (by omega)).trans d4
  have hF : Fs (fun k j => (a < k ∧ k < a + 5) ∨ k = a ∧ j = 4) σ τ4 := (((b1.mo (fun k j q => by omega)).tr (b2.mo (fun k j q => by omega))).tr (b3.mo (fun k j q => by omega))).tr (b4.mo (fun k j q => by omega))
  have st : ∀ {k : Int32}, nI (mk8 (stF n (swI w v 40 ρ) k)) = nI (mk8 (stF n ρ k)) := fun {k} => stF_c (fun h hh => swI_o (by omega))
  have lt : nI (mk8 (ktF n (swI w v 40 ρ) 56)) = nI (mk8 (ktF n ρ 56)) := ktF_c (fun h hh => swI_o (by omega))
  have fin : ∀ υ, Fs (fun k j => k = a ∧ j = 4) τ4 υ → υ.1 a 4 = nI (mk8 (ktF n (swI w v 40 ρ) 32)) → CR υ a n m (swI w v 40 ρ) := by
    intro υ hu h4
    have eu : ∀ k j, ¬ (k = a ∧ j = 4) → υ.1 k j = τ4.1 k j := hu.1
    refine ⟨⟨?_, ?_, ?_, h4, ?_, ?_, ?_⟩, fun h hh => ⟨?_, ?_, ?_, ?_, ?_, ?_⟩, fun x hx => ⟨?_, ?_⟩⟩
    · rw [eu _ _ (by omega), e _ _ (by omega) (by omega) (by omega) (by omega), d1, swI_o (by omega)]
    · rw [eu _ _ (by omega), e _ _ (by omega) (by omega) (by omega) (by omega), d2, st]
    · rw [eu _ _ (by omega), e _ _ (by omega) (by omega) (by omega) (by omega), d3, st]
    · rw [eu _ _ (by omega), e _ _ (by omega) (by omega) (by omega) (by omega), d5, lt]
    · rw [eu _ _ (by omega), e _ _ (by omega) (by omega) (by omega) (by omega), d6, swI_o (by omega)]
    · rw [eu _ _ (by omega), e _ _ (by omega) (by omega) (by omega) (by omega), d7, swI_o (by omega)]
    · rw [eu _ _ (by omega), f1, (ch _ (swT_lt hw hv hh)).1]
      have := swI_at (ρ := ρ) (w := w) (v := v) (k := 0) (h := h) (by omega) (by omega)
      rw [show 8 * 0 + h = h by omega, show 8 * 0 + swT w v h = swT w v h by omega] at this
      exact this.symm
    · rw [eu _ _ (by omega), f2, (ch _ (swT_lt hw hv hh)).2.1]; exact (swI_at (k := 1) (by omega) (by omega)).symm
    · rw [eu _ _ (by omega), f3, (ch _ (swT_lt hw hv hh)).2.2.1]; exact (swI_at (k := 2) (by omega) (by omega)).symm
    · rw [eu _ _ (by omega), f4, (ch _ (swT_lt hw hv hh)).2.2.2.1]; exact (swI_at (k := 3) (by omega) (by omega)).symm
    · rw [eu _ _ (by omega), e _ _ (by omega) (by omega) (by omega) (by omega), (ch h hh).2.2.2.2.1, swI_o (by omega)]
    · rw [eu _ _ (by omega), e _ _ (by omega) (by omega) (by omega) (by omega), (ch h hh).2.2.2.2.2, swI_o (by omega)]
    · rw [eu _ _ (by omega), e _ _ (by omega) (by omega) (by omega) (by omega), (ce x hx).1, swI_o (by omega)]
    · rw [eu _ _ (by omega), e _ _ (by omega) (by omega) (by omega) (by omega), (ce x hx).2, swI_o (by omega)]
  have run : fX2_swapPeople a (nI w) (nI v) σ = (if nI (b2n (ktF n ρ 32 w)) = nI (b2n (ktF n ρ 32 v)) then some τ4 else some (wI τ4 a 4 (τ4.1 a 4 ^^^ ((1 : Int32) <<< (nI w &&& 31) ||| (1 : Int32) <<< (nI v &&& 31))))) := by
    unfold fX2_swapPeople
    rw [a1, Option.bind_some, a2, Option.bind_some, a3, Option.bind_some, a4, Option.bind_some, e4, fX6_bit_v _ (by omega), Option.bind_some]
    dsimp only
    rw [e4, fX6_bit_v _ (by omega), Option.bind_some]
    dsimp only
    rw [e4]
  have bi : ∀ x y : Bool, nI (b2n x) = nI (b2n y) ↔ x = y := by decide
  by_cases q : ktF n ρ 32 w = ktF n ρ 32 v
  · refine ⟨τ4, by rw [run, if_pos ((bi _ _).mpr q)], hF, fin τ4 Fs.rf ?_⟩
    rw [e4]
    refine congrArg nI (mk8_c fun j hj => ?_)
    rw [ktF_sw hw hv hn hj]
    unfold swT
    by_cases z1 : j = w
    · rw [if_pos z1, z1, q]
    · rw [if_neg z1]
      by_cases z2 : j = v
      · rw [if_pos z2, z2, q]
      · rw [if_neg z2]
  · refine ⟨_, by rw [run, if_neg (fun z => q ((bi _ _).mp z))], hF.wI (Or.inr ⟨rfl, rfl⟩), fin _ (Fs.rf.wI ⟨rfl, rfl⟩) ?_⟩
    rw [wI_k, upd_k, e4, one_b (by omega), one_b (by omega), mk8_or, mk8_xor]
    refine congrArg nI (mk8_c fun j hj => ?_)
    rw [ktF_sw hw hv hn hj]
    unfold swT
    by_cases z1 : j = w
    · rw [if_pos z1, z1, decide_eq_true rfl]
      revert q
      cases ktF n ρ 32 w <;> cases ktF n ρ 32 v <;> simp
    · rw [if_neg z1, decide_eq_false z1]
      by_cases z2 : j = v
      · rw [if_pos z2, z2, decide_eq_true rfl]
        revert q
        cases ktF n ρ 32 w <;> cases ktF n ρ 32 v <;> simp
      · rw [if_neg z2, decide_eq_false z2]; simp
theorem rv_swI (h : RV n m ρ) (hn : n ≤ 8) (hm : m ≤ 6) {w v : Nat} (hw : w < n) (hv : v < n) : RV n m (swI w v 40 ρ) := by
  have o : ∀ {x}, 40 ≤ x → swI w v 40 ρ x = ρ x := fun hx => swI_o hx
  obtain ⟨h1, h2, h3, h4, h5, h6⟩ := h
  refine ⟨fun j hj => ⟨?_, ?_, ?_⟩, fun e he => ?_, fun e he => ?_, ?_, ?_, fun j hj => ?_⟩
  · rw [o (by omega)]; exact (h1 j hj).1
  · rw [show swI w v 40 ρ (32 + j) = ρ (32 + swT w v j) from swI_at (k := 4) (by omega) (by omega)]; exact (h1 _ (swT_lt hw hv hj)).2.1
  · rw [o (by omega)]; exact (h1 j hj).2.2
  · rw [o (by omega)]; exact h2 e he
  · rw [o (by omega)]; exact h3 e he
  · rw [o (by omega)]; exact h4
  · rw [o (by omega)]; exact h5
  · rw [show swI w v 40 ρ (8 + j) = ρ (8 + swT w v j) from swI_at (k := 1) (by omega) (by omega)]; exact h6 _ (swT_lt hw hv hj)
theorem CM.fs {st lo : Int32} {S : Nat → Nat → Prop} (hc : CM σ a sd st lo ρ) (hF : Fs S σ τ) (hS : ∀ j, 6 ≤ j → j ≤ 9 → ¬ S a j) (e : ρ' 85 = ρ 85) : CM τ a sd st lo ρ' := by
  obtain ⟨m1, m2, m3, m4⟩ := hc
  exact ⟨(hF.1 _ _ (hS _ (by omega) (by omega))).trans m1, (hF.1 _ _ (hS _ (by omega) (by omega))).trans m2, (hF.1 _ _ (hS _ (by omega) (by omega))).trans m3, fun q => by rw [e]; exact (hF.1 _ _ (hS _ (by omega) (by omega))).trans (m4 q)⟩
/-- both are in -/
theorem c_both (h : CA σ a t n m bo dr lb lf) (hc : CR σ a n m ρ) {w v : Nat} (hw : w < n) (hv : v < n) : fX2_bothIn a (nI w) (nI v) σ = some (nI (b2n (decide (ρ (40 + w) = 0 ∧ ρ (40 + v) = 0))), σ) := by
  have hn := h.2.2.1.1
  unfold fX2_bothIn
  rw [hc.1.2.1, fX6_bit_v _ (by omega), Option.bind_some, stF_t hw]
  dsimp only
  rw [hc.1.2.1, fX6_bit_v _ (by omega), Option.bind_some, stF_t hv]
  dsimp only
  by_cases q1 : ρ (40 + w) = 0
  · rw [decide_eq_true q1, if_pos (by decide)]
    by_cases q2 : ρ (40 + v) = 0
    · rw [decide_eq_true q2, if_pos (by decide), decide_eq_true ⟨q1, q2⟩]; rfl
    · rw [decide_eq_false q2, if_neg (by decide), decide_eq_false (fun z => q2 z.2)]; rfl
  · rw [decide_eq_false q1, if_neg (by decide), decide_eq_false (fun z => q1 z.1)]; rfl
theorem m_can {w v : Nat} (hw : w < 8) (hv : v < 8) : fX7_canChange M (nI w) (nI v) σ = some (nI (b2n (decide (σ.1 (M + 30) (40 + w) = 0 ∧ σ.1 (M + 30) (40 + v) = 0))), σ) := by
  unfold fX7_canChange
  rw [show (40 : Int32) + nI w = nI (40 + w) from nI_add 40 w, show (40 : Int32) + nI v = nI (40 + v) from nI_add 40 v]
  simp (disch := omega) only [vif, nI_clamp]
  by_cases q1 : σ.1 (M + 30) (40 + w) = 0
  · rw [if_pos q1]
    by_cases q2 : σ.1 (M + 30) (40 + v) = 0
    · rw [if_pos q2, decide_eq_true ⟨q1, q2⟩]; rfl
    · rw [if_neg q2, decide_eq_false (fun z => q2 z.2)]; rfl
  · rw [if_neg q1, decide_eq_false (fun z => q1 z.1)]; rfl
theorem ag_change (h : RLp M t t' ℓ n m bo dr lb lf sd kw σ) (p1 p2 : Int32) : Ag (fX6_change 0 p1 p2) (fX7_change M p1 p2) (RLp M t t' ℓ n m bo dr lb lf sd kw) σ := by
  have hM := h.1.1
  have hn := h.n8
  have hm := h.m6
  show ∃ r σ1 σ2, fX6_change 0 p1 p2 σ = some (r, σ1) ∧ fX7_change M p1 p2 σ1 = some (r, σ2) ∧ RLp M t t' ℓ n m bo dr lb lf sd kw σ2
  unfold fX6_change fX7_change
  rcases arg p1 (n := n) (by omega) with q | ⟨w, hw, rfl⟩
  · exact ⟨0, σ, σ, by rw [c_isH0 h q]; rfl, by rw [m_isH0 h.ms.1 q]; rfl, h⟩
  · rw [c_isH1 h hw, Option.bind_some]
    dsimp only
    rw [if_neg one0]
    rcases arg p2 (n := n) (by omega) with q | ⟨v, hv, rfl⟩
    · refine ⟨0, σ, σ, by rw [c_isH0 h q]; rfl, ?_, h⟩
      rw [m_isH1 h.ms.1 hw, Option.bind_some]
      dsimp only
      rw [if_neg one0, m_isH0 h.ms.1 q]; rfl
    · rw [c_isH1 h hv, Option.bind_some]
      dsimp only
      rw [if_neg one0]
      by_cases q : w = v
      · subst q
        refine ⟨0, σ, σ, if_pos rfl, ?_, h⟩
        rw [m_isH1 h.ms.1 hw, Option.bind_some]
        dsimp only
        rw [if_neg one0, m_isH1 h.ms.1 hw, Option.bind_some]
        dsimp only
        rw [if_neg one0, if_pos rfl]
      · have qn : ¬ nI w = nI v := ne_nI (by omega) (by omega) q
        rw [if_neg qn]
        simp only [Nat.zero_add]
        rw [c_both h.ca h.cr hw hv, Option.bind_some]
        dsimp only
        generalize hb : decide (σ.1 (M + 30) (40 + w) = 0 ∧ σ.1 (M + 30) (40 + v) = 0) = bb
        cases bb
        · refine ⟨0, σ, σ, if_pos (by decide), ?_, h⟩
          rw [m_isH1 h.ms.1 hw, Option.bind_some]
          dsimp only
          rw [if_neg one0, m_isH1 h.ms.1 hv, Option.bind_some]
          dsimp only
          rw [if_neg one0, if_neg qn, m_can (by omega) (by omega), hb]; rfl
        · rw [if_neg (by decide)]
          have hh := mutate (ρ := swI w v 40 (nowR M σ)) h (cm := fun τ => fX2_swapPeople 31 (nI w) (nI v) τ) (mm := fun υ => fX7_changes M (nI w) (nI v) υ) (fun τ hc hct => ?_) (fun υ hms hrv hr h49 h50 h51 => ?_)
          · obtain ⟨τ, τ', υ, υ', ω, g1, g2, g3, g4, g5, g6, g7, g8, g9, -⟩ := hh
            refine ⟨1, τ', ω, ?_, ?_, g8⟩
            · rw [g1, Option.bind_some, g2]; rfl
            · rw [m_isH1 g3 hw, Option.bind_some]
              dsimp only
              rw [if_neg one0, m_isH1 g3 hv, Option.bind_some]
              dsimp only
              rw [if_neg one0, if_neg qn, m_can (by omega) (by omega), g4, g4, hb, Option.bind_some]
              dsimp only
              rw [if_neg (by decide), g5, Option.bind_some, g6, Option.bind_some, g7]; rfl
          · obtain ⟨h1, h2, h3, h4⟩ := hc
            obtain ⟨τ', a1, a2, a3⟩ := c_swapPeople h2 hn hm hw hv q
            exact ⟨τ', a1, (a2.mo (fun k j q => by unfold SN; omega)).fc, by rw [a2.2]; exact h1, a3, rv_swI h3 hn hm hw hv, h4.fs a2 (fun j a1 a2 => by omega) (swI_o (by omega))⟩
          · obtain ⟨υ', a1, a2, a3⟩ := m_changes (M := M) (σ := υ) (w := w) (v := v) (by omega) (by omega)
            exact ⟨υ', a1, (a2.mo (fun k j q => by unfold SX; omega)).fc, fun x hx => by rw [a3, hr]⟩
theorem ag_undo (h : RLp M t t' ℓ n m bo dr lb lf sd kw σ) : Ag (fX6_undo 0) (fX7_undo M) (RLp M t t' ℓ n m bo dr lb lf sd kw) σ := by
  have hM := h.1.1
  have hn := h.n8
  have hm := h.m6
  have ht : t = 2 ∨ t = 14 := by rcases h.1.2.1 with q | q <;> omega
  obtain ⟨u, pn, ⟨hu, hp⟩, u1, u2, u3, u4⟩ := h.2.2.1
  show ∃ r σ1 σ2, fX6_undo 0 σ = some (r, σ1) ∧ fX7_undo M σ1 = some (r, σ2) ∧ RLp M t t' ℓ n m bo dr lb lf sd kw σ2
  by_cases q : u = 0
  · subst q
    exact ⟨0, σ, σ, by unfold fX6_undo; rw [u1, if_pos (by decide)], by unfold fX7_undo; rw [u2, if_pos (by decide)], h⟩
  · have qz : ¬ nI u = 0 := ne_nI (b := 0) (by omega) (by omega) q
    generalize hpn : (if 0 < pn then pn - 1 else 39) = pn'
    have hpn' : pn' = (pn + 39) % 40 := by rw [← hpn]; split <;> omega
    have ec := u4 (u - 1) (by omega)
    rw [show (pn + 40 - u + (u - 1)) % 40 = pn' by omega] at ec
    let σ2 := wI (wI σ 0 11 (nI (u - 1))) 0 10 (nI pn')
    have f2 : ∀ r, Fc (fun k j => k = 0 ∧ (j = 10 ∨ j = 11)) r σ σ2 := fun r => (Fc.rf.wI (by omega)).wI (by omega)
    have ec2 : CE σ2 (55 + 9 * pn') t n m sd (fun x => σ.1 (M + 33) (88 * (u - 1) + x)) := ec.fc (f2 0) (by omega) (fun x j a1 a2 => by omega)
    obtain ⟨c1, c2, c3⟩ := ec2.cp (a := 31) hn hm (by omega)
    generalize hτ : cpS 31 (55 + 9 * pn') σ2 = τ at c1 c2 c3
    have eM : ∀ k j, M ≤ k → τ.1 k j = σ.1 k j := fun k j hk => (c2.1 k j (by unfold rgS; omega)).trans ((f2 0).1 k j (by omega))
    have hh := cpyL (A := M + 30) (s := 0) (e := 88) (f := fun st : Int32 × Sg => bX7_undo_21 M st.1 st.2) (v := fun x => σ.1 (M + 33) (88 * (u - 1) + x)) (wI τ M 53 (nI (u - 1))) (fun i υ hi e1 e2 e3 => ?_) (fun υ => ?_)
    · obtain ⟨ω, w1, w2, w3⟩ := hh
      refine ⟨1, τ, ω, ?_, ?_, ?_⟩
      · unfold fX6_undo jX6_undo_38
        rw [u1, if_neg qz]
        dsimp only
        have e10 : ∀ v, (wI σ 0 11 v).1 0 10 = nI pn := fun v => by rw [wI_k, upd_n (by omega), u3]
        simp only [e10, nI_p (show 1 ≤ u by omega)]
        have go : ∀ v, v = nI pn' → (if vin ((wI (wI σ 0 11 (nI (u - 1))) 0 10 v).1 0 10) 40 then (if ((wI (wI σ 0 11 (nI (u - 1))) 0 10 v).2.2.1 (0 + 51) (((wI (wI σ 0 11 (nI (u - 1))) 0 10 v).1 0 10).toNatClampNeg)) ≠ 0 then ((fX2_copyFrom (0 + 31) ((wI (wI σ 0 11 (nI (u - 1))) 0 10 v).2.2.1 (0 + 51) (((wI (wI σ 0 11 (nI (u - 1))) 0 10 v).1 0 10).toNatClampNeg)) (wI (wI σ 0 11 (nI (u - 1))) 0 10 v)).bind (fun σ9 => some ((1 : Int32), σ9))) else none) else none) = some (1, τ) := by
          rintro v rfl
          have ei : (wI (wI σ 0 11 (nI (u - 1))) 0 10 (nI pn')).1 0 10 = nI pn' := by rw [wI_k, upd_k]
          rw [ei]
          simp (disch := omega) only [vif, nI_clamp, Nat.zero_add]
          have er : (wI (wI σ 0 11 (nI (u - 1))) 0 10 (nI pn')).2.2.1 51 pn' = 55 + 9 * pn' := h.2.2.2.2.2.2.1 pn' (by omega)
          rw [er, if_pos (by omega), c1]; rfl
        by_cases z : 0 < pn
        · rw [if_neg (show ¬ nI pn ≤ 0 from le_nI (b := 0) (by omega) (by omega) z)]
          exact go _ (by rw [nI_p (by omega), ← hpn, if_pos z])
        · rw [if_pos (show nI pn ≤ 0 from nI_le (b := 0) (by omega) (by omega))]
          exact go _ (by rw [← hpn, if_neg z]; rfl)
      · unfold fX7_undo
        rw [eM M 53 (by omega), u2, if_neg qz]
        dsimp only
        rw [nI_p (by omega), w1]; rfl
      · have w3' : ∀ r, Fc (fun k j => k = M + 30 ∨ k = M ∧ j = 53) r τ ω := fun r => (((Fs.rf (σ := τ)).wI (Or.inr ⟨rfl, rfl⟩)).tr (w3.mo (fun k j q => by omega))).fc
        have w2' : ∀ x, x < 88 → ω.1 (M + 30) x = σ.1 (M + 33) (88 * (u - 1) + x) := fun x hx => by have := w2 x hx; rwa [Nat.zero_add] at this
        obtain ⟨g1, g2, g3, g4, g5, g6, g7⟩ := h
        refine ⟨?_, ?_, ⟨u - 1, pn', ?_, ?_, ?_, ?_, fun i hi => ?_⟩, ?_, ?_, ?_, ?_⟩
        · exact ((g1.fc (f2 31) (by omega) (fun k j q => by omega)).fc c2 (by omega) (fun k j q => by unfold rgS; omega)).fc (w3' 31) (by omega) (fun k j q => by omega)
        · exact (c3.fc (w3' 40) (by omega) (fun x j a1 a2 => by omega)).ag hn hm w2'
        · omega
        · rw [(w3' 0).1 _ _ (by omega), c2.1 _ _ (by unfold rgS; omega)]
          show (wI (wI σ 0 11 (nI (u - 1))) 0 10 (nI pn')).1 0 11 = _
          rw [wI_k, upd_n (by omega), wI_k, upd_k]
        · rw [w3.1 _ _ (by omega), wI_k, upd_k]
        · rw [(w3' 0).1 _ _ (by omega), c2.1 _ _ (by unfold rgS; omega)]
          show (wI (wI σ 0 11 (nI (u - 1))) 0 10 (nI pn')).1 0 10 = _
          rw [wI_k, upd_k]
        · rw [show (pn' + 40 - (u - 1) + i) % 40 = (pn + 40 - u + i) % 40 by omega]
          refine CE.ag ((((u4 i (by omega)).fc (f2 0) (by omega) (fun x j a1 a2 => by omega)).fc c2 (by omega) (fun x j a1 a2 => by unfold rgS; omega)).fc (w3' 40) (by omega) (fun x j a1 a2 => by omega)) hn hm (fun x hx => ?_)
          show ω.1 (M + 33) (88 * i + x) = σ.1 (M + 33) (88 * i + x)
          rw [(w3' 0).1 _ _ (by omega), eM _ _ (by omega)]
        · exact ((g4.fc (f2 31) (by omega) (fun k j q => by omega)).fc c2 (by omega) (fun k j q => by unfold rgS; omega)).fc (w3' 31) (by omega) (fun k j q => by omega)
        · exact ((g5.fc (f2 31) (fun k j q => by omega)).fc c2 (fun k j q => by unfold rgS; omega)).fc (w3' 31) (fun k j q => by omega)
        · exact ((g6.fc (f2 31) (fun k j q => by omega)).fc c2 (fun k j q => by unfold rgS; omega)).fc (w3' 31) (fun k j q => by omega)
        · exact ((g7.fc (f2 31) (by omega)).fc c2 (by omega)).fc (w3' 31) (by omega)
    · show bX7_undo_21 M (nI i) υ = _
      unfold bX7_undo_21
      rw [if_neg (show ¬ (88 : Int32) ≤ nI i from le_nI (a := 88) (by omega) (by omega) hi), e1 M 53 (by omega), wI_k, upd_k, k88 (by omega) hi]
      simp (disch := omega) only [vif, nI_clamp]
      rw [e1 (M + 33) _ (by omega), wI_n (by omega), eM _ _ (by omega), nI_s, Nat.zero_add]
    · show bX7_undo_21 M (nI 88) υ = _
      unfold bX7_undo_21
      rw [if_pos (by decide)]
theorem arg3 (p : Int32) : (p < 0 ∨ (3 : Int32) ≤ p) ∨ p = nI 0 ∨ p = nI 1 ∨ p = nI 2 := by
  rcases arg p (n := 3) (by omega) with q | ⟨j, hj, rfl⟩
  · exact Or.inl q
  · rcases (show j = 0 ∨ j = 1 ∨ j = 2 by omega) with rfl | rfl | rfl
    · exact Or.inr (Or.inl rfl)
    · exact Or.inr (Or.inr (Or.inl rfl))
    · exact Or.inr (Or.inr (Or.inr rfl))
theorem isSlot_v {s : Nat} (hs : s < 3) : fX6_isSlot (nI s) σ = some (1, σ) := by
  unfold fX6_isSlot
  rw [if_neg (Int32.not_lt.mpr (nI_n1 (by omega))), if_neg (show ¬ (3 : Int32) ≤ nI s from le_nI (a := 3) (by omega) (by omega) hs)]
theorem isSlot_0 {p : Int32} (hp : p < 0 ∨ nI 3 ≤ p) : fX6_isSlot p σ = some (0, σ) := by
  unfold fX6_isSlot
  by_cases q : p < 0
  · rw [if_pos q]
  · rw [if_neg q, if_pos (show (3 : Int32) ≤ p from hp.resolve_left q)]
theorem slot_0 {p : Int32} (hp : p < 0 ∨ nI 3 ≤ p) : fX7_in p 0 2 σ = some (0, σ) := in_0 (by
  by_cases q : p < 0
  · exact Or.inl q
  · exact Or.inr (Int32.not_le.mp (fun z => absurd (Int32.le_trans (hp.resolve_left q) z) (by decide))))
theorem ag_hold (h : RLp M t t' ℓ n m bo dr lb lf sd kw σ) (p : Int32) : Ag (fX6_hold 0 p) (fX7_hold M p) (RLp M t t' ℓ n m bo dr lb lf sd kw) σ := by
  have hM := h.1.1
  have hn := h.n8
  have hm := h.m6
  have ht : t = 2 ∨ t = 14 := by rcases h.1.2.1 with q | q <;> omega
  obtain ⟨hs, s1, s2, s3⟩ := h.2.2.2.1
  show ∃ r σ1 σ2, fX6_hold 0 p σ = some (r, σ1) ∧ fX7_hold M p σ1 = some (r, σ2) ∧ RLp M t t' ℓ n m bo dr lb lf sd kw σ2
  unfold fX6_hold fX7_hold
  rcases arg p (n := 3) (by omega) with q | ⟨s, hs3, rfl⟩
  · exact ⟨0, σ, σ, by rw [isSlot_0 q]; rfl, by rw [slot_0 q]; rfl, h⟩
  · obtain ⟨c1, c2, c3⟩ := h.2.1.cp (a := 415 + 9 * s) hn hm (by omega)
    generalize hτ : cpS (415 + 9 * s) 31 σ = τ at c1 c2 c3
    let τ2 := wI τ 0 13 (nI (mk8 (fset hs s true)))
    have f2 : ∀ r, Fc (fun k j => k = 0 ∧ j = 13) r τ τ2 := fun r => Fc.rf.wI ⟨rfl, rfl⟩
    have eM : ∀ k j, M ≤ k → τ2.1 k j = σ.1 k j := fun k j hk => ((f2 0).1 k j (by omega)).trans (c2.1 k j (by unfold rgS; omega))
    have hh := cpyL (A := M + 39) (s := 88 * s) (e := 88) (f := fun st : Int32 × Sg => bX7_hold_20 M (nI s) st.1 st.2) (v := σ.1 (M + 30)) (wI τ2 (M + 38) s 1) (fun i υ hi e1 e2 e3 => ?_) (fun υ => ?_)
    · obtain ⟨ω, w1, w2, w3⟩ := hh
      refine ⟨1, τ2, ω, ?_, ?_, ?_⟩
      · rw [isSlot_v hs3, Option.bind_some]
        dsimp only
        rw [if_neg one0]
        simp (disch := omega) only [vif, nI_clamp, Nat.zero_add]
        rw [h.2.2.2.2.2.2.2.1 s hs3, if_pos (by omega), c1, Option.bind_some]
        rw [c2.1 0 13 (by unfold rgS; omega), s1, mk8_set _ (by omega)]
      · rw [in_1 (nI_n1 (by omega)) (show nI s ≤ 2 from nI_le (b := 2) (by omega) (by omega)), Option.bind_some]
        dsimp only
        rw [if_neg one0]
        simp (disch := omega) only [vif, nI_clamp]
        rw [nar1, w1]; rfl
      · have w3' : ∀ r, Fc (fun k j => k = M + 39 ∧ 88 * s ≤ j ∧ j < 88 * s + 88 ∨ k = M + 38 ∧ j = s) r τ2 ω := fun r => (((Fs.rf (σ := τ2)).wI (Or.inr ⟨rfl, rfl⟩)).tr (w3.mo (fun k j q => by omega))).fc
        obtain ⟨g1, g2, g3, g4, g5, g6, g7⟩ := h
        refine ⟨?_, ?_, ?_, ⟨fset hs s true, ?_, fun s' hs' => ?_, fun s' hs' => ⟨?_, fun hq => ?_⟩⟩, ?_, ?_, ?_⟩
        · exact ((g1.fc c2 (by omega) (fun k j q => by unfold rgS; omega)).fc (f2 31) (by omega) (fun k j q => by omega)).fc (w3' 31) (by omega) (fun k j q => by omega)
        · exact now_fc (now_fc (now_fc g2 c2 (by omega) (fun k j q => by unfold rgS; omega)) (f2 40) (by omega) (fun k j q => by omega)) (w3' 40) (by omega) (fun k j q => by omega)
        · exact ((g3.fc c2 (by omega) (fun k j q => by unfold rgS; omega)).fc (f2 31) (by omega) (fun k j q => by omega)).fc (w3' 31) (by omega) (fun k j q => by omega)
        · rw [(w3' 0).1 _ _ (by omega)]
          show (wI τ 0 13 (nI (mk8 (fset hs s true)))).1 0 13 = _
          rw [wI_k, upd_k]
        · unfold fset; rw [if_neg (by omega)]; exact s2 s' hs'
        · rw [w3.1 _ _ (by omega), wI_k, upd_a]
          unfold fset
          by_cases z : s' = s
          · rw [if_pos z, if_pos z]; rfl
          · rw [if_neg z, if_neg z, eM _ _ (by omega)]; exact (s3 s' hs').1
        · by_cases z : s' = s
          · subst z
            refine CE.ag ((c3.fc (f2 40) (by omega) (fun x j a1 a2 => by omega)).fc (w3' 40) (by omega) (fun x j a1 a2 => by omega)) hn hm (fun x hx => w2 x hx)
          · have hq' : hs s' = true := by unfold fset at hq; rw [if_neg z] at hq; exact hq
            refine CE.ag (((((s3 s' hs').2 hq').fc c2 (by omega) (fun x j a1 a2 => by unfold rgS; omega)).fc (f2 40) (by omega) (fun x j a1 a2 => by omega)).fc (w3' 40) (by omega) (fun x j a1 a2 => by omega)) hn hm (fun x hx => ?_)
            show ω.1 (M + 39) (88 * s' + x) = σ.1 (M + 39) (88 * s' + x)
            rw [(w3' 0).1 _ _ (by omega), eM _ _ (by omega)]
        · exact ((g5.fc c2 (fun k j q => by unfold rgS; omega)).fc (f2 31) (fun k j q => by omega)).fc (w3' 31) (fun k j q => by omega)
        · exact ((g6.fc c2 (fun k j q => by unfold rgS; omega)).fc (f2 31) (fun k j q => by omega)).fc (w3' 31) (fun k j q => by omega)
        · exact ((g7.fc c2 (by omega)).fc (f2 31) (by omega)).fc (w3' 31) (by omega)
    · show bX7_hold_20 M (nI s) (nI i) υ = _
      unfold bX7_hold_20
      rw [if_neg (show ¬ (88 : Int32) ≤ nI i from le_nI (a := 88) (by omega) (by omega) hi), k88 (by omega) hi]
      simp (disch := omega) only [vif, nI_clamp]
      rw [e1 (M + 30) i (by omega), wI_n (by omega), eM _ _ (by omega), nI_s]
    · show bX7_hold_20 M (nI s) (nI 88) υ = _
      unfold bX7_hold_20
      rw [if_pos (by decide)]
theorem ag_restore (h : RLp M t t' ℓ n m bo dr lb lf sd kw σ) (p : Int32) : Ag (fX6_restore 0 p) (fX7_restore M p) (RLp M t t' ℓ n m bo dr lb lf sd kw) σ := by
  have hM := h.1.1
  have hn := h.n8
  have hm := h.m6
  have ht : t = 2 ∨ t = 14 := by rcases h.1.2.1 with q | q <;> omega
  obtain ⟨hs, s1, s2, s3⟩ := h.2.2.2.1
  obtain ⟨u, pn, ⟨hu, hp⟩, u1, u2, u3, u4⟩ := h.2.2.1
  show ∃ r σ1 σ2, fX6_restore 0 p σ = some (r, σ1) ∧ fX7_restore M p σ1 = some (r, σ2) ∧ RLp M t t' ℓ n m bo dr lb lf sd kw σ2
  unfold fX6_restore fX7_restore
  rcases arg p (n := 3) (by omega) with q | ⟨s, hs3, rfl⟩
  · exact ⟨0, σ, σ, by rw [isSlot_0 q]; rfl, by rw [slot_0 q]; rfl, h⟩
  · rw [isSlot_v hs3, Option.bind_some]
    dsimp only
    rw [if_neg one0, s1, fX6_bit_v _ (by omega), Option.bind_some]
    dsimp only
    cases hq : hs s
    · refine ⟨0, σ, σ, if_pos (by decide), ?_, h⟩
      rw [in_1 (nI_n1 (by omega)) (show nI s ≤ 2 from nI_le (b := 2) (by omega) (by omega)), Option.bind_some]
      dsimp only
      rw [if_neg one0]
      simp (disch := omega) only [vif, nI_clamp]
      rw [(s3 s hs3).1, hq, if_pos (by decide)]
    · rw [if_neg (by decide)]
      simp (disch := omega) only [vif, nI_clamp, Nat.zero_add]
      rw [h.2.2.2.2.2.2.2.1 s hs3, if_pos (by omega)]
      obtain ⟨c1, c2, c3⟩ := ((s3 s hs3).2 hq).cp (a := 31) hn hm (by omega)
      generalize hτ : cpS 31 (415 + 9 * s) σ = τ at c1 c2 c3
      have f2 : ∀ r, Fc (fun k j => k = 0 ∧ j = 11) r τ (wI τ 0 11 0) := fun r => Fc.rf.wI ⟨rfl, rfl⟩
      have eM : ∀ k j, M ≤ k → (wI τ 0 11 0).1 k j = σ.1 k j := fun k j hk => ((f2 0).1 k j (by omega)).trans (c2.1 k j (by unfold rgS; omega))
      have hh := cpyL (A := M + 30) (s := 0) (e := 88) (f := fun st : Int32 × Sg => bX7_restore_22 M (nI s) st.1 st.2) (v := fun x => σ.1 (M + 39) (88 * s + x)) (wI τ 0 11 0) (fun i υ hi e1 e2 e3 => ?_) (fun υ => ?_)
      · obtain ⟨ω, w1, w2, w3⟩ := hh
        refine ⟨1, wI τ 0 11 0, wI ω M 53 0, ?_, ?_, ?_⟩
        · rw [c1, Option.bind_some]
        · rw [in_1 (nI_n1 (by omega)) (show nI s ≤ 2 from nI_le (b := 2) (by omega) (by omega)), Option.bind_some]
          dsimp only
          rw [if_neg one0, eM _ _ (by omega), (s3 s hs3).1, hq, if_neg (by decide), w1]; rfl
        · have w3' : ∀ r, Fc (fun k j => k = M + 30 ∨ k = M ∧ j = 53) r (wI τ 0 11 0) (wI ω M 53 0) := fun r => ((w3.mo (fun k j q => by omega)).wI (Or.inr ⟨rfl, rfl⟩)).fc
          have w2' : ∀ x, x < 88 → (wI ω M 53 0).1 (M + 30) x = σ.1 (M + 39) (88 * s + x) := fun x hx => by have := w2 x hx; rw [Nat.zero_add] at this; rw [wI_n (by omega)]; exact this
          obtain ⟨g1, g2, g3, g4, g5, g6, g7⟩ := h
          refine ⟨?_, ?_, ⟨0, pn, ⟨by omega, hp⟩, ?_, ?_, ?_, fun i hi => by omega⟩, ?_, ?_, ?_, ?_⟩
          · exact ((g1.fc c2 (by omega) (fun k j q => by unfold rgS; omega)).fc (f2 31) (by omega) (fun k j q => by omega)).fc (w3' 31) (by omega) (fun k j q => by omega)
          · exact ((c3.fc (f2 40) (by omega) (fun x j a1 a2 => by omega)).fc (w3' 40) (by omega) (fun x j a1 a2 => by omega)).ag hn hm w2'
          · rw [(w3' 0).1 _ _ (by omega), wI_k, upd_k]; rfl
          · rw [wI_k, upd_k]; rfl
          · rw [(w3' 0).1 _ _ (by omega), (f2 0).1 _ _ (by omega), c2.1 _ _ (by unfold rgS; omega), u3]
          · exact ((g4.fc c2 (by omega) (fun k j q => by unfold rgS; omega)).fc (f2 31) (by omega) (fun k j q => by omega)).fc (w3' 31) (by omega) (fun k j q => by omega)
          · exact ((g5.fc c2 (fun k j q => by unfold rgS; omega)).fc (f2 31) (fun k j q => by omega)).fc (w3' 31) (fun k j q => by omega)
          · exact ((g6.fc c2 (fun k j q => by unfold rgS; omega)).fc (f2 31) (fun k j q => by omega)).fc (w3' 31) (fun k j q => by omega)
          · exact ((g7.fc c2 (by omega)).fc (f2 31) (by omega)).fc (w3' 31) (by omega)
      · show bX7_restore_22 M (nI s) (nI i) υ = _
        unfold bX7_restore_22
        rw [if_neg (show ¬ (88 : Int32) ≤ nI i from le_nI (a := 88) (by omega) (by omega) hi), k88 (by omega) hi]
        simp (disch := omega) only [vif, nI_clamp]
        rw [e1 (M + 39) _ (by omega), eM _ _ (by omega), nI_s, Nat.zero_add]
      · show bX7_restore_22 M (nI s) (nI 88) υ = _
        unfold bX7_restore_22
        rw [if_pos (by decide)]
end UNDO
