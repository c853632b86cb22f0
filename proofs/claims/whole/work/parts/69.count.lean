theorem lp_invG {α β : Type} {f : α → Option (α ⊕ β)} (e : Nat) (I : Nat → α → Prop) (P : β → Prop) (hs : ∀ i s, i < e → I i s → (∃ s', f s = some (.inl s') ∧ I (i + 1) s') ∨ ∃ b, f s = some (.inr b) ∧ P b) (hx : ∀ s, I e s → ∃ b, f s = some (.inr b) ∧ P b) {s : α} (h0 : I 0 s) : ∃ b, lp f s = some b ∧ P b := by
  have key : ∀ d i s, i + d = e → I i s → ∃ b, lp f s = some b ∧ P b := by
    intro d
    induction d with
    | zero =>
      intro i s hi h
      have hi : i = e := by omega
      subst hi
      obtain ⟨b, h1, h2⟩ := hx s h
      exact ⟨b, lp_r h1, h2⟩
    | succ d ih =>
      intro i s hi h
      rcases hs i s (by omega) h with ⟨s', h1, h2⟩ | ⟨b, h1, h2⟩
      · obtain ⟨b, h3, h4⟩ := ih (i + 1) s' (by omega) h2
        exact ⟨b, by rw [lp_l h1]; exact h3, h4⟩
      · exact ⟨b, lp_r h1, h2⟩
  exact key e 0 s (by omega) h0
theorem allB {n : Nat} (hn : n ≤ 8) : (1 : Int32) <<< (nI n &&& 31) - 1 = nI (mk8 (fun i => decide (i < n))) := by
  rcases (show n = 0 ∨ n = 1 ∨ n = 2 ∨ n = 3 ∨ n = 4 ∨ n = 5 ∨ n = 6 ∨ n = 7 ∨ n = 8 by omega) with rfl | rfl | rfl | rfl | rfl | rfl | rfl | rfl | rfl <;> decide
/-- a mask that grows with a loop -/
def upF (f : Nat → Bool) (i : Nat) : Nat → Bool := fun j => decide (j < i) && f j
theorem upF_0 {f : Nat → Bool} : nI (mk8 (upF f 0)) = 0 := (mk8_z _).mpr (fun i _ => by unfold upF; rw [decide_eq_false (by omega)]; rfl)
theorem upF_t {f : Nat → Bool} {i : Nat} (hi : i < 8) (h : f i = true) : nI (mk8 (upF f i)) ||| (1 : Int32) <<< (nI i &&& 31) = nI (mk8 (upF f (i + 1))) := by
  rw [mk8_set _ hi]
  refine congrArg nI (mk8_c fun j hj => ?_)
  unfold fset upF
  by_cases q : j = i
  · subst q; rw [if_pos rfl, h, decide_eq_true (by omega)]; rfl
  · rw [if_neg q, show decide (j < i + 1) = decide (j < i) from decide_eq_decide.mpr (by omega)]
theorem upF_f {f : Nat → Bool} {i : Nat} (h : f i = false) : nI (mk8 (upF f i)) = nI (mk8 (upF f (i + 1))) := congrArg nI (mk8_c fun j hj => by
  unfold upF
  by_cases q : j = i
  · subst q; rw [h, Bool.and_false, Bool.and_false]
  · rw [show decide (j < i + 1) = decide (j < i) from decide_eq_decide.mpr (by omega)])
def rsA (n m : Nat) (lb : Nat → Br) (lf : Nat → Rp) (ρ : Nat → Int32) : Nat → Int32
  | 0 => 0
  | i + 1 => rsA n m lb lf ρ i + renV n m lb lf ρ i
section COUNT
variable {M a t t' ℓ n m : Nat} {bo : Nat → Bool} {dr : Nat → Int32} {lb : Nat → Br} {lf : Nat → Rp} {sd : Int32} {kw : Nat → Int64} {σ τ : Sg} {ρ : Nat → Int32}
theorem c_rentAll (h : CA σ a t n m bo dr lb lf) (hc : CR σ a n m ρ) : ∃ τ, Fs (SL t) σ τ ∧ fX2_rentOfAll a σ = some (rsA n m lb lf ρ n, τ) := by
  have hn := h.2.2.1.1
  obtain ⟨b, h1, h2⟩ := lp_invG (f := fun st : Int32 × Int32 × Sg => bX2_rentOfAll_4 a st.1 st.2.1 st.2.2) n (fun i s => s.1 = rsA n m lb lf ρ i ∧ s.2.1 = nI i ∧ Fs (SL t) σ s.2.2) (fun b => b.1 = rsA n m lb lf ρ n ∧ Fs (SL t) σ b.2) (fun i s hi hI => by
      obtain ⟨x, y, τ⟩ := s
      obtain ⟨e1, e2, hF⟩ := hI
      dsimp only at e1 e2 hF
      subst e1 e2
      have hτ := h.sl hF
      obtain ⟨υ, g1, g2⟩ := c_rentOf hτ (hc.sl h.1 hF) hi
      refine Or.inl ⟨(rsA n m lb lf ρ (i + 1), nI (i + 1), υ), ?_, rfl, rfl, hF.tr g1⟩
      show bX2_rentOfAll_4 a _ (nI i) τ = _
      unfold bX2_rentOfAll_4
      rw [hτ.2.1, hτ.2.2.2.1, if_neg (le_nI (by omega) (by omega) hi), g2, Option.bind_some, nI_s]
      rfl) (fun s hI => by
      obtain ⟨x, y, τ⟩ := s
      obtain ⟨e1, e2, hF⟩ := hI
      dsimp only at e1 e2 hF
      subst e1 e2
      have hτ := h.sl hF
      refine ⟨(rsA n m lb lf ρ n, τ), ?_, rfl, hF⟩
      show bX2_rentOfAll_4 a _ (nI n) τ = _
      unfold bX2_rentOfAll_4
      rw [hτ.2.1, hτ.2.2.2.1, if_pos (Int32.le_refl _)]) (s := (0, 0, σ)) ⟨rfl, rfl, Fs.rf⟩
  obtain ⟨x, τ⟩ := b
  obtain ⟨e1, e2⟩ := h2
  dsimp only at e1 e2
  subst e1
  refine ⟨τ, e2, ?_⟩
  unfold fX2_rentOfAll
  rw [h1]
  rfl
theorem m_rentAll (h : MS σ M ℓ n m bo dr lb lf) : ∃ τ, Fs (SV M) σ τ ∧ fX7_rentsAll M σ = some (rsA n m lb lf (σ.1 (M + 31)) n, τ) := by
  have hn := h.1.2.2.1
  obtain ⟨b, h1, h2⟩ := lp_invG (f := fun st : Int32 × Int32 × Sg => bX7_rentsAll_4 M st.1 st.2.1 st.2.2) n (fun i s => s.1 = rsA n m lb lf (σ.1 (M + 31)) i ∧ s.2.1 = nI i ∧ Fs (SV M) σ s.2.2) (fun b => b.1 = rsA n m lb lf (σ.1 (M + 31)) n ∧ Fs (SV M) σ b.2) (fun i s hi hI => by
      obtain ⟨x, y, τ⟩ := s
      obtain ⟨e1, e2, hF⟩ := hI
      dsimp only at e1 e2 hF
      subst e1 e2
      have hτ := h.sv hF
      obtain ⟨υ, g1, g2⟩ := rentOf_v hτ (w := i) (by omega)
      rw [row_sv hF] at g2
      refine Or.inl ⟨(rsA n m lb lf (σ.1 (M + 31)) (i + 1), nI (i + 1), υ), ?_, rfl, rfl, hF.tr g1⟩
      show bX7_rentsAll_4 M _ (nI i) τ = _
      unfold bX7_rentsAll_4
      rw [if_pos hτ.1.vl, hτ.1.cl, hτ.1.2.2.2.1, if_neg (le_nI (by omega) (by omega) hi), g2, Option.bind_some, nI_s]
      rfl) (fun s hI => by
      obtain ⟨x, y, τ⟩ := s
      obtain ⟨e1, e2, hF⟩ := hI
      dsimp only at e1 e2 hF
      subst e1 e2
      have hτ := h.sv hF
      refine ⟨(rsA n m lb lf (σ.1 (M + 31)) n, τ), ?_, rfl, hF⟩
      show bX7_rentsAll_4 M _ (nI n) τ = _
      unfold bX7_rentsAll_4
      rw [if_pos hτ.1.vl, hτ.1.cl, hτ.1.2.2.2.1, if_pos (Int32.le_refl _)]) (s := (0, 0, σ)) ⟨rfl, rfl, Fs.rf⟩
  obtain ⟨x, τ⟩ := b
  obtain ⟨e1, e2⟩ := h2
  dsimp only at e1 e2
  subst e1
  refine ⟨τ, e2, ?_⟩
  unfold fX7_rentsAll
  rw [h1]
  rfl
def glF (ρ : Nat → Int32) : Nat → Bool := fun j => decide (¬ ρ (78 + j) = -2)
theorem c_goals (h : CA σ a t n m bo dr lb lf) (hc : CR σ a n m ρ) : fX2_sparesWithGoal a σ = some (nI (mk8 (upF (glF ρ) m)), σ) := by
  have hm := h.2.2.1.2
  have l := lpn (f := fun st : Int32 × Int32 × Sg => bX2_sparesWithGoal_4 a st.1 st.2.1 st.2.2) (fun i => (nI (mk8 (upF (glF ρ) i)), nI i, σ)) m (b := (nI (mk8 (upF (glF ρ) m)), σ)) (fun i hi => by
    show bX2_sparesWithGoal_4 a _ (nI i) σ = _
    unfold bX2_sparesWithGoal_4 jX2_sparesWithGoal_32
    rw [h.2.1, h.2.2.2.2.1, if_neg (le_nI (by omega) (by omega) hi)]
    simp (disch := omega) only [vif, nI_clamp]
    rw [(hc.2.2 i hi).2, nI_s]
    by_cases q : ρ (78 + i) = -2
    · rw [if_pos q, upF_f (f := glF ρ) (i := i) (by unfold glF; simp [q])]
    · rw [if_neg q, upF_t (f := glF ρ) (i := i) (by omega) (by unfold glF; simp [q])]) (by
    show bX2_sparesWithGoal_4 a _ (nI m) σ = _
    unfold bX2_sparesWithGoal_4
    rw [h.2.1, h.2.2.2.2.1, if_pos (Int32.le_refl _)]) 0 (by omega)
  rw [upF_0] at l
  have l : lp (fun st : Int32 × Int32 × Sg => bX2_sparesWithGoal_4 a st.1 st.2.1 st.2.2) (0, 0, σ) = _ := l
  unfold fX2_sparesWithGoal
  rw [l]
  rfl
theorem m_goals (h : MX σ M ℓ n m) (hv : RV n m (σ.1 (M + 31))) (p1 : Int32) : lp (fun st : Int32 × Int32 × Sg => bX7_count_230 M p1 st.1 st.2.1 st.2.2) (0, 0, σ) = some (nI (mk8 (upF (glF (σ.1 (M + 31))) m)), σ) := by
  have hm := h.2.2.2.2.1
  have l := lpn (f := fun st : Int32 × Int32 × Sg => bX7_count_230 M p1 st.1 st.2.1 st.2.2) (fun i => (nI (mk8 (upF (glF (σ.1 (M + 31))) i)), nI i, σ)) m (b := (nI (mk8 (upF (glF (σ.1 (M + 31))) m)), σ)) (fun i hi => by
    show bX7_count_230 M p1 _ (nI i) σ = _
    unfold bX7_count_230 jX7_count_261
    rw [if_pos h.vl, h.cl, h.2.2.2.2.2, if_neg (le_nI (by omega) (by omega) hi), k78]
    simp (disch := omega) only [vif, nI_clamp]
    rw [nI_s]
    rcases hv.2.2.1 i hi with q | ⟨g, hg, q⟩
    · rw [if_pos (by rw [q]; decide), upF_f (f := glF (σ.1 (M + 31))) (i := i) (by unfold glF; simp [q])]
    · have hn := h.2.2.1
      have n1 : ¬ σ.1 (M + 31) (78 + i) = -2 := by
        rw [q]
        intro z
        have : (0 : Int32) ≤ nI g := nI_n1 (by omega)
        rw [z] at this
        exact absurd this (by decide)
      rw [if_neg (by rw [q]; exact Int32.not_lt.mpr (nI_n1 (by omega))), upF_t (f := glF (σ.1 (M + 31))) (i := i) (by omega) (by unfold glF; simp [n1])]) (by
    show bX7_count_230 M p1 _ (nI m) σ = _
    unfold bX7_count_230
    rw [if_pos h.vl, h.cl, h.2.2.2.2.2, if_pos (Int32.le_refl _)]) 0 (by omega)
  rw [upF_0] at l
  exact l
theorem m_kept (h : MX σ M ℓ n m) (hv : RV n m (σ.1 (M + 30))) : fX7_keptBits M σ = some (nI (mk8 (ktF n (σ.1 (M + 30)) 32)), σ) := by
  have hn := h.2.2.1
  have l := lpn (f := fun st : Int32 × Int32 × Sg => bX7_keptBits_4 M st.1 st.2.1 st.2.2) (fun i => (nI (mk8 (upF (ktF n (σ.1 (M + 30)) 32) i)), nI i, σ)) n (b := (nI (mk8 (upF (ktF n (σ.1 (M + 30)) 32) n)), σ)) (fun i hi => by
    show bX7_keptBits_4 M _ (nI i) σ = _
    unfold bX7_keptBits_4
    rw [if_pos h.vl, h.cl, h.2.2.2.1, if_neg (le_nI (by omega) (by omega) hi), k32]
    simp (disch := omega) only [vif, nI_clamp]
    rw [nI_s]
    rcases (hv.1 i hi).2.1 with q | q
    · rw [q, upF_f (f := ktF n (σ.1 (M + 30)) 32) (i := i) (by rw [ktF_t hi, q]; rfl)]
      have z : (0 : Int32) <<< (nI i &&& 31) = 0 := by
        rcases lt8 (show i < 8 by omega) with rfl | rfl | rfl | rfl | rfl | rfl | rfl | rfl <;> decide
      rw [z, Int32.or_zero]
    · rw [q, upF_t (f := ktF n (σ.1 (M + 30)) 32) (i := i) (by omega) (by rw [ktF_t hi, q]; rfl)]) (by
    show bX7_keptBits_4 M _ (nI n) σ = _
    unfold bX7_keptBits_4
    rw [if_pos h.vl, h.cl, h.2.2.2.1, if_pos (Int32.le_refl _)]) 0 (by omega)
  rw [upF_0] at l
  have l : lp (fun st : Int32 × Int32 × Sg => bX7_keptBits_4 M st.1 st.2.1 st.2.2) (0, 0, σ) = _ := l
  unfold fX7_keptBits
  rw [l, Option.bind_some]
  dsimp only
  have e : mk8 (upF (ktF n (σ.1 (M + 30)) 32) n) = mk8 (ktF n (σ.1 (M + 30)) 32) := mk8_c fun j hj => by
    unfold upF ktF
    by_cases q : j < n
    · simp [q]
    · simp [q]
  rw [e]
theorem ag_count (h : RLp M t t' ℓ n m bo dr lb lf sd kw σ) (p1 : Int32) : Ag (fX6_count 0 p1) (fX7_count M p1) (RLp M t t' ℓ n m bo dr lb lf sd kw) σ := by
  have hn := h.n8
  have hm := h.m6
  have hl := h.ms.1.1
  have hT := h.1.2.2.1
  obtain ⟨τ, k1, k2, k3, -, -, -, k4⟩ := m_copies h
  have hX := k4.ms.1
  have er : ∀ x, x < 88 → τ.1 (M + 31) x = σ.1 (M + 30) x := fun x hx => by rw [k3, nowR_lt hx]
  have es : ∀ v, mk8 (stF n (τ.1 (M + 31)) v) = mk8 (stF n (σ.1 (M + 30)) v) := fun v => mk8_c fun i hi => by unfold stF; rw [er _ (by omega)]
  have hM := h.2.1.2.2.2
  obtain ⟨⟨c1, c2, c3, c4, c5, c6, c7⟩, -, -⟩ := h.cr
  have eo : ∀ k j, ¬ SX M k j → τ.1 k j = σ.1 k j := k1.1
  show ∃ r σ1 σ2, fX6_count 0 p1 σ = some (r, σ1) ∧ fX7_count M p1 σ1 = some (r, σ2) ∧ RLp M t t' ℓ n m bo dr lb lf sd kw σ2
  unfold fX6_count fX7_count
  by_cases q0 : p1 = 0
  · refine ⟨nI n, σ, τ, ?_, ?_, k4⟩
    · rw [if_pos q0, hT, h.ct.2.1]
    · rw [k2, Option.bind_some, if_pos q0, if_pos hX.vl, hX.cl, hX.2.2.2.1]
  · skip
    by_cases q1 : p1 = 1
    · refine ⟨nI m, σ, τ, ?_, ?_, k4⟩
      · rw [if_neg q0, if_pos q1, hT, h.ct.2.2.1]
      · rw [k2, Option.bind_some, if_neg q0, if_pos q1, if_pos hX.vl, hX.cl, hX.2.2.2.2.2]
    · skip
      by_cases q2 : p1 = 2
      · refine ⟨σ.1 (M + 30) 84, σ, τ, ?_, ?_, k4⟩
        · rw [if_neg q0, if_neg q1, if_pos q2]
          simp only [Nat.zero_add]
          rw [c1]
        · rw [k2, Option.bind_some, if_neg q0, if_neg q1, if_pos q2, er 84 (by omega)]
      · skip
        by_cases q3 : p1 = 3
        · refine ⟨irem (σ.1 (M + 30) 84) 24, σ, τ, ?_, ?_, k4⟩
          · rw [if_neg q0, if_neg q1, if_neg q2, if_pos q3]
            simp only [Nat.zero_add]
            rw [c1]
          · rw [k2, Option.bind_some, if_neg q0, if_neg q1, if_neg q2, if_pos q3, er 84 (by omega)]
        · skip
          by_cases q4 : p1 = 4
          · refine ⟨nI (mk8 (stF n (σ.1 (M + 30)) 0)), σ, τ, ?_, ?_, k4⟩
            · rw [if_neg q0, if_neg q1, if_neg q2, if_neg q3, if_pos q4]
              simp only [Nat.zero_add]
              rw [c2]
            · rw [k2, Option.bind_some, if_neg q0, if_neg q1, if_neg q2, if_neg q3, if_pos q4, soBits_v hX 0, es]; rfl
          · skip
            by_cases q5 : p1 = 5
            · refine ⟨nI (mk8 (stF n (σ.1 (M + 30)) 1)), σ, τ, ?_, ?_, k4⟩
              · rw [if_neg q0, if_neg q1, if_neg q2, if_neg q3, if_neg q4, if_pos q5]
                unfold fX6_allHouses
                rw [Option.bind_some]
                simp only [Nat.zero_add]
                rw [hT, h.ct.2.1, allB hn, c2, c3, mk8_or, mk8_diff]
                have e : mk8 (fun i => decide (i < n) && !(stF n (σ.1 (M + 30)) 0 i || stF n (σ.1 (M + 30)) 2 i)) = mk8 (stF n (σ.1 (M + 30)) 1) := mk8_c fun i hi => by
                  by_cases q : i < n
                  · rw [stF_t q, stF_t q, stF_t q]
                    rcases (h.rv.1 i q).1 with z | z | z <;> rw [z] <;> simp [q] <;> decide
                  · unfold stF; simp [q]
                rw [e]
              · rw [k2, Option.bind_some, if_neg q0, if_neg q1, if_neg q2, if_neg q3, if_neg q4, if_pos q5, soBits_v hX 1, es]; rfl
            · skip
              by_cases q6 : p1 = 6
              · refine ⟨nI (mk8 (stF n (σ.1 (M + 30)) 2)), σ, τ, ?_, ?_, k4⟩
                · rw [if_neg q0, if_neg q1, if_neg q2, if_neg q3, if_neg q4, if_neg q5, if_pos q6]
                  simp only [Nat.zero_add]
                  rw [c3]
                · rw [k2, Option.bind_some, if_neg q0, if_neg q1, if_neg q2, if_neg q3, if_neg q4, if_neg q5, if_pos q6, soBits_v hX 2, es]; rfl
              · skip
                by_cases q7 : p1 = 7
                · refine ⟨σ.1 (M + 30) 85, σ, τ, ?_, ?_, k4⟩
                  · rw [if_neg q0, if_neg q1, if_neg q2, if_neg q3, if_neg q4, if_neg q5, if_neg q6, if_pos q7]
                    simp only [Nat.zero_add]
                    rw [hM.2.2.2 rfl]
                  · rw [k2, Option.bind_some, if_neg q0, if_neg q1, if_neg q2, if_neg q3, if_neg q4, if_neg q5, if_neg q6, if_pos q7, er 85 (by omega)]
                · skip
                  by_cases q8 : p1 = 8
                  · refine ⟨nI (mk8 (ktF n (σ.1 (M + 30)) 32)), σ, τ, ?_, ?_, k4⟩
                    · rw [if_neg q0, if_neg q1, if_neg q2, if_neg q3, if_neg q4, if_neg q5, if_neg q6, if_neg q7, if_pos q8]
                      simp only [Nat.zero_add]
                      rw [c4]
                    · rw [k2, Option.bind_some, if_neg q0, if_neg q1, if_neg q2, if_neg q3, if_neg q4, if_neg q5, if_neg q6, if_neg q7, if_pos q8, m_kept hX k4.rv]
                      have e : mk8 (ktF n (τ.1 (M + 30)) 32) = mk8 (ktF n (σ.1 (M + 30)) 32) := mk8_c fun i hi => by unfold ktF; rw [eo _ _ (fun q => by have := h.1.1; unfold SX at q; omega)]
                      rw [e]; rfl
                  · skip
                    by_cases q9 : p1 = 9
                    · obtain ⟨⟨L, l1, l2, l3, -⟩, -⟩ := h.2.2.2.2.2.1
                      refine ⟨nI L, σ, τ, ?_, ?_, k4⟩
                      · rw [if_neg q0, if_neg q1, if_neg q2, if_neg q3, if_neg q4, if_neg q5, if_neg q6, if_neg q7, if_neg q8, if_pos q9, l2]
                      · rw [k2, Option.bind_some, if_neg q0, if_neg q1, if_neg q2, if_neg q3, if_neg q4, if_neg q5, if_neg q6, if_neg q7, if_neg q8, if_pos q9, eo _ _ (fun q => by have := h.1.1; unfold SX at q; omega), l3]
                    · skip
                      by_cases q10 : p1 = 10
                      · obtain ⟨u, pn, hu, u1, u2, -, -⟩ := h.2.2.1
                        refine ⟨nI u, σ, τ, ?_, ?_, k4⟩
                        · rw [if_neg q0, if_neg q1, if_neg q2, if_neg q3, if_neg q4, if_neg q5, if_neg q6, if_neg q7, if_neg q8, if_neg q9, if_pos q10, u1]
                        · rw [k2, Option.bind_some, if_neg q0, if_neg q1, if_neg q2, if_neg q3, if_neg q4, if_neg q5, if_neg q6, if_neg q7, if_neg q8, if_neg q9, if_pos q10, eo _ _ (fun q => by have := h.1.1; unfold SX at q; omega), u2]
                      · skip
                        by_cases q11 : p1 = 11
                        · obtain ⟨u, hu, u1, u2, -⟩ := h.2.2.2.2.1
                          refine ⟨nI u, σ, τ, ?_, ?_, k4⟩
                          · rw [if_neg q0, if_neg q1, if_neg q2, if_neg q3, if_neg q4, if_neg q5, if_neg q6, if_neg q7, if_neg q8, if_neg q9, if_neg q10, if_pos q11, u1]
                          · rw [k2, Option.bind_some, if_neg q0, if_neg q1, if_neg q2, if_neg q3, if_neg q4, if_neg q5, if_neg q6, if_neg q7, if_neg q8, if_neg q9, if_neg q10, if_pos q11, eo _ _ (fun q => by have := h.1.1; unfold SX at q; omega), u2]
                        · skip
                          by_cases q12 : p1 = 12
                          · obtain ⟨hs, s1, s2, s3⟩ := k4.2.2.2.1
                            refine ⟨nI (cnt8 hs), σ, τ, ?_, ?_, k4⟩
                            · rw [if_neg q0, if_neg q1, if_neg q2, if_neg q3, if_neg q4, if_neg q5, if_neg q6, if_neg q7, if_neg q8, if_neg q9, if_neg q10, if_neg q11, if_pos q12, ← eo 0 13 (fun q => by have := h.1.1; unfold SX at q; omega), s1, bitCount_v]; rfl
                            · rw [k2, Option.bind_some, if_neg q0, if_neg q1, if_neg q2, if_neg q3, if_neg q4, if_neg q5, if_neg q6, if_neg q7, if_neg q8, if_neg q9, if_neg q10, if_neg q11, if_pos q12]
                              unfold jX7_count_187 jX7_count_201
                              rw [(s3 0 (by omega)).1, (s3 1 (by omega)).1, (s3 2 (by omega)).1]
                              have ec : cnt8 hs = b2n (hs 0) + b2n (hs 1) + b2n (hs 2) := by
                                unfold cnt8
                                rw [s2 3 (by omega), s2 4 (by omega), s2 5 (by omega), s2 6 (by omega), s2 7 (by omega)]
                                rfl
                              rw [ec]
                              cases hs 0 <;> cases hs 1 <;> cases hs 2 <;> rfl
                          · skip
                            by_cases q13 : p1 = 13
                            · refine ⟨σ.1 (M + 30) 86, σ, τ, ?_, ?_, k4⟩
                              · rw [if_neg q0, if_neg q1, if_neg q2, if_neg q3, if_neg q4, if_neg q5, if_neg q6, if_neg q7, if_neg q8, if_neg q9, if_neg q10, if_neg q11, if_neg q12, if_pos q13]
                                simp only [Nat.zero_add]
                                rw [c6]
                              · rw [k2, Option.bind_some, if_neg q0, if_neg q1, if_neg q2, if_neg q3, if_neg q4, if_neg q5, if_neg q6, if_neg q7, if_neg q8, if_neg q9, if_neg q10, if_neg q11, if_neg q12, if_pos q13, q13, show (73 : Int32) + 13 = nI 86 from rfl]
                                simp (disch := omega) only [vif, nI_clamp]
                                rw [er 86 (by omega)]
                            · skip
                              by_cases q14 : p1 = 14
                              · refine ⟨σ.1 (M + 30) 87, σ, τ, ?_, ?_, k4⟩
                                · rw [if_neg q0, if_neg q1, if_neg q2, if_neg q3, if_neg q4, if_neg q5, if_neg q6, if_neg q7, if_neg q8, if_neg q9, if_neg q10, if_neg q11, if_neg q12, if_neg q13, if_pos q14]
                                  simp only [Nat.zero_add]
                                  rw [c7]
                                · rw [k2, Option.bind_some, if_neg q0, if_neg q1, if_neg q2, if_neg q3, if_neg q4, if_neg q5, if_neg q6, if_neg q7, if_neg q8, if_neg q9, if_neg q10, if_neg q11, if_neg q12, if_neg q13, if_pos q14, q14, show (73 : Int32) + 14 = nI 87 from rfl]
                                  simp (disch := omega) only [vif, nI_clamp]
                                  rw [er 87 (by omega)]
                              · skip
                                by_cases q15 : p1 = 15
                                · refine ⟨nI (mk8 (upF (glF (σ.1 (M + 30))) m)), σ, τ, ?_, ?_, k4⟩
                                  · rw [if_neg q0, if_neg q1, if_neg q2, if_neg q3, if_neg q4, if_neg q5, if_neg q6, if_neg q7, if_neg q8, if_neg q9, if_neg q10, if_neg q11, if_neg q12, if_neg q13, if_neg q14, if_pos q15]
                                    simp only [Nat.zero_add]
                                    rw [c_goals h.ca h.cr]; rfl
                                  · rw [k2, Option.bind_some, if_neg q0, if_neg q1, if_neg q2, if_neg q3, if_neg q4, if_neg q5, if_neg q6, if_neg q7, if_neg q8, if_neg q9, if_neg q10, if_neg q11, if_neg q12, if_neg q13, if_neg q14, if_pos q15, m_goals hX (by rw [k3]; exact h.rvn)]
                                    have e : mk8 (upF (glF (τ.1 (M + 31))) m) = mk8 (upF (glF (σ.1 (M + 30))) m) := mk8_c fun i hi => by
                                      unfold upF glF
                                      by_cases z : i < m
                                      · rw [er _ (by omega)]
                                      · rw [decide_eq_false z, Bool.false_and, Bool.false_and]
                                    rw [e]; rfl
                                · skip
                                  by_cases q16 : p1 = 16
                                  · obtain ⟨υ, g1, g2⟩ := c_rentAll h.ca h.crn
                                    have Fυ := h.sl g1
                                    have hυ := h.fx Fυ
                                    obtain ⟨τ, k1, k2, k3, -, -, -, k4⟩ := m_copies hυ
                                    rw [nowR_fx h.1.1 Fυ] at k3
                                    obtain ⟨ω, l1, l2⟩ := m_rentAll k4.ms
                                    rw [k3] at l2
                                    have Fω : Fx M τ ω := (l1.mo (fun _ _ => SV_SR)).fx (fun _ _ => SR_SQ) (fun x _ => by rw [row_sv l1])
                                    refine ⟨rsA n m lb lf (nowR M σ) n, υ, ω, ?_, ?_, k4.fx Fω⟩
                                    · rw [if_neg q0, if_neg q1, if_neg q2, if_neg q3, if_neg q4, if_neg q5, if_neg q6, if_neg q7, if_neg q8, if_neg q9, if_neg q10, if_neg q11, if_neg q12, if_neg q13, if_neg q14, if_neg q15, if_pos q16]
                                      simp only [Nat.zero_add]
                                      rw [g2]; rfl
                                    · rw [k2, Option.bind_some, if_neg q0, if_neg q1, if_neg q2, if_neg q3, if_neg q4, if_neg q5, if_neg q6, if_neg q7, if_neg q8, if_neg q9, if_neg q10, if_neg q11, if_neg q12, if_neg q13, if_neg q14, if_neg q15, if_pos q16, l2]; rfl
                                  · skip
                                    refine ⟨-1, σ, τ, ?_, ?_, k4⟩
                                    · rw [if_neg q0, if_neg q1, if_neg q2, if_neg q3, if_neg q4, if_neg q5, if_neg q6, if_neg q7, if_neg q8, if_neg q9, if_neg q10, if_neg q11, if_neg q12, if_neg q13, if_neg q14, if_neg q15, if_neg q16]
                                    · rw [k2, Option.bind_some, if_neg q0, if_neg q1, if_neg q2, if_neg q3, if_neg q4, if_neg q5, if_neg q6, if_neg q7, if_neg q8, if_neg q9, if_neg q10, if_neg q11, if_neg q12, if_neg q13, if_neg q14, if_neg q15, if_neg q16]
end COUNT
