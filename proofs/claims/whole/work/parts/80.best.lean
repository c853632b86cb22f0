section BEST
variable {M a b t t' ℓ n m L : Nat} {bo : Nat → Bool} {dr : Nat → Int32} {lb : Nat → Br} {lf : Nat → Rp} {sd : Int32} {kw : Nat → Int64} {σ τ υ : Sg} {ρ ρ' : Nat → Int32}
/-- a pair is tried -/
def cbS (al : Nat → Nat → Nat) (ok : Nat → Nat → Bool) (w v : Nat) (s : Nat × Int32) : Nat × Int32 := if ok w v = true ∧ al w v < s.1 then (al w v, nI (10 * w + v)) else s
def cbI (al : Nat → Nat → Nat) (ok : Nat → Nat → Bool) (w : Nat) : Nat → Nat → Nat × Int32 → Nat × Int32
  | 0, _, s => s
  | d + 1, i, s => cbI al ok w d (i + 1) (cbS al ok w i s)
def cbO (al : Nat → Nat → Nat) (ok : Nat → Nat → Bool) (n : Nat) : Nat → Nat → Nat × Int32 → Nat × Int32
  | 0, _, s => s
  | d + 1, i, s => cbO al ok n d (i + 1) (cbI al ok i (n - (i + 1)) (i + 1) s)
def cbG (s : Nat × Int32) : Prop := s.1 ≤ 576 ∧ (s.2 = -2 ∨ 0 ≤ s.2)
theorem cbS_g {al : Nat → Nat → Nat} {ok : Nat → Nat → Bool} (hl : ∀ w v, al w v ≤ 576) {w v : Nat} (hw : w < 8) (hv : v < 8) {s : Nat × Int32} (h : cbG s) : cbG (cbS al ok w v s) := by
  unfold cbS
  split
  · exact ⟨hl w v, Or.inr (nI_n1 (by omega))⟩
  · exact h
theorem cbI_g {al : Nat → Nat → Nat} {ok : Nat → Nat → Bool} (hl : ∀ w v, al w v ≤ 576) {w : Nat} (hw : w < 8) : ∀ d i s, i + d ≤ 8 → cbG s → cbG (cbI al ok w d i s)
  | 0, _, _, _, h => h
  | d + 1, i, s, hi, h => cbI_g hl hw d (i + 1) _ (by omega) (cbS_g hl hw (by omega) h)
theorem ag_changeBest (h : RLp M t t' ℓ n m bo dr lb lf sd kw σ) (p1 : Int32) : Ag (fX6_changeBest 0 p1) (fX7_changeBest M p1) (RLp M t t' ℓ n m bo dr lb lf sd kw) σ := by
  have hn := h.n8
  have hm := h.m6
  have hM := h.1.1
  have ht := h.t2
  show ∃ r σ1 σ2, fX6_changeBest 0 p1 σ = some (r, σ1) ∧ fX7_changeBest M p1 σ1 = some (r, σ2) ∧ RLp M t t' ℓ n m bo dr lb lf sd kw σ2
  unfold fX6_changeBest fX7_changeBest
  rcases either p1 with hp | ⟨h0, h1, hp⟩
  · rw [c_ei1 hp, Option.bind_some]
    dsimp only
    rw [if_neg one0]
    generalize hal : (fun w v => wAl (oH n (hourS n m bo dr lb lf sd 1 (-1)) (swI w v 40 (nowR M σ))) 72) = al
    generalize hok : (fun w v => decide (σ.1 (M + 30) (40 + w) = 0 ∧ σ.1 (M + 30) (40 + v) = 0)) = ok
    have hl : ∀ w v, al w v ≤ 576 := fun w v => by rw [← hal]; exact wAl_le _ 72
    have cst : ∀ (w v : Nat) (s : Nat × Int32) (τ : Sg), w < v → v < n → cbG s → Fx M σ τ → ∃ υ, Fx M σ υ ∧ bX6_changeBest_58 0 p1 (nI w) (nI s.1) s.2 (nI v) τ = some (Sum.inl (nI (cbS al ok w v s).1, (cbS al ok w v s).2, nI (v + 1), υ)) := by
      intro w v s τ hw hv hs hF
      have hτ := h.fx hF
      have e30 : ∀ x, τ.1 (M + 30) x = σ.1 (M + 30) x := fun x => hF.1 _ _ (by unfold SX; omega)
      have eb : decide (τ.1 (M + 30) (40 + w) = 0 ∧ τ.1 (M + 30) (40 + v) = 0) = ok w v := by rw [e30, e30, ← hok]
      have a1 := hl w v
      have a2 := hs.1
      unfold bX6_changeBest_58 jX6_changeBest_140 cbS
      rw [hτ.1.2.2.1, hτ.ct.2.1, if_neg (le_nI (by omega) (by omega) hv)]
      simp only [Nat.zero_add]
      rw [c_both hτ.ca hτ.cr (by omega) hv, eb, Option.bind_some]
      dsimp only
      cases hq : ok w v
      · refine ⟨τ, hF, ?_⟩
        rw [if_pos (by decide), if_neg (fun z => by cases z.1), nI_s]
      · obtain ⟨υ1, υ2, υ3, c1, c2, c3, c4, c5, c6, c7⟩ := trialC hτ (f := fX2_swapPeople 40 (nI w) (nI v)) (lo := -1) (ρ' := swI w v 40 (nowR M σ)) (fun τ hr hT => by
          rw [nowR_fx hM hF] at hT
          obtain ⟨τ', b1, b2, b3⟩ := c_swapPeople hT.2.1 hn hm (w := w) (v := v) (by omega) hv (by omega)
          exact ⟨τ', b1, (b2.mo (fun k j q => by unfold SY; omega)).fc, hT.md b2 (fun k j q => by omega) b3 (rv_swI hT.2.2.1 hn hm (by omega) hv) (swI_o (by omega))⟩) (k := 72) (by omega)
        refine ⟨υ3, hF.tr c5, ?_⟩
        have c3 : fX5_follow 49 40 72 υ2 = some υ3 := c3
        have ea : υ3.1 49 1 = nI (al w v) := by rw [c7.2.1, ← hal]
        rw [if_neg (by decide), c1, Option.bind_some, c2, Option.bind_some, c3, Option.bind_some, ea, nI_s, show (10 : Int32) * nI w = nI (10 * w) from pk_mul 10 w, nI_add]
        by_cases z : al w v < s.1
        · rw [if_neg (le_nI (by omega) (by omega) z), if_pos ⟨rfl, z⟩]
        · rw [if_pos (nI_le (by omega) (by omega)), if_neg (fun y => z y.2)]
    have mst : ∀ (w v : Nat) (s : Nat × Int32) (τ : Sg), w < v → v < n → cbG s → Fx M σ τ → ∃ υ, Fx M σ υ ∧ bX7_changeBest_52 M p1 (nI w) (nI s.1) s.2 (nI v) τ = some (Sum.inl (nI (cbS al ok w v s).1, (cbS al ok w v s).2, nI (v + 1), υ)) := by
      intro w v s τ hw hv hs hF
      have hτ := h.fx hF
      have hX := hτ.ms.1
      have e30 : ∀ x, τ.1 (M + 30) x = σ.1 (M + 30) x := fun x => hF.1 _ _ (by unfold SX; omega)
      have eb : decide (τ.1 (M + 30) (40 + w) = 0 ∧ τ.1 (M + 30) (40 + v) = 0) = ok w v := by rw [e30, e30, ← hok]
      have a1 := hl w v
      have a2 := hs.1
      unfold bX7_changeBest_52 jX7_changeBest_123 cbS
      rw [if_pos hX.vl, hX.cl, hX.2.2.2.1, if_neg (le_nI (by omega) (by omega) hv), m_can (by omega) (by omega), eb, Option.bind_some]
      dsimp only
      cases hq : ok w v
      · refine ⟨τ, hF, ?_⟩
        rw [if_pos (by decide), if_neg (fun z => by cases z.1), nI_s]
      · obtain ⟨y1, y2, y3, e1, e2, e3, e4, e5, e6, e7⟩ := trialM hτ (f := fX7_changes M (nI w) (nI v)) (lo := -1) (ρ' := swI w v 40 (nowR M σ)) (fun τ hr r1 r2 r3 r4 => by
          obtain ⟨τ', b1, b2, b3⟩ := m_changes (M := M) (σ := τ) (w := w) (v := v) (by omega) (by omega)
          refine ⟨τ', b1, (b2.mo (fun k j q => by unfold SZ SX; omega)).fc, ?_, ?_, ?_, ?_⟩
          · rw [b3, r1, nowR_fx hM hF]
          · rw [b2.1 _ _ (by omega)]; exact r2
          · rw [b2.1 _ _ (by omega)]; exact r3
          · rw [b2.1 _ _ (by omega)]; exact r4) (rv_swI h.rvn hn hm (by omega) hv) (k := 72) (by omega)
        refine ⟨y3, hF.tr e5, ?_⟩
        have e3 : fX7_standsFor M 72 y2 = some y3 := e3
        have ea : y3.1 M 56 = nI (al w v) := by rw [e7.2.1, ← hal]
        rw [if_neg (by decide), e1, Option.bind_some, e2, Option.bind_some, e3, Option.bind_some, ea, nI_s, show (10 : Int32) * nI w = nI (10 * w) from pk_mul 10 w, nI_add]
        by_cases z : al w v < s.1
        · rw [if_pos (Int32.not_le.mp (le_nI (by omega) (by omega) z)), if_pos ⟨rfl, z⟩]
        · rw [if_neg (Int32.not_lt.mpr (nI_le (by omega) (by omega))), if_neg (fun y => z y.2)]
    have cin : ∀ (w d i : Nat) (s : Nat × Int32) (τ : Sg), w < i → i + d = n → cbG s → Fx M σ τ → ∃ υ, Fx M σ υ ∧ lp (fun st : Int32 × Int32 × Int32 × Sg => bX6_changeBest_58 0 p1 (nI w) st.1 st.2.1 st.2.2.1 st.2.2.2) (nI s.1, s.2, nI i, τ) = some (nI (cbI al ok w d i s).1, (cbI al ok w d i s).2, υ) := by
      intro w d
      induction d with
      | zero =>
        intro i s τ hw hi hs hF
        have hτ := h.fx hF
        have : i = n := by omega
        subst this
        refine ⟨τ, hF, lp_r ?_⟩
        show bX6_changeBest_58 0 p1 (nI w) (nI s.1) s.2 (nI i) τ = _
        unfold bX6_changeBest_58
        rw [hτ.1.2.2.1, hτ.ct.2.1, if_pos (Int32.le_refl _)]
        rfl
      | succ d ih =>
        intro i s τ hw hi hs hF
        obtain ⟨υ, u1, u2⟩ := cst w i s τ hw (by omega) hs hF
        obtain ⟨ω, o1, o2⟩ := ih (i + 1) (cbS al ok w i s) υ (by omega) (by omega) (cbS_g hl (by omega) (by omega) hs) u1
        exact ⟨ω, o1, (lp_l u2).trans o2⟩
    have min : ∀ (w d i : Nat) (s : Nat × Int32) (τ : Sg), w < i → i + d = n → cbG s → Fx M σ τ → ∃ υ, Fx M σ υ ∧ lp (fun st : Int32 × Int32 × Int32 × Sg => bX7_changeBest_52 M p1 (nI w) st.1 st.2.1 st.2.2.1 st.2.2.2) (nI s.1, s.2, nI i, τ) = some (nI (cbI al ok w d i s).1, (cbI al ok w d i s).2, υ) := by
      intro w d
      induction d with
      | zero =>
        intro i s τ hw hi hs hF
        have hX := (h.fx hF).ms.1
        have : i = n := by omega
        subst this
        refine ⟨τ, hF, lp_r ?_⟩
        show bX7_changeBest_52 M p1 (nI w) (nI s.1) s.2 (nI i) τ = _
        unfold bX7_changeBest_52
        rw [if_pos hX.vl, hX.cl, hX.2.2.2.1, if_pos (Int32.le_refl _)]
        rfl
      | succ d ih =>
        intro i s τ hw hi hs hF
        obtain ⟨υ, u1, u2⟩ := mst w i s τ hw (by omega) hs hF
        obtain ⟨ω, o1, o2⟩ := ih (i + 1) (cbS al ok w i s) υ (by omega) (by omega) (cbS_g hl (by omega) (by omega) hs) u1
        exact ⟨ω, o1, (lp_l u2).trans o2⟩
    have cou : ∀ (d i : Nat) (s : Nat × Int32) (τ : Sg), i + d = n → cbG s → Fx M σ τ → ∃ υ, Fx M σ υ ∧ lp (fun st : Int32 × Int32 × Int32 × Sg => bX6_changeBest_40 0 p1 st.1 st.2.1 st.2.2.1 st.2.2.2) (nI s.1, s.2, nI i, τ) = some (nI (cbO al ok n d i s).1, (cbO al ok n d i s).2, υ) ∧ cbG (cbO al ok n d i s) := by
      intro d
      induction d with
      | zero =>
        intro i s τ hi hs hF
        have hτ := h.fx hF
        have : i = n := by omega
        subst this
        refine ⟨τ, hF, lp_r ?_, hs⟩
        show bX6_changeBest_40 0 p1 (nI s.1) s.2 (nI i) τ = _
        unfold bX6_changeBest_40
        rw [hτ.1.2.2.1, hτ.ct.2.1, if_pos (Int32.le_refl _)]
        rfl
      | succ d ih =>
        intro i s τ hi hs hF
        have hτ := h.fx hF
        obtain ⟨υ, u1, u2⟩ := cin i (n - (i + 1)) (i + 1) s τ (by omega) (by omega) hs hF
        obtain ⟨ω, o1, o2, o3⟩ := ih (i + 1) (cbI al ok i (n - (i + 1)) (i + 1) s) υ (by omega) (cbI_g hl (by omega) _ _ _ (by omega) hs) u1
        refine ⟨ω, o1, (lp_l ?_).trans o2, o3⟩
        show bX6_changeBest_40 0 p1 (nI s.1) s.2 (nI i) τ = _
        unfold bX6_changeBest_40
        rw [hτ.1.2.2.1, hτ.ct.2.1, if_neg (le_nI (by omega) (by omega) (by omega))]
        dsimp only
        rw [nI_s, u2, Option.bind_some]
    have mou : ∀ (d i : Nat) (s : Nat × Int32) (τ : Sg), i + d = n → cbG s → Fx M σ τ → ∃ υ, Fx M σ υ ∧ lp (fun st : Int32 × Int32 × Int32 × Sg => bX7_changeBest_32 M p1 st.1 st.2.1 st.2.2.1 st.2.2.2) (nI s.1, s.2, nI i, τ) = some (nI (cbO al ok n d i s).1, (cbO al ok n d i s).2, υ) := by
      intro d
      induction d with
      | zero =>
        intro i s τ hi hs hF
        have hX := (h.fx hF).ms.1
        have : i = n := by omega
        subst this
        refine ⟨τ, hF, lp_r ?_⟩
        show bX7_changeBest_32 M p1 (nI s.1) s.2 (nI i) τ = _
        unfold bX7_changeBest_32
        rw [if_pos hX.vl, hX.cl, hX.2.2.2.1, if_pos (Int32.le_refl _)]
        rfl
      | succ d ih =>
        intro i s τ hi hs hF
        have hX := (h.fx hF).ms.1
        obtain ⟨υ, u1, u2⟩ := min i (n - (i + 1)) (i + 1) s τ (by omega) (by omega) hs hF
        obtain ⟨ω, o1, o2⟩ := ih (i + 1) (cbI al ok i (n - (i + 1)) (i + 1) s) υ (by omega) (cbI_g hl (by omega) _ _ _ (by omega) hs) u1
        refine ⟨ω, o1, (lp_l ?_).trans o2⟩
        show bX7_changeBest_32 M p1 (nI s.1) s.2 (nI i) τ = _
        unfold bX7_changeBest_32
        rw [if_pos hX.vl, hX.cl, hX.2.2.2.1, if_neg (le_nI (by omega) (by omega) (by omega))]
        dsimp only
        rw [nI_s, u2, Option.bind_some]
    obtain ⟨τ, τ', a1, a2, a3, a4, a5⟩ := c_trial h (k := 72) (by omega)
    have a2 : fX5_follow 49 40 72 τ = some τ' := a2
    generalize ha0 : wAl (oH n (hourS n m bo dr lb lf sd 1 (-1)) (nowR M σ)) 72 = A0
    have hA : A0 ≤ 576 := by rw [← ha0]; exact wAl_le _ 72
    have g0 : cbG (A0, -2) := ⟨hA, Or.inl rfl⟩
    obtain ⟨υ, b1, b2, b3⟩ := cou n 0 (A0, -2) τ' (by omega) g0 a3
    obtain ⟨x, x', d1, d2, d3, d4, d5⟩ := m_trial (h.fx b1) (k := 72) (by omega)
    rw [nowR_fx hM b1] at d5
    have d2 : fX7_standsFor M 72 x = some x' := d2
    obtain ⟨ω, e1, e2⟩ := mou n 0 (A0, -2) x' (by omega) g0 (b1.tr d3)
    have ea : τ'.1 49 1 = nI A0 := by rw [a5.2.1, ha0]
    have em : x'.1 M 56 = nI A0 := by rw [d5.2.1, ha0]
    have b2 : lp (fun st : Int32 × Int32 × Int32 × Sg => bX6_changeBest_40 0 p1 st.1 st.2.1 st.2.2.1 st.2.2.2) (nI A0, -2, 0, τ') = _ := b2
    have e2 : lp (fun st : Int32 × Int32 × Int32 × Sg => bX7_changeBest_32 M p1 st.1 st.2.1 st.2.2.1 st.2.2.2) (nI A0, -2, 0, x') = _ := e2
    generalize hr : cbO al ok n n 0 (A0, -2) = r at b2 b3 e2
    have pz : (r.2 = -2 ∧ r.2 < 0) ∨ (¬ r.2 = -2 ∧ ¬ r.2 < 0) := by
      rcases b3.2 with q | q
      · exact Or.inl ⟨q, by rw [q]; decide⟩
      · refine Or.inr ⟨fun z => ?_, Int32.not_lt.mpr q⟩
        rw [z] at q
        exact absurd q (by decide)
    refine ⟨if p1 = 0 then r.2 else if r.2 = -2 then r.2 else nI r.1, υ, ω, ?_, ?_, h.fx e1⟩
    · rw [a1, Option.bind_some]
      simp only [Nat.zero_add]
      rw [a2, Option.bind_some, ea, b2, Option.bind_some]
      dsimp only
      unfold jX6_changeBest_162
      by_cases z : p1 = 0
      · rw [if_pos z, if_pos z]
      · rw [if_neg z, if_neg z]
        by_cases z2 : r.2 = -2
        · rw [if_pos z2, if_pos z2]
        · rw [if_neg z2, if_neg z2]
    · rw [m_ei1 hp, Option.bind_some]
      dsimp only
      rw [if_neg one0, d1, Option.bind_some, d2, Option.bind_some, em, e2, Option.bind_some]
      dsimp only
      unfold jX7_changeBest_143
      rcases pz with ⟨q1, q2⟩ | ⟨q1, q2⟩
      · rw [if_pos q2, if_pos q1]
        split <;> rfl
      · rw [if_neg q2, if_neg q1]
        by_cases z : p1 = 0
        · rw [if_pos z, if_pos z]
        · rw [if_neg z, if_neg z]
  · exact ⟨-1, σ, σ, by rw [c_ei0 h0 h1]; rfl, by rw [in_0 hp]; rfl, h⟩
theorem cin_86 {i : Nat} (hi : i < n) (hn : n ≤ 8) : (cin n m bo dr lb lf ρ i).2 86 + nI (bef n (cin n m bo dr lb lf ρ i).2) = ρ 86 + nI (bef n ρ) := by
  have hb := cin_bef (m := m) (bo := bo) (dr := dr) (lb := lb) (lf := lf) (ρ := ρ) hi hn
  have e : (cin n m bo dr lb lf ρ i).2 86 = ρ 86 + nI (b2n (cin n m bo dr lb lf ρ i).1) := by
    unfold cin
    split
    · cases hl : letr n m bo dr lb lf ρ i with
      | none => show ρ 86 = ρ 86 + nI (b2n false); rw [show nI (b2n false) = 0 from rfl, Int32.add_zero]
      | some w =>
        show cinR m dr ρ i w 86 = ρ 86 + 1
        unfold cinR
        split
        · rw [upd_n (by omega), upd_k]
        · rw [upd_k]
    · show ρ 86 = ρ 86 + nI (b2n false); rw [show nI (b2n false) = 0 from rfl, Int32.add_zero]
  rw [e, ← hb, ← nI_add, Int32.add_assoc, Int32.add_comm (nI (b2n _)) _]
theorem lin1_86 (hn : n ≤ 8) : ∀ (d i : Nat) (fl : Bool) (ρ : Nat → Int32), i + d ≤ n → (lin1 n m bo dr lb lf d i fl ρ).2 86 + nI (bef n (lin1 n m bo dr lb lf d i fl ρ).2) = ρ 86 + nI (bef n ρ)
  | 0, _, _, _, _ => rfl
  | d + 1, i, fl, ρ, hi => by
    unfold lin1
    rw [lin1_86 hn d (i + 1) _ _ (by omega), cin_86 (by omega) hn]
theorem linR_86 (hn : n ≤ 8) : ∀ (k : Nat) (ρ : Nat → Int32), linR n m bo dr lb lf k ρ 86 + nI (bef n (linR n m bo dr lb lf k ρ)) = ρ 86 + nI (bef n ρ)
  | 0, _ => rfl
  | k + 1, ρ => by
    unfold linR
    have := lin1_86 (m := m) (bo := bo) (dr := dr) (lb := lb) (lf := lf) hn n 0 false ρ (by omega)
    split
    · rw [linR_86 hn k _, this]
    · exact this
theorem ag_frees (h : RLp M t t' ℓ n m bo dr lb lf sd kw σ) (p1 : Int32) : Ag (fX6_frees 0 p1) (fX7_frees M p1) (RLp M t t' ℓ n m bo dr lb lf sd kw) σ := by
  have hn := h.n8
  have hm := h.m6
  have hM := h.1.1
  have ht := h.t2
  show ∃ r σ1 σ2, fX6_frees 0 p1 σ = some (r, σ1) ∧ fX7_frees M p1 σ1 = some (r, σ2) ∧ RLp M t t' ℓ n m bo dr lb lf sd kw σ2
  unfold fX6_frees fX7_frees
  rcases arg p1 (n := n) (by omega) with q | ⟨w, hw, rfl⟩
  · exact ⟨-1, σ, σ, by rw [c_isH0 h q]; rfl, by rw [m_isH0 h.ms.1 q]; rfl, h⟩
  · generalize hR : upd (upd (nowR M σ) (40 + w) 0) (48 + w) 0 = R
    have hRv : RV n m R := by rw [← hR]; exact (h.rvn.u40 hn hm hw (Or.inl rfl)).u hn hm (by omega)
    obtain ⟨τ, a1, a2, a3⟩ := c_start' h
    obtain ⟨τ2, b1, b2, b3⟩ := bringIn_v (t := t) hn a3.2.1 hw
    rw [hR] at b3
    obtain ⟨τ3, c1, c2, c3⟩ := letPeopleIn_v (a3.1.fs b1) b3 hRv
    have hF : Fx M σ τ3 := (a2.mo (fun k j q => SY_SX ht q)).tr ((b1.tr c1).fy (fun k j q => by unfold SC at q; omega))
    obtain ⟨υ, d1, d2, d3, d4, d5, d6, d7⟩ := m_still (h.fx hF)
    rw [nowR_fx hM hF] at d3
    let υ2 := wI (wI υ (M + 31) (40 + w) 0) (M + 31) (48 + w) 0
    have f2 : Fx M υ υ2 := (Fc.rf.wI (by unfold SX; omega)).wI (by unfold SX; omega)
    have r2 : υ2.1 (M + 31) = R := by
      show (wI (wI υ (M + 31) (40 + w) 0) (M + 31) (48 + w) 0).1 (M + 31) = _
      rw [wI_k, wI_k, d3, hR]
    have x2 := d7.fx f2
    obtain ⟨υ3, e1, e2, e3⟩ := lettersIn_v x2.ms
    rw [r2] at e3
    have f3 : Fx M υ2 υ3 := e1.fx (fun _ _ => SR_SQ) (fun x hx => by rw [e3, r2, linR_t hx hn])
    have x3 := x2.fx f3
    have k := linR_86 (m := m) (bo := bo) (dr := dr) (lb := lb) (lf := lf) hn 9 R
    refine ⟨nI (bef n R) - nI (bef n (linR n m bo dr lb lf 9 R)), τ3, υ3, ?_, ?_, x3⟩
    · rw [c_isH1 h hw, Option.bind_some]
      dsimp only
      rw [if_neg one0, a1, Option.bind_some]
      simp only [Nat.zero_add]
      rw [b2, Option.bind_some, c2, Option.bind_some, c3.1.2.2.2.2.2.1, b3.1.2.2.2.2.2.1]
      congr 2
      have k2 : linR n m bo dr lb lf 9 R 86 = R 86 + nI (bef n R) - nI (bef n (linR n m bo dr lb lf 9 R)) := by rw [← k, Int32.add_sub_cancel]
      rw [k2, Int32.sub_eq_add_neg, Int32.sub_eq_add_neg, Int32.sub_eq_add_neg, Int32.add_assoc, Int32.add_comm (R 86) _, Int32.add_assoc, Int32.add_comm (-nI (bef n (linR n m bo dr lb lf 9 R))) (-R 86), ← Int32.add_assoc (R 86), Int32.add_right_neg, Int32.zero_add]
    · rw [m_isH1 (h.fx hF).ms.1 hw, Option.bind_some]
      dsimp only
      rw [if_neg one0, d2, Option.bind_some, k40, k48]
      simp (disch := omega) only [vif, nI_clamp]
      rw [show wI (wI υ (M + 31) (40 + w) 0) (M + 31) (48 + w) 0 = υ2 from rfl, soBits_v x2.ms.1 2, Option.bind_some]
      dsimp only
      rw [bits_v, Option.bind_some]
      dsimp only
      rw [e2, Option.bind_some, soBits_v x3.ms.1 2, Option.bind_some]
      dsimp only
      rw [bits_v, Option.bind_some, r2, e3]
      rfl
end BEST
