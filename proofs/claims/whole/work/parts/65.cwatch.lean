theorem fill_v (n0 a0 : Nat) (v : Int32) (σ : Sg) (hn : n0 ≤ 4000) : ∃ τ, Fs (fun k _ => k = a0) σ τ ∧ fJ7_fill_53178 n0 a0 v σ = some τ ∧ ∀ j, j < n0 → τ.1 a0 j = v := by
  obtain ⟨τ, h1, h2, h3⟩ := lp_inv (f := fun st : Int32 × Sg => bJ7_fill_53178_5 n0 a0 v (Int32.ofNat n0) st.1 st.2) n0 (fun i τ => Fs (fun k _ => k = a0) σ τ ∧ ∀ j, j < i → τ.1 a0 j = v) (fun i τ hi hI => by
      obtain ⟨hF, hr⟩ := hI
      refine ⟨wI τ a0 i v, ?_, hF.wI rfl, fun j hj => ?_⟩
      · show bJ7_fill_53178_5 n0 a0 v (nI n0) (nI i) τ = _
        unfold bJ7_fill_53178_5
        rw [if_neg (le_nI (by omega) (by omega) hi)]
        simp (disch := omega) only [vif, nI_clamp]
        rw [nI_s]
      · rw [wI_k]
        by_cases q : j = i
        · subst q; rw [upd_k]
        · rw [upd_n q]; exact hr j (by omega)) (fun τ hI => by
      show bJ7_fill_53178_5 n0 a0 v (nI n0) (nI n0) τ = _
      unfold bJ7_fill_53178_5
      rw [if_pos (Int32.le_refl _)]) ⟨Fs.rf, fun j hj => by omega⟩
  have h1 : lp (fun st : Int32 × Sg => bJ7_fill_53178_5 n0 a0 v (Int32.ofNat n0) st.1 st.2) (0, σ) = some τ := h1
  refine ⟨τ, h2, ?_, h3⟩
  unfold fJ7_fill_53178
  dsimp only
  rw [h1]
  rfl
/-- what the watch has noted behind k hours -/
def CW (σ : Sg) (w : Nat) (o : Nat → Nat → Bool) (k : Nat) : Prop := (∀ j, j < 8 → σ.1 (w + 1) j = nI (wEa o k j)) ∧ σ.1 w 1 = nI (wAl o k) ∧ σ.1 w 2 = nI (wPk o k) ∧ σ.1 w 3 = nI (wPh o k) ∧ σ.1 w 4 = nI (mk8 (wEv o k))
def wtS (w : Nat) : Nat → Nat → Prop := fun k _ => k = w ∨ k = w + 1
section WATCH
variable {a t w n m : Nat} {σ τ : Sg} {ρ ρ' : Nat → Int32} {bo : Nat → Bool} {dr : Nat → Int32} {lb : Nat → Br} {lf : Nat → Rp}
theorem cnt8_0 (f : Nat → Bool) (h : cnt8 f = 0) : ∀ i, i < 8 → f i = false := by
  intro i hi
  have : ∀ b, b2n b = 0 → b = false := fun b q => by cases b; rfl; exact absurd q (by decide)
  unfold cnt8 at h
  rcases lt8 hi with rfl | rfl | rfl | rfl | rfl | rfl | rfl | rfl <;> exact this _ (by omega)
theorem note_v {o : Nat → Nat → Bool} {i : Nat} (hi : i < 72) (hw : CW σ w o i) : ∃ τ, Fs (wtS w) σ τ ∧ fX5_note w (nI (mk8 (o i))) (nI i) σ = some τ ∧ CW τ w o (i + 1) := by
  obtain ⟨w1, w2, w3, w4, w5⟩ := hw
  have hc := cnt8_le (o i)
  have hp := wPk_le o i
  have E : ∀ ω, Fs (wtS w) σ ω → (∀ j, j < 8 → ω.1 (w + 1) j = nI (wEa o i j)) → ∃ τ, Fs (wtS w) σ τ ∧ jX5_note_43 w (nI (mk8 (o i))) (nI i) (nI (cnt8 (o i))) ω = some τ ∧ (∀ j, j < 8 → τ.1 (w + 1) j = nI (wEa o (i + 1) j)) ∧ ∀ j, τ.1 w j = ω.1 w j := by
    intro ω hF hr
    unfold jX5_note_43
    by_cases q : cnt8 (o i) = 0
    · have hz := cnt8_0 _ q
      rw [lp_r (b := ω) (by
        show bX5_note_46 w _ _ _ 0 ω = _
        unfold bX5_note_46
        rw [if_neg (by decide), q, if_pos (by decide)])]
      refine ⟨ω, hF, rfl, fun j hj => ?_, fun _ => rfl⟩
      rw [hr j hj]
      show _ = nI (wEa o i j + b2n (o i j))
      rw [hz j hj]; rfl
    · obtain ⟨τ, h1, h2, h3, h4⟩ := lp_inv (f := fun st : Int32 × Sg => bX5_note_46 w (nI (mk8 (o i))) (nI i) (nI (cnt8 (o i))) st.1 st.2) 8 (fun x τ => Fs (wtS w) σ τ ∧ (∀ j, τ.1 w j = ω.1 w j) ∧ ∀ j, j < 8 → τ.1 (w + 1) j = if j < x then nI (wEa o (i + 1) j) else nI (wEa o i j)) (fun x τ hx hI => by
          obtain ⟨hF, hM, hr⟩ := hI
          refine ⟨wI τ (w + 1) x (nI (wEa o (i + 1) x)), ?_, hF.wI (Or.inr rfl), fun j => by rw [wI_n (by omega)]; exact hM j, fun j hj => ?_⟩
          · show bX5_note_46 w (nI (mk8 (o i))) (nI i) (nI (cnt8 (o i))) (nI x) τ = _
            unfold bX5_note_46
            rw [if_neg (show ¬ (8 : Int32) ≤ nI x from le_nI (a := 8) (by omega) (by omega) (by omega)), if_neg (show ¬ nI (cnt8 (o i)) ≤ 0 from le_nI (b := 0) (by omega) (by omega) (by omega))]
            simp (disch := omega) only [vif, nI_clamp]
            rw [fX6_bit_v _ hx, Option.bind_some]
            dsimp only
            rw [hr x hx, if_neg (by omega), nI_add, nI_s]
            rfl
          · rw [wI_k]
            by_cases q : j = x
            · subst q; rw [upd_k, if_pos (by omega)]
            · rw [upd_n q, hr j hj]
              by_cases q2 : j < x
              · rw [if_pos q2, if_pos (by omega)]
              · rw [if_neg q2, if_neg (by omega)]) (fun τ hI => by
          show bX5_note_46 w _ _ _ (nI 8) τ = _
          unfold bX5_note_46
          rw [if_pos (show (8 : Int32) ≤ nI 8 by decide)]) ⟨hF, fun _ => rfl, fun j hj => by rw [if_neg (by omega)]; exact hr j hj⟩
      have h1 : lp (fun st : Int32 × Sg => bX5_note_46 w (nI (mk8 (o i))) (nI i) (nI (cnt8 (o i))) st.1 st.2) (0, ω) = some τ := h1
      exact ⟨τ, h2, by rw [h1]; rfl, fun j hj => by rw [h4 j hj, if_pos hj], h3⟩
  unfold fX5_note
  rw [bitCount_v, Option.bind_some]
  dsimp only
  have e1 : σ.1 w 1 + nI (cnt8 (o i)) = nI (wAl o (i + 1)) := by rw [w2, nI_add]; rfl
  have e4 : (wI σ w 1 (nI (wAl o (i + 1)))).1 w 4 ||| nI (mk8 (o i)) = nI (mk8 (wEv o (i + 1))) := by rw [wI_k, upd_n (by omega), w5, mk8_or]; rfl
  rw [e1, e4]
  have F2 : Fs (wtS w) σ (wI (wI σ w 1 (nI (wAl o (i + 1)))) w 4 (nI (mk8 (wEv o (i + 1))))) := (Fs.rf.wI (Or.inl rfl)).wI (Or.inl rfl)
  have e2 : (wI (wI σ w 1 (nI (wAl o (i + 1)))) w 4 (nI (mk8 (wEv o (i + 1))))).1 w 2 = nI (wPk o i) := by rw [wI_k, upd_n (by omega), wI_k, upd_n (by omega), w3]
  have r2 : ∀ j, j < 8 → (wI (wI σ w 1 (nI (wAl o (i + 1)))) w 4 (nI (mk8 (wEv o (i + 1))))).1 (w + 1) j = nI (wEa o i j) := fun j hj => by rw [wI_n (by omega), wI_n (by omega)]; exact w1 j hj
  have ep : wPk o (i + 1) = if wPk o i < cnt8 (o i) then cnt8 (o i) else wPk o i := rfl
  have eh : wPh o (i + 1) = if wPk o i < cnt8 (o i) then i else wPh o i := rfl
  rw [e2]
  by_cases q : wPk o i < cnt8 (o i)
  · rw [if_neg (le_nI (by omega) (by omega) q)]
    rw [if_pos q] at ep eh
    obtain ⟨τ, g1, g2, g3, g4⟩ := E _ ((F2.wI (k := w) (i := 2) (v := nI (cnt8 (o i))) (Or.inl rfl)).wI (k := w) (i := 3) (v := nI i) (Or.inl rfl)) (fun j hj => by rw [wI_n (by omega), wI_n (by omega)]; exact r2 j hj)
    refine ⟨τ, g1, g2, g3, ?_, ?_, ?_, ?_⟩
    · rw [g4]; simp only [wI_k]; rw [upd_n (by omega), upd_n (by omega), upd_n (by omega), upd_k]
    · rw [g4]; simp only [wI_k]; rw [upd_n (by omega), upd_k, ep]
    · rw [g4]; simp only [wI_k]; rw [upd_k, eh]
    · rw [g4]; simp only [wI_k]; rw [upd_n (by omega), upd_n (by omega), upd_k]
  · rw [if_pos (nI_le (by omega) (by omega))]
    rw [if_neg q] at ep eh
    obtain ⟨τ, g1, g2, g3, g4⟩ := E _ F2 r2
    refine ⟨τ, g1, g2, g3, ?_, ?_, ?_, ?_⟩
    · rw [g4]; simp only [wI_k]; rw [upd_n (by omega), upd_k]
    · rw [g4, e2, ep]
    · rw [g4]; simp only [wI_k]; rw [upd_n (by omega), upd_n (by omega), w4, eh]
    · rw [g4]; simp only [wI_k]; rw [upd_k]
def SF (a t w : Nat) : Nat → Nat → Prop := fun k j => SW a t k j ∨ k = w ∨ k = w + 1
/-- hours of the ring: row, rest, all at once -/
theorem hour_v (h : CA σ a t n m bo dr lb lf) (hc : CR σ a n m ρ) (hv : RV n m ρ) {sd still lost : Int32} (hM : CM σ a sd still lost ρ) : ∃ τ, Fs (SW a t) σ τ ∧ fX2_goThroughHour a σ = some τ ∧ CA τ a t n m bo dr lb lf ∧ CR τ a n m (hourS n m bo dr lb lf sd still lost ρ) ∧ RV n m (hourS n m bo dr lb lf sd still lost ρ) ∧ CM τ a sd still lost (hourS n m bo dr lb lf sd still lost ρ) := by
  obtain ⟨τ, g1, g2, g3, g4⟩ := goThroughHour_v h hc hv hM
  exact ⟨τ, g1, g2, h.sw g1, g3, rv_hourS sd still lost h.2.2.1.1 h.2.2.1.2 hv, g4⟩
theorem follow_v (h : CA σ a t n m bo dr lb lf) (hc : CR σ a n m ρ) (hv : RV n m ρ) {sd still lost : Int32} (hM : CM σ a sd still lost ρ) (haw : a + 8 < w) {k : Nat} (hk : k ≤ 72) : ∃ τ, Fs (SF a t w) σ τ ∧ fX5_follow w a (nI k) σ = some τ ∧ CW τ w (oH n (hourS n m bo dr lb lf sd still lost) ρ) k := by
  have hta := h.1
  obtain ⟨σ3, z1, z2, z3⟩ := fill_v 8 (w + 1) 0 σ (by omega)
  have z1 : Fs (SF a t w) σ σ3 := z1.mo (fun _ _ q => Or.inr (Or.inr q))
  have sw : ∀ j, SF a t w w j := fun j => Or.inr (Or.inl rfl)
  have F10 := (((z1.wI (v := 0) (sw 1)).wI (v := 0) (sw 2)).wI (v := 0) (sw 3)).wI (v := 0) (sw 4)
  generalize hσ : wI (wI (wI (wI σ3 w 1 0) w 2 0) w 3 0) w 4 0 = σ10 at F10
  have rd : ∀ x j, x ≠ w → x ≠ w + 1 → σ10.1 x j = σ.1 x j := fun x j h1 h2 => by
    rw [← hσ, wI_n h1, wI_n h1, wI_n h1, wI_n h1]
    have := fill_v 8 (w + 1) 0 σ (by omega)
    obtain ⟨σ3', y1, y2, y3⟩ := this
    have e : σ3' = σ3 := by rw [z2] at y2; exact (Option.some.inj y2).symm
    rw [← e]
    exact y1.1 x j h2
  have F10' : Fs (wtS w) σ σ10 := ⟨fun x j hx => rd x j (fun q => hx (Or.inl q)) (fun q => hx (Or.inr q)), F10.2⟩
  have w10 : CW σ10 w (oH n (hourS n m bo dr lb lf sd still lost) ρ) 0 := by
    rw [← hσ]
    refine ⟨fun j hj => ?_, ?_, ?_, ?_, ?_⟩
    · rw [wI_n (by omega), wI_n (by omega), wI_n (by omega), wI_n (by omega), z3 j hj]; rfl
    · simp only [wI_k]; rw [upd_n (by omega), upd_n (by omega), upd_n (by omega), upd_k]; rfl
    · simp only [wI_k]; rw [upd_n (by omega), upd_n (by omega), upd_k]; rfl
    · simp only [wI_k]; rw [upd_n (by omega), upd_k]; rfl
    · simp only [wI_k]; rw [upd_k]; exact ((mk8_z _).mpr (fun _ _ => rfl)).symm
  have CAw : ∀ {σ τ : Sg}, CA σ a t n m bo dr lb lf → Fs (wtS w) σ τ → CA τ a t n m bo dr lb lf := fun h hF => ⟨h.1, by rw [hF.2]; exact h.2.1, h.2.2.fs hF (fun x j a1 a2 q => by unfold wtS at q; omega)⟩
  have CRw : ∀ {σ τ : Sg} {ρ : Nat → Int32}, CR σ a n m ρ → Fs (wtS w) σ τ → CR τ a n m ρ := fun h hF => h.fs hF (fun x j a1 a2 q => by unfold wtS at q; omega)
  have CMw : ∀ {σ τ : Sg} {ρ : Nat → Int32}, CM σ a sd still lost ρ → Fs (wtS w) σ τ → CM τ a sd still lost ρ := fun h hF => by
    have e : ∀ j, _ := fun j => hF.1 a j (fun q => by unfold wtS at q; omega)
    exact ⟨by rw [e]; exact h.1, by rw [e]; exact h.2.1, by rw [e]; exact h.2.2.1, by rw [e]; exact h.2.2.2⟩
  obtain ⟨τ, k1, k2, k3, k4, k5, k6, k7⟩ := lp_inv (f := fun st : Int32 × Sg => bX5_follow_30 w a (nI k) st.1 st.2) k (fun i τ => Fs (SF a t w) σ τ ∧ CA τ a t n m bo dr lb lf ∧ CR τ a n m (hIt (hourS n m bo dr lb lf sd still lost) i ρ) ∧ RV n m (hIt (hourS n m bo dr lb lf sd still lost) i ρ) ∧ CM τ a sd still lost (hIt (hourS n m bo dr lb lf sd still lost) i ρ) ∧ CW τ w (oH n (hourS n m bo dr lb lf sd still lost) ρ) i) (fun i τ hi hI => by
      obtain ⟨hF, ha', hc', hv', hM', hw'⟩ := hI
      obtain ⟨υ, g1, g2, g3, g4, g5, g6⟩ := hour_v ha' hc' hv' hM'
      have wυ : CW υ w (oH n (hourS n m bo dr lb lf sd still lost) ρ) i := by
        have e : ∀ j, υ.1 w j = τ.1 w j := fun j => g1.1 _ _ (fun q => by unfold SW SC at q; omega)
        have e1 : ∀ j, υ.1 (w + 1) j = τ.1 (w + 1) j := fun j => g1.1 _ _ (fun q => by unfold SW SC at q; omega)
        obtain ⟨w1, w2, w3, w4, w5⟩ := hw'
        exact ⟨fun j hj => by rw [e1]; exact w1 j hj, by rw [e]; exact w2, by rw [e]; exact w3, by rw [e]; exact w4, by rw [e]; exact w5⟩
      obtain ⟨ω, n1, n2, n3⟩ := note_v (i := i) (by omega) wυ
      refine ⟨ω, ?_, (hF.tr (g1.mo (fun _ _ q => Or.inl q))).tr (n1.mo (fun _ _ q => Or.inr q)), CAw g3 n1, CRw g4 n1, g5, CMw g6 n1, n3⟩
      show bX5_follow_30 w a (nI k) (nI i) τ = _
      unfold bX5_follow_30
      rw [if_neg (le_nI (by omega) (by omega) hi), g2, Option.bind_some, g4.1.2.2.1]
      have n2 : fX5_note w (nI (mk8 (stF n (hourS n m bo dr lb lf sd still lost (hIt (hourS n m bo dr lb lf sd still lost) i ρ)) 2))) (nI i) υ = some ω := n2
      rw [n2, Option.bind_some, nI_s]) (fun τ hI => by
      show bX5_follow_30 w a (nI k) (nI k) τ = _
      unfold bX5_follow_30
      rw [if_pos (Int32.le_refl _)]) ⟨F10, CAw h F10', CRw hc F10', hv, CMw hM F10', w10⟩
  have k1 : lp (fun st : Int32 × Sg => bX5_follow_30 w a (nI k) st.1 st.2) (0, σ10) = some τ := k1
  refine ⟨τ, k2, ?_, k7⟩
  unfold fX5_follow
  rw [z2, Option.bind_some]
  dsimp only
  rw [hσ, k1]
  rfl
theorem wFs_st (o : Nat → Nat → Bool) {i j : Nat} (h : wFs o i = some j) : ∀ k, i ≤ k → wFs o k = some j := by
  intro k hk
  induction k with
  | zero =>
    have : i = 0 := by omega
    subst this
    exact h
  | succ k ih =>
    by_cases q : i = k + 1
    · rw [← q]; exact h
    · have := ih (by omega)
      unfold wFs
      rw [this]
      rfl
theorem firstHour_v (h : CA σ a t n m bo dr lb lf) (hc : CR σ a n m ρ) (hv : RV n m ρ) {sd still lost : Int32} (hM : CM σ a sd still lost ρ) {k : Nat} (hk : k ≤ 72) : ∃ τ, Fs (SW a t) σ τ ∧ fX5_firstHour w a (nI k) σ = some (fsI (wFs (oH n (hourS n m bo dr lb lf sd still lost) ρ) k), τ) := by
  have loop : ∀ d i τ, i + d = k → Fs (SW a t) σ τ → CA τ a t n m bo dr lb lf → CR τ a n m (hIt (hourS n m bo dr lb lf sd still lost) i ρ) → RV n m (hIt (hourS n m bo dr lb lf sd still lost) i ρ) → CM τ a sd still lost (hIt (hourS n m bo dr lb lf sd still lost) i ρ) → wFs (oH n (hourS n m bo dr lb lf sd still lost) ρ) i = none → ∃ υ, Fs (SW a t) σ υ ∧ (lp (fun st : Int32 × Sg => bX5_firstHour_2 w a (nI k) st.1 st.2) (nI i, τ)).bind (fun o7 => Sum.elim (fun q10 => let y9 := q10.1; let σ8 := q10.2; some (y9, σ8)) (fun o7_ => (fun σ11 => some ((-2 : Int32), σ11)) o7_) o7) = some (fsI (wFs (oH n (hourS n m bo dr lb lf sd still lost) ρ) k), υ) := by
    intro d
    induction d with
    | zero =>
      intro i τ hi hF _ _ _ _ hn
      have hi : i = k := by omega
      subst hi
      rw [lp_r (b := Sum.inr τ) (by
        show bX5_firstHour_2 w a (nI i) (nI i) τ = _
        unfold bX5_firstHour_2
        rw [if_pos (Int32.le_refl _)]), hn]
      exact ⟨τ, hF, rfl⟩
    | succ d ih =>
      intro i τ hi hF ha' hc' hv' hM' hn
      obtain ⟨υ, g1, g2, g3, g4, g5, g6⟩ := hour_v ha' hc' hv' hM'
      have e3 : υ.1 a 3 = nI (mk8 (oH n (hourS n m bo dr lb lf sd still lost) ρ i)) := g4.1.2.2.1
      have m0 : nI (mk8 (oH n (hourS n m bo dr lb lf sd still lost) ρ i)) = 0 ↔ mk8 (oH n (hourS n m bo dr lb lf sd still lost) ρ i) = 0 := by
        have := mk8_lt (oH n (hourS n m bo dr lb lf sd still lost) ρ i)
        exact nI_eq (b := 0) (by omega) (by omega)
      have hb : bX5_firstHour_2 w a (nI k) (nI i) τ = if nI (mk8 (oH n (hourS n m bo dr lb lf sd still lost) ρ i)) = 0 then some (.inl (nI (i + 1), υ)) else some (.inr (.inl (nI i, υ))) := by
        unfold bX5_firstHour_2
        rw [if_neg (le_nI (by omega) (by omega) (by omega)), g2, Option.bind_some, e3, nI_s]
      have en : wFs (oH n (hourS n m bo dr lb lf sd still lost) ρ) (i + 1) = if mk8 (oH n (hourS n m bo dr lb lf sd still lost) ρ i) = 0 then none else some i := by
        rw [wFs, hn]; rfl
      by_cases q : mk8 (oH n (hourS n m bo dr lb lf sd still lost) ρ i) = 0
      · rw [if_pos (m0.mpr q)] at hb
        rw [if_pos q] at en
        rw [lp_l (a := (nI i, τ)) (a' := (nI (i + 1), υ)) hb]
        exact ih (i + 1) υ (by omega) (hF.tr g1) g3 g4 g5 g6 en
      · rw [if_neg (fun z => q (m0.mp z))] at hb
        rw [if_neg q] at en
        rw [lp_r (a := (nI i, τ)) (b := Sum.inl (nI i, υ)) hb, wFs_st _ en k (by omega)]
        exact ⟨υ, hF.tr g1, rfl⟩
  obtain ⟨υ, h1, h2⟩ := loop k 0 σ (by omega) Fs.rf h hc hv hM rfl
  exact ⟨υ, h1, h2⟩
end WATCH
