/-! an hour in the model -/
theorem lp_inv {f : Int32 × Sg → Option ((Int32 × Sg) ⊕ Sg)} (e : Nat) (I : Nat → Sg → Prop) (hs : ∀ i τ, i < e → I i τ → ∃ τ', f (nI i, τ) = some (.inl (nI (i + 1), τ')) ∧ I (i + 1) τ') (hx : ∀ τ, I e τ → f (nI e, τ) = some (.inr τ)) {σ : Sg} (h0 : I 0 σ) : ∃ τ, lp f (nI 0, σ) = some τ ∧ I e τ := by
  have key : ∀ d i τ, i + d = e → I i τ → ∃ υ, lp f (nI i, τ) = some υ ∧ I e υ := by
    intro d
    induction d with
    | zero =>
      intro i τ hi h
      have hi : i = e := by omega
      subst hi
      exact ⟨τ, lp_r (hx τ h), h⟩
    | succ d ih =>
      intro i τ hi h
      obtain ⟨τ', h1, h2⟩ := hs i τ (by omega) h
      obtain ⟨υ, h3, h4⟩ := ih (i + 1) τ' (by omega) h2
      exact ⟨υ, by rw [lp_l h1]; exact h3, h4⟩
  exact key e 0 σ (by omega) h0
def foldU (step : Nat → (Nat → Int32) → (Nat → Int32)) : Nat → (Nat → Int32) → (Nat → Int32)
  | 0, ρ => ρ
  | i + 1, ρ => step i (foldU step i ρ)
/-- a spare goes on -/
def spS (n : Nat) (e : Nat) (ρ : Nat → Int32) : Nat → Int32 := if ρ (78 + e) < 0 ∨ ρ (78 + e) = ρ (72 + e) then ρ else upd ρ (72 + e) (nI (rigN n (ρ (72 + e)).toNatClampNeg))
def goC (hr : Int32) (ρ : Nat → Int32) (h : Nat) : Bool := decide (ρ h = hr ∧ ¬ ρ (40 + h) = 1 ∧ ρ (32 + h) = 0)
def goS (hr : Int32) (h : Nat) (ρ : Nat → Int32) : Nat → Int32 := if goC hr ρ h = true then upd (upd ρ (40 + h) 1) (48 + h) 0 else ρ
def mix (h v : Int32) : Int32 := let x := (h ^^^ v) * 1103515245 + 12345; x ^^^ ius x 15
def lot (sd wh : Int32) : Int32 := irem (ius (mix (mix sd 133) wh) 1) 100
def coS (n : Nat) (lb : Nat → Br) (lf : Nat → Rp) (hr sd still lost : Int32) (wf : Nat → Bool) (h : Nat) (ρ : Nat → Int32) : Nat → Int32 :=
  let ρ1 := upd ρ (56 + h) 0
  if ¬ ρ (40 + h) = 1 ∨ wf h = true ∨ nI h = lost ∨ (¬ ρ (8 + h) = hr ∧ ¬ ρ (56 + h) = 1) then ρ1
  else if ¬ ρ (56 + h) = 1 ∧ still = 0 ∧ lot sd (32 * ρ 84 + nI h) < latV n lb lf ρ1 h then upd ρ1 (56 + h) 1
  else upd ρ1 (40 + h) 2
def waS (n : Nat) (lb : Nat → Br) (lf : Nat → Rp) (h : Nat) (ρ : Nat → Int32) : Nat → Int32 :=
  if ρ (40 + h) = 2 then
    let ρ1 := upd ρ (48 + h) (ρ (48 + h) + 1)
    upd ρ1 85 (clamp 0 99999 (ρ 85 + quaV n lb lf ρ1 h))
  else ρ
section HOUR
variable {M ℓ n m : Nat} {σ : Sg} {bo : Nat → Bool} {dr : Nat → Int32} {lb : Nat → Br} {lf : Nat → Rp}
theorem lin_run (h : MS σ M ℓ n m bo dr lb lf) : ∀ (d i : Nat) (fl : Bool) (τ : Sg), i + d = n → Fs (SR M) σ τ → ∃ υ, Fs (SR M) σ υ ∧ lp (fun st : Int32 × Int32 × Sg => bX7_lettersIn_10 M st.1 st.2.1 st.2.2) (nI (b2n fl), nI i, τ) = some (nI (b2n (lin1 n m bo dr lb lf d i fl (τ.1 (M + 31))).1), υ) ∧ υ.1 (M + 31) = (lin1 n m bo dr lb lf d i fl (τ.1 (M + 31))).2 := by
  have hn := h.1.2.2.1
  intro d
  induction d with
  | zero =>
    intro i fl τ hi hF
    have hτ := h.fs hF
    refine ⟨τ, hF, lp_r ?_, rfl⟩
    show bX7_lettersIn_10 M _ _ τ = _
    unfold bX7_lettersIn_10
    rw [if_pos hτ.1.vl, hτ.1.cl, hτ.1.2.2.2.1, show i = n by omega, if_pos (Int32.le_refl _)]
    rfl
  | succ d ih =>
    intro i fl τ hi hF
    have hτ := h.fs hF
    obtain ⟨υ, g1, g2, g3⟩ := comesIn_v hτ (w := i) (by omega)
    have hb : bX7_lettersIn_10 M (nI (b2n fl)) (nI i) τ = some (.inl (nI (b2n ((cin n m bo dr lb lf (τ.1 (M + 31)) i).1 || fl)), nI (i + 1), υ)) := by
      unfold bX7_lettersIn_10
      rw [if_pos hτ.1.vl, hτ.1.cl, hτ.1.2.2.2.1, if_neg (le_nI (by omega) (by omega) (by omega)), g2]
      unfold jX7_lettersIn_33
      dsimp only [Option.bind_some]
      rw [nI_s]
      cases (cin n m bo dr lb lf (τ.1 (M + 31)) i).1
      · rw [if_pos (show nI (b2n false) = 0 by decide), Bool.false_or]
      · rw [if_neg (show ¬ nI (b2n true) = 0 by decide), Bool.true_or]; rfl
    obtain ⟨ω, k1, k2, k3⟩ := ih (i + 1) ((cin n m bo dr lb lf (τ.1 (M + 31)) i).1 || fl) υ (by omega) (hF.tr g1)
    rw [g3] at k2 k3
    exact ⟨ω, k1, by rw [lp_l (f := fun st : Int32 × Int32 × Sg => bX7_lettersIn_10 M st.1 st.2.1 st.2.2) hb]; exact k2, k3⟩
theorem cnt8_fs (f : Nat → Bool) {h : Nat} (hh : h < 8) (ht : f h = true) : cnt8 (fset f h false) + 1 = cnt8 f := by
  have hb : b2n true = 1 := rfl
  have hb0 : b2n false = 0 := rfl
  unfold cnt8 fset
  rcases lt8 hh with rfl | rfl | rfl | rfl | rfl | rfl | rfl | rfl <;> simp [ht, hb, hb0] <;> omega
/-- how many stand before a door -/
def bef (n : Nat) (ρ : Nat → Int32) : Nat := cnt8 (stF n ρ 2)
theorem cin_bef {ρ : Nat → Int32} {i : Nat} (hi : i < n) (hn : n ≤ 8) : bef n (cin n m bo dr lb lf ρ i).2 + b2n (cin n m bo dr lb lf ρ i).1 = bef n ρ := by
  unfold cin
  by_cases h2 : ρ (40 + i) = 2
  · rw [if_pos h2]
    cases hl : letr n m bo dr lb lf ρ i with
    | none => rfl
    | some w =>
      show bef n (cinR m dr ρ i w) + 1 = bef n ρ
      have e : ∀ j, j < 8 → cinR m dr ρ i w (40 + j) = upd ρ (40 + i) 0 (40 + j) := fun j hj => by
        unfold cinR
        split
        · rw [upd_n (by omega), upd_n (by omega), upd_n (by omega), upd_n (by omega)]
        · rw [upd_n (by omega), upd_n (by omega), upd_n (by omega)]
      have e2 : bef n (cinR m dr ρ i w) = cnt8 (fset (stF n ρ 2) i false) := cnt8_c (fun j hj => by
        unfold stF fset
        rw [e j hj]
        by_cases hji : j = i
        · subst hji; rw [upd_k, if_pos rfl]; simp
        · rw [upd_n (by omega), if_neg hji])
      rw [e2]
      exact cnt8_fs _ (by omega) (by unfold stF; simp [hi, h2])
  · rw [if_neg h2]; rfl
theorem lin1_bef (hn : n ≤ 8) : ∀ (d i : Nat) (fl : Bool) (ρ : Nat → Int32), i + d ≤ n → bef n (lin1 n m bo dr lb lf d i fl ρ).2 ≤ bef n ρ ∧ (fl = false → (lin1 n m bo dr lb lf d i fl ρ).1 = true → bef n (lin1 n m bo dr lb lf d i fl ρ).2 < bef n ρ) := by
  intro d
  induction d with
  | zero => intro i fl ρ _; exact ⟨Nat.le_refl _, fun h1 h2 => by have h2 : fl = true := h2; rw [h1] at h2; cases h2⟩
  | succ d ih =>
    intro i fl ρ hi
    have hc := cin_bef (m := m) (bo := bo) (dr := dr) (lb := lb) (lf := lf) (ρ := ρ) (i := i) (n := n) (by omega) hn
    have := ih (i + 1) ((cin n m bo dr lb lf ρ i).1 || fl) (cin n m bo dr lb lf ρ i).2 (by omega)
    refine ⟨Nat.le_trans this.1 (by omega), fun h1 h2 => ?_⟩
    cases hb : (cin n m bo dr lb lf ρ i).1
    · exact Nat.lt_of_lt_of_le (this.2 (by rw [hb, h1]; rfl) h2) (by omega)
    · rw [hb] at hc
      have hc : bef n (cin n m bo dr lb lf ρ i).2 + 1 = bef n ρ := hc
      exact Nat.lt_of_le_of_lt this.1 (by omega)
theorem letters_run (h : MS σ M ℓ n m bo dr lb lf) : ∀ (k : Nat) (τ : Sg), Fs (SR M) σ τ → bef n (τ.1 (M + 31)) < k → ∃ υ, Fs (SR M) σ υ ∧ lp (fun st : Int32 × Sg => bX7_lettersIn_2 M st.1 st.2) (1, τ) = some υ ∧ υ.1 (M + 31) = linR n m bo dr lb lf k (τ.1 (M + 31)) := by
  intro k
  induction k with
  | zero => intro τ _ hk; omega
  | succ k ih =>
    intro τ hF hk
    obtain ⟨υ, g1, g2, g3⟩ := lin_run h n 0 false τ (by omega) hF
    have hb : bX7_lettersIn_2 M 1 τ = some (.inl (nI (b2n (lin1 n m bo dr lb lf n 0 false (τ.1 (M + 31))).1), υ)) := by
      unfold bX7_lettersIn_2
      rw [if_neg (by decide)]
      have g2 : lp (fun st : Int32 × Int32 × Sg => bX7_lettersIn_10 M st.1 st.2.1 st.2.2) (0, 0, τ) = _ := g2
      rw [g2]
      rfl
    rw [lp_l (f := fun st : Int32 × Sg => bX7_lettersIn_2 M st.1 st.2) hb]
    show ∃ υ_1, Fs (SR M) σ υ_1 ∧ _ ∧ υ_1.1 (M + 31) = if (lin1 n m bo dr lb lf n 0 false (τ.1 (M + 31))).1 = true then linR n m bo dr lb lf k (lin1 n m bo dr lb lf n 0 false (τ.1 (M + 31))).2 else (lin1 n m bo dr lb lf n 0 false (τ.1 (M + 31))).2
    have hl := lin1_bef (m := m) (bo := bo) (dr := dr) (lb := lb) (lf := lf) h.1.2.2.1 n 0 false (τ.1 (M + 31)) (by omega)
    cases hf : (lin1 n m bo dr lb lf n 0 false (τ.1 (M + 31))).1
    · rw [if_neg (by decide)]
      exact ⟨υ, g1, lp_r (by show bX7_lettersIn_2 M (nI (b2n false)) υ = _; unfold bX7_lettersIn_2; rw [if_pos (by decide)]), g3⟩
    · rw [if_pos rfl, ← g3]
      exact ih υ g1 (by rw [g3]; have := hl.2 rfl hf; omega)
theorem lettersIn_v (h : MS σ M ℓ n m bo dr lb lf) : ∃ τ, Fs (SR M) σ τ ∧ fX7_lettersIn M σ = some τ ∧ τ.1 (M + 31) = linR n m bo dr lb lf 9 (σ.1 (M + 31)) := by
  obtain ⟨τ, h1, h2, h3⟩ := letters_run h 9 σ Fs.rf (Nat.lt_succ_of_le (cnt8_le _))
  exact ⟨τ, h1, by unfold fX7_lettersIn; rw [h2]; rfl, h3⟩
/-- every letterbox is one of a house -/
def bxOk (n m : Nat) (ρ : Nat → Int32) : Prop := ∀ e, e < m → ∃ b, b < n ∧ ρ (72 + e) = nI b
theorem spS_ok {ρ : Nat → Int32} (hn : n ≤ 8) (h : bxOk n m ρ) {e : Nat} (he : e < m) : bxOk n m (spS n e ρ) := by
  unfold spS
  split
  · exact h
  · intro e' he'
    obtain ⟨b, hb, eb⟩ := h e he
    by_cases q : e' = e
    · subst q; rw [upd_k, eb, nI_clamp (by omega)]; exact ⟨_, rigN_lt hb, rfl⟩
    · rw [upd_n (by omega)]; exact h e' he'
theorem foldU_bx {ρ : Nat → Int32} (hn : n ≤ 8) (h : bxOk n m ρ) : ∀ i, i ≤ m → bxOk n m (foldU (spS n) i ρ)
  | 0, _ => h
  | i + 1, hi => spS_ok hn (foldU_bx hn h i (by omega)) (by omega)
theorem sparesGo_v (h : MS σ M ℓ n m bo dr lb lf) (hb : bxOk n m (σ.1 (M + 31))) : ∃ τ, Fs (SR M) σ τ ∧ fX7_sparesGo M σ = some τ ∧ τ.1 (M + 31) = foldU (spS n) m (σ.1 (M + 31)) := by
  have hn := h.1.2.2.1
  have hm := h.1.2.2.2.2.1
  obtain ⟨τ, h1, h2, h3⟩ := lp_inv (f := fun st : Int32 × Sg => bX7_sparesGo_2 M st.1 st.2) m (fun i τ => Fs (SR M) σ τ ∧ τ.1 (M + 31) = foldU (spS n) i (σ.1 (M + 31))) (fun i τ hi hI => by
      obtain ⟨hF, hr⟩ := hI
      have hτ := h.fs hF
      obtain ⟨b, hbn, eb⟩ := foldU_bx hn hb i (by omega) i hi
      rw [← hr] at eb
      show ∃ τ', bX7_sparesGo_2 M (nI i) τ = _ ∧ Fs (SR M) σ τ' ∧ τ'.1 (M + 31) = spS n i (foldU (spS n) i (σ.1 (M + 31)))
      rw [← hr]
      unfold bX7_sparesGo_2 jX7_sparesGo_70 spS
      rw [if_pos hτ.1.vl, hτ.1.cl, hτ.1.2.2.2.2.2, if_neg (le_nI (by omega) (by omega) hi), k78, k72, if_pos (vin_nI (by omega) (by omega)), if_pos (vin_nI (by omega) (by omega)), nI_clamp (n := 78 + i) (by omega), nI_clamp (n := 72 + i) (by omega)]
      dsimp only
      rw [nI_s]
      by_cases q1 : τ.1 (M + 31) (78 + i) < 0
      · rw [if_pos q1, if_pos (Or.inl q1)]; exact ⟨τ, rfl, hF, rfl⟩
      · rw [if_neg q1]
        by_cases q2 : τ.1 (M + 31) (78 + i) = τ.1 (M + 31) (72 + i)
        · rw [if_pos q2, if_pos (Or.inr q2)]; exact ⟨τ, rfl, hF, rfl⟩
        · rw [if_neg q2, if_neg (fun q => q.elim q1 q2), eb, rightOf_w hτ.1 hbn, nI_clamp (n := b) (by omega)]
          exact ⟨_, rfl, hF.wI (k := M + 31) (i := 72 + i) (v := nI (rigN n b)) (Or.inl rfl), by rw [wI_k]⟩) (fun τ hI => by
      have hτ := h.fs hI.1
      show bX7_sparesGo_2 M (nI m) τ = _
      unfold bX7_sparesGo_2
      rw [if_pos hτ.1.vl, hτ.1.cl, hτ.1.2.2.2.2.2, if_pos (Int32.le_refl _)]) ⟨Fs.rf, rfl⟩
  have h1 : lp (fun st : Int32 × Sg => bX7_sparesGo_2 M st.1 st.2) (0, σ) = some τ := h1
  exact ⟨τ, h2, by unfold fX7_sparesGo; rw [h1]; rfl, h3⟩
end HOUR
