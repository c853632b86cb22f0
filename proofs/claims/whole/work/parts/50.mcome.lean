def lefN (n h : Nat) : Nat := if h = 0 then n - 1 else h - 1
def rigN (n h : Nat) : Nat := if h + 1 < n then h + 1 else 0
theorem lefN_lt {n h : Nat} (hh : h < n) : lefN n h < n := by unfold lefN; split <;> omega
theorem rigN_lt {n h : Nat} (hh : h < n) : rigN n h < n := by unfold rigN; split <;> omega
def hsB (m : Nat) (dr ρ : Nat → Int32) (h : Nat) : Bool := anyF (hsP ρ dr (nI h)) m 0
/-- who lets h in -/
def letr (n m : Nat) (bo : Nat → Bool) (dr : Nat → Int32) (lb : Nat → Br) (lf : Nat → Rp) (ρ : Nat → Int32) (h : Nat) : Option Nat :=
  if n = 1 ∨ hsB m dr ρ h = true then some h else if ¬ ρ (40 + lefN n h) = 1 ∧ letB n lb lf ρ (lefN n h) h = true then some (lefN n h) else if ¬ ρ (40 + rigN n h) = 1 ∧ bo (rigN n h) = true ∧ letB n lb lf ρ (rigN n h) h = true then some (rigN n h) else none
def cinR (m : Nat) (dr ρ : Nat → Int32) (h w : Nat) : Nat → Int32 :=
  let ρ1 := upd (upd (upd (upd ρ (40 + h) 0) (48 + h) 0) (64 + h) (nI w)) 86 (ρ 86 + 1)
  if w = h ∧ hsB m dr ρ h = true then upd ρ1 87 (ρ 87 + 1) else ρ1
/-- h, before the door, comes in if somebody lets them in -/
def cin (n m : Nat) (bo : Nat → Bool) (dr : Nat → Int32) (lb : Nat → Br) (lf : Nat → Rp) (ρ : Nat → Int32) (h : Nat) : Bool × (Nat → Int32) :=
  if ρ (40 + h) = 2 then match letr n m bo dr lb lf ρ h with
    | some w => (true, cinR m dr ρ h w)
    | none => (false, ρ)
  else (false, ρ)
def lin1 (n m : Nat) (bo : Nat → Bool) (dr : Nat → Int32) (lb : Nat → Br) (lf : Nat → Rp) : Nat → Nat → Bool → (Nat → Int32) → Bool × (Nat → Int32)
  | 0, _, fl, ρ => (fl, ρ)
  | d + 1, i, fl, ρ => lin1 n m bo dr lb lf d (i + 1) ((cin n m bo dr lb lf ρ i).1 || fl) (cin n m bo dr lb lf ρ i).2
def linR (n m : Nat) (bo : Nat → Bool) (dr : Nat → Int32) (lb : Nat → Br) (lf : Nat → Rp) : Nat → (Nat → Int32) → (Nat → Int32)
  | 0, ρ => ρ
  | k + 1, ρ => if (lin1 n m bo dr lb lf n 0 false ρ).1 = true then linR n m bo dr lb lf k (lin1 n m bo dr lb lf n 0 false ρ).2 else (lin1 n m bo dr lb lf n 0 false ρ).2
theorem b2n_e {b : Bool} : nI (b2n b) = 0 ↔ b = false := by cases b <;> decide
theorem b2n_1 {b : Bool} : nI (b2n b) = 1 ↔ b = true := by cases b <;> decide
section COME
variable {M ℓ n m : Nat} {σ τ : Sg} {bo : Nat → Bool} {dr : Nat → Int32} {lb : Nat → Br} {lf : Nat → Rp}
theorem leftOf_w (h : MX σ M ℓ n m) {w : Nat} (hw : w < n) : fX7_leftOf M (nI w) σ = some (nI (lefN n w), σ) := leftOf_v h hw
theorem rightOf_w (h : MX σ M ℓ n m) {w : Nat} (hw : w < n) : fX7_rightOf M (nI w) σ = some (nI (rigN n w), σ) := rightOf_v h hw
theorem canOwn_v (h : MS σ M ℓ n m bo dr lb lf) {w : Nat} : fX7_canOwn M (nI w) σ = some (nI (b2n (decide (n = 1) || hsB m dr (σ.1 (M + 31)) w)), σ) := by
  unfold fX7_canOwn jX7_canOwn_15
  rw [isAlone_v h.1]
  dsimp only [Option.bind_some]
  by_cases h1 : n = 1
  · rw [if_pos h1, if_neg (show ¬ nI 1 = 0 by decide), decide_eq_true h1]; rfl
  · rw [if_neg h1, if_pos (show nI 0 = 0 from rfl), hasSpare_v h.1 h.2.1, decide_eq_false h1]
    dsimp only [Option.bind_some]
    rw [Bool.false_or]
    show (if nI (b2n (hsB m dr (σ.1 (M + 31)) w)) = 0 then _ else _) = _
    by_cases h2 : hsB m dr (σ.1 (M + 31)) w = true
    · rw [if_neg (fun q => by rw [b2n_e] at q; rw [q] at h2; cases h2), h2]; rfl
    · rw [if_pos (b2n_e.mpr (by simpa using h2)), show hsB m dr (σ.1 (M + 31)) w = false by simpa using h2]; rfl
theorem canLeft_v (h : MS σ M ℓ n m bo dr lb lf) {w : Nat} (hw : w < n) : fX7_canLeft M (nI w) σ = some (nI (b2n (!decide (n = 1) && !decide (σ.1 (M + 31) (40 + lefN n w) = 1))), σ) := by
  have hn := h.1.2.2.1
  have hl := lefN_lt hw
  unfold fX7_canLeft
  rw [isAlone_v h.1]
  dsimp only [Option.bind_some]
  by_cases h1 : n = 1
  · rw [if_pos h1, if_neg (show ¬ nI 1 = 0 by decide), decide_eq_true h1]; rfl
  · rw [if_neg h1, if_pos (show nI 0 = 0 from rfl), leftOf_w h.1 hw, decide_eq_false h1]
    dsimp only [Option.bind_some]
    rw [k40, if_pos (vin_nI (by omega) (by omega)), nI_clamp (by omega)]
    by_cases h2 : σ.1 (M + 31) (40 + lefN n w) = 1
    · rw [if_pos h2, decide_eq_true h2]; rfl
    · rw [if_neg h2, decide_eq_false h2]; rfl
theorem canRight_v (h : MS σ M ℓ n m bo dr lb lf) {w : Nat} (hw : w < n) : fX7_canRight M (nI w) σ = some (nI (b2n (!decide (n = 1) && (!decide (σ.1 (M + 31) (40 + rigN n w) = 1) && bo (rigN n w)))), σ) := by
  have hn := h.1.2.2.1
  have hℓ := h.1.1
  have hl := rigN_lt hw
  unfold fX7_canRight
  rw [isAlone_v h.1]
  dsimp only [Option.bind_some]
  by_cases h1 : n = 1
  · rw [if_pos h1, if_neg (show ¬ nI 1 = 0 by decide), decide_eq_true h1]; rfl
  · rw [if_neg h1, if_pos (show nI 0 = 0 from rfl), rightOf_w h.1 hw, decide_eq_false h1]
    dsimp only [Option.bind_some]
    rw [k40, if_pos (vin_nI (by omega) (by omega)), nI_clamp (n := 40 + rigN n w) (by omega)]
    by_cases h2 : σ.1 (M + 31) (40 + rigN n w) = 1
    · rw [if_pos h2, decide_eq_true h2]; rfl
    · rw [if_neg h2, decide_eq_false h2, rightOf_w h.1 hw]
      dsimp only [Option.bind_some]
      rw [h.1.2.1, k8m, nI_add, if_pos (vin_nI (by omega) (by omega)), nI_clamp (n := 8 * ℓ + rigN n w) (by omega), h.2.2.1 _ hl]
      cases hb : bo (rigN n w) <;> rfl
def lrI (o : Option Nat) : Int32 := match o with
  | some w => nI w
  | none => -1
theorem letterOf_v (h : MS σ M ℓ n m bo dr lb lf) {w : Nat} (hw : w < n) : ∃ τ, Fs (SV M) σ τ ∧ fX7_letterOf M (nI w) σ = some (lrI (letr n m bo dr lb lf (σ.1 (M + 31)) w), τ) := by
  have hn := h.1.2.2.1
  have hl := lefN_lt hw
  have hr := rigN_lt hw
  have right : ∀ υ, Fs (SV M) σ υ → ¬ n = 1 → ∃ τ, Fs (SV M) σ τ ∧ jX7_letterOf_37 M (nI w) υ = some (lrI (if ¬ σ.1 (M + 31) (40 + rigN n w) = 1 ∧ bo (rigN n w) = true ∧ letB n lb lf (σ.1 (M + 31)) (rigN n w) w = true then some (rigN n w) else none), τ) := by
    intro υ hF h1
    have hυ := h.sv hF
    unfold jX7_letterOf_37
    rw [canRight_v hυ hw, row_sv hF, decide_eq_false h1]
    dsimp only [Option.bind_some]
    by_cases hc : ¬ σ.1 (M + 31) (40 + rigN n w) = 1 ∧ bo (rigN n w) = true
    · rw [decide_eq_false hc.1, hc.2, if_neg (show ¬ nI (b2n (!false && (!false && true))) = 0 by decide), rightOf_w hυ.1 hw]
      dsimp only [Option.bind_some]
      obtain ⟨ω, g1, g2⟩ := doesLet_v hυ (o := rigN n w) (w := w) (by omega) (by omega)
      rw [row_sv hF] at g2
      rw [g2]
      dsimp only [Option.bind_some]
      have hω := hυ.sv g1
      by_cases hb : letB n lb lf (σ.1 (M + 31)) (rigN n w) w = true
      · rw [if_neg (fun q => by rw [b2n_e] at q; rw [q] at hb; cases hb), rightOf_w hω.1 hw, if_pos ⟨hc.1, rfl, hb⟩]
        exact ⟨ω, hF.tr g1, rfl⟩
      · rw [if_pos (b2n_e.mpr (by simpa using hb)), if_neg (fun q => hb q.2.2)]
        exact ⟨ω, hF.tr g1, rfl⟩
    · have e : (!decide (σ.1 (M + 31) (40 + rigN n w) = 1) && bo (rigN n w)) = false := by
        by_cases h2 : σ.1 (M + 31) (40 + rigN n w) = 1
        · rw [decide_eq_true h2]; rfl
        · rw [decide_eq_false h2]
          cases hb : bo (rigN n w)
          · rfl
          · exact absurd ⟨h2, hb⟩ hc
      rw [e, if_pos (show nI (b2n (!false && false)) = 0 by decide), if_neg (fun q => hc ⟨q.1, q.2.1⟩)]
      exact ⟨υ, hF, rfl⟩
  unfold fX7_letterOf letr
  rw [canOwn_v h]
  dsimp only [Option.bind_some]
  by_cases ho : n = 1 ∨ hsB m dr (σ.1 (M + 31)) w = true
  · have e : (decide (n = 1) || hsB m dr (σ.1 (M + 31)) w) = true := by
      rcases ho with q | q
      · rw [decide_eq_true q]; rfl
      · rw [q, Bool.or_true]
    rw [e, if_neg (show ¬ nI (b2n true) = 0 by decide), if_pos ho]
    exact ⟨σ, Fs.rf, rfl⟩
  · have h1 : ¬ n = 1 := fun q => ho (Or.inl q)
    have e : (decide (n = 1) || hsB m dr (σ.1 (M + 31)) w) = false := by
      rw [decide_eq_false h1, Bool.false_or]
      cases hb : hsB m dr (σ.1 (M + 31)) w
      · rfl
      · exact absurd (Or.inr hb) ho
    rw [e, if_pos (show nI (b2n false) = 0 by decide), if_neg ho, canLeft_v h hw, decide_eq_false h1]
    dsimp only [Option.bind_some]
    by_cases h2 : σ.1 (M + 31) (40 + lefN n w) = 1
    · rw [decide_eq_true h2, if_pos (show nI (b2n (!false && !true)) = 0 by decide), if_neg (fun q => q.1 h2)]
      exact right σ Fs.rf h1
    · rw [decide_eq_false h2, if_neg (show ¬ nI (b2n (!false && !false)) = 0 by decide), leftOf_w h.1 hw]
      dsimp only [Option.bind_some]
      obtain ⟨ω, g1, g2⟩ := doesLet_v h (o := lefN n w) (w := w) (by omega) (by omega)
      rw [g2]
      dsimp only [Option.bind_some]
      have hω := h.sv g1
      by_cases hb : letB n lb lf (σ.1 (M + 31)) (lefN n w) w = true
      · rw [if_neg (fun q => by rw [b2n_e] at q; rw [q] at hb; cases hb), leftOf_w hω.1 hw, if_pos ⟨h2, hb⟩]
        exact ⟨ω, g1, rfl⟩
      · rw [if_pos (b2n_e.mpr (by simpa using hb)), if_neg (fun q => hb q.2)]
        exact right ω g1 h1
theorem anyF_c {P P' : Nat → Bool} : ∀ (d i : Nat), (∀ j, i ≤ j → j < i + d → P j = P' j) → anyF P d i = anyF P' d i
  | 0, _, _ => rfl
  | d + 1, i, h => by
    show (P i || anyF P d (i + 1)) = (P' i || anyF P' d (i + 1))
    rw [h i (by omega) (by omega), anyF_c d (i + 1) (fun j a b => h j (by omega) (by omega))]
/-- the letterboxes alone say who has a spare at home -/
theorem hsB_c {m : Nat} {dr ρ ρ' : Nat → Int32} {h : Nat} (e : ∀ i, i < m → ρ' (72 + i) = ρ (72 + i)) : hsB m dr ρ' h = hsB m dr ρ h := anyF_c m 0 (fun j _ b => by unfold hsP; rw [e j (by omega)])
theorem nI_n1 {w : Nat} (hw : w < 2 ^ 31) : (0 : Int32) ≤ nI w := nI_pos' hw
theorem comesIn_v (h : MS σ M ℓ n m bo dr lb lf) {w : Nat} (hw : w < n) : ∃ τ, Fs (SR M) σ τ ∧ fX7_comesIn M (nI w) σ = some (nI (b2n (cin n m bo dr lb lf (σ.1 (M + 31)) w).1), τ) ∧ τ.1 (M + 31) = (cin n m bo dr lb lf (σ.1 (M + 31)) w).2 := by
  have hn := h.1.2.2.1
  have hm := h.1.2.2.2.2.1
  unfold fX7_comesIn cin
  rw [k40, if_pos (vin_nI (by omega) (by omega)), nI_clamp (n := 40 + w) (by omega)]
  by_cases h2 : σ.1 (M + 31) (40 + w) = 2
  · rw [if_pos h2, if_pos h2]
    obtain ⟨υ, g1, g2⟩ := letterOf_v h hw
    rw [g2]
    dsimp only [Option.bind_some]
    cases hl : letr n m bo dr lb lf (σ.1 (M + 31)) w with
    | none =>
      rw [if_neg (show ¬ (0 : Int32) ≤ lrI none by decide)]
      exact ⟨υ, g1.mo (fun _ _ => SV_SR), rfl, row_sv g1⟩
    | some o =>
      have hlo : o < n := by
        unfold letr at hl
        have a1 := lefN_lt hw
        have a2 := rigN_lt hw
        split at hl
        · cases hl; exact hw
        · split at hl
          · cases hl; exact a1
          · split at hl
            · cases hl; exact a2
            · cases hl
      rw [show lrI (some o) = nI o from rfl, if_pos (nI_n1 (by omega)), k48, if_pos (vin_nI (by omega) (by omega)), k64, if_pos (vin_nI (by omega) (by omega)), nI_clamp (n := 48 + w) (by omega), nI_clamp (n := 64 + w) (by omega)]
      have s31 : ∀ i, SR M (M + 31) i := fun i => Or.inl rfl
      have F0 : Fs (SR M) σ υ := g1.mo (fun _ _ => SV_SR)
      have F9 := F0.wI (k := M + 31) (i := 40 + w) (v := 0) (s31 _)
      have F12 := F9.wI (k := M + 31) (i := 48 + w) (v := 0) (s31 _)
      have F15 := F12.wI (k := M + 31) (i := 64 + w) (v := nI o) (s31 _)
      have e15 : (wI (wI (wI υ (M + 31) (40 + w) 0) (M + 31) (48 + w) 0) (M + 31) (64 + w) (nI o)).1 (M + 31) = upd (upd (upd (σ.1 (M + 31)) (40 + w) 0) (48 + w) 0) (64 + w) (nI o) := by simp only [wI_k]; rw [row_sv g1]
      have e86 : (wI (wI (wI υ (M + 31) (40 + w) 0) (M + 31) (48 + w) 0) (M + 31) (64 + w) (nI o)).1 (M + 31) 86 = σ.1 (M + 31) 86 := by rw [e15, upd_n (by omega), upd_n (by omega), upd_n (by omega)]
      dsimp only
      rw [e86]
      have F17 := F15.wI (k := M + 31) (i := 86) (v := σ.1 (M + 31) 86 + 1) (s31 _)
      generalize hτ : wI (wI (wI (wI υ (M + 31) (40 + w) 0) (M + 31) (48 + w) 0) (M + 31) (64 + w) (nI o)) (M + 31) 86 (σ.1 (M + 31) 86 + 1) = τ at F17 ⊢
      have eτ : τ.1 (M + 31) = upd (upd (upd (upd (σ.1 (M + 31)) (40 + w) 0) (48 + w) 0) (64 + w) (nI o)) 86 (σ.1 (M + 31) 86 + 1) := by rw [← hτ, wI_k, e15]
      have hτm := h.fs F17
      have hsb : hsB m dr (τ.1 (M + 31)) w = hsB m dr (σ.1 (M + 31)) w := hsB_c (fun i hi => by rw [eτ, upd_n (by omega), upd_n (by omega), upd_n (by omega), upd_n (by omega)])
      by_cases how : o = w
      · rw [if_pos (show nI o = nI w by rw [how]), hasSpare_v hτm.1 hτm.2.1]
        dsimp only [Option.bind_some]
        show ∃ τ_1, _ ∧ (if nI (b2n (hsB m dr (τ.1 (M + 31)) w)) = 0 then _ else _) = _ ∧ _
        rw [hsb]
        unfold cinR
        by_cases hb : hsB m dr (σ.1 (M + 31)) w = true
        · rw [if_neg (fun q => by rw [b2n_e] at q; rw [q] at hb; cases hb), if_pos ⟨how, hb⟩]
          refine ⟨_, F17.wI (k := M + 31) (i := 87) (s31 _), rfl, ?_⟩
          rw [wI_k, eτ, upd_n (f := upd _ _ _) (by omega), upd_n (by omega), upd_n (by omega), upd_n (by omega)]
        · rw [if_pos (b2n_e.mpr (by simpa using hb)), if_neg (fun q => hb q.2)]
          exact ⟨τ, F17, rfl, eτ⟩
      · rw [if_neg (ne_nI (by omega) (by omega) how)]
        unfold cinR
        rw [if_neg (fun q => how q.1)]
        exact ⟨τ, F17, rfl, eτ⟩
  · rw [if_neg h2, if_neg h2]
    exact ⟨σ, Fs.rf, rfl, rfl⟩
end COME
