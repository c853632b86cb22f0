/-! the model's row, looked at -/
theorem lpn {α β : Type} {f : α → Option (α ⊕ β)} (s : Nat → α) (e : Nat) {b : β} (hs : ∀ i, i < e → f (s i) = some (.inl (s (i + 1)))) (hx : f (s e) = some (.inr b)) : ∀ i, i ≤ e → lp f (s i) = some b := by
  have key : ∀ d i, i + d = e → lp f (s i) = some b := by
    intro d
    induction d with
    | zero => intro i hi; rw [show i = e by omega]; exact lp_r hx
    | succ d ih => intro i hi; rw [lp_l (hs i (by omega))]; exact ih (i + 1) (by omega)
  exact fun i hi => key (e - i) i (by omega)
def anyF (P : Nat → Bool) : Nat → Nat → Bool
  | 0, _ => false
  | d + 1, i => P i || anyF P d (i + 1)
theorem k6 (h : Nat) : (6 : Int32) * nI h = nI (6 * h) := pk_mul 6 h
theorem k8m (h : Nat) : (8 : Int32) * nI h = nI (8 * h) := pk_mul 8 h
theorem k4m (h : Nat) : (4 : Int32) * nI h = nI (4 * h) := pk_mul 4 h
theorem k8 (h : Nat) : (8 : Int32) + nI h = nI (8 + h) := nI_add 8 h
theorem k16 (h : Nat) : (16 : Int32) + nI h = nI (16 + h) := nI_add 16 h
theorem k24 (h : Nat) : (24 : Int32) + nI h = nI (24 + h) := nI_add 24 h
theorem k32 (h : Nat) : (32 : Int32) + nI h = nI (32 + h) := nI_add 32 h
theorem k40 (h : Nat) : (40 : Int32) + nI h = nI (40 + h) := nI_add 40 h
theorem k48 (h : Nat) : (48 : Int32) + nI h = nI (48 + h) := nI_add 48 h
theorem k56 (h : Nat) : (56 : Int32) + nI h = nI (56 + h) := nI_add 56 h
theorem k64 (h : Nat) : (64 : Int32) + nI h = nI (64 + h) := nI_add 64 h
theorem k72 (h : Nat) : (72 : Int32) + nI h = nI (72 + h) := nI_add 72 h
theorem k78 (h : Nat) : (78 : Int32) + nI h = nI (78 + h) := nI_add 78 h
def stF (n : Nat) (ρ : Nat → Int32) (how : Int32) : Nat → Bool := fun h => decide (h < n ∧ ρ (40 + h) = how)
def MX (σ : Sg) (M ℓ n m : Nat) : Prop := ℓ < 2 ∧ σ.1 M 18 = nI ℓ ∧ n ≤ 8 ∧ σ.1 (M + 9) ℓ = nI n ∧ m ≤ 6 ∧ σ.1 (M + 14) ℓ = nI m
def SV (M : Nat) : Nat → Nat → Prop := fun k j => k = M + 28 ∨ SLw M k j
theorem SV_r {M k j : Nat} (h : k ≠ M + 28) (h2 : k ≠ M + 29) (h3 : ¬ (k = M ∧ j = 46)) : ¬ SV M k j := fun q => by
  rcases q with q | q | q
  · exact h q
  · exact h2 q
  · exact h3 q
theorem MX.fs {S : Nat → Nat → Prop} {σ τ : Sg} {M ℓ n m : Nat} (h : MX σ M ℓ n m) (hF : Fs S σ τ) (h1 : ¬ S M 18) (h2 : ¬ S (M + 9) ℓ) (h3 : ¬ S (M + 14) ℓ) : MX τ M ℓ n m := ⟨h.1, (hF.1 _ _ h1).trans h.2.1, h.2.2.1, (hF.1 _ _ h2).trans h.2.2.2.1, h.2.2.2.2.1, (hF.1 _ _ h3).trans h.2.2.2.2.2⟩
theorem MX.sv {σ τ : Sg} {M ℓ n m : Nat} (h : MX σ M ℓ n m) (hF : Fs (SV M) σ τ) : MX τ M ℓ n m := h.fs hF (SV_r (by omega) (by omega) (by omega)) (SV_r (by omega) (by omega) (by omega)) (SV_r (by omega) (by omega) (by omega))
section LOOK
variable {M ℓ n m : Nat} {σ : Sg}
theorem MX.vl (h : MX σ M ℓ n m) : vin (σ.1 M 18) 2 := by rw [h.2.1]; exact vin_nI h.1 (by omega)
theorem MX.cl (h : MX σ M ℓ n m) : (σ.1 M 18).toNatClampNeg = ℓ := by rw [h.2.1]; exact nI_clamp (by have := h.1; omega)
theorem soBits_v (h : MX σ M ℓ n m) (how : Int32) : fX7_soBits M how σ = some (nI (mk8 (stF n (σ.1 (M + 31)) how)), σ) := by
  have hn := h.2.2.1
  have key := lpn (f := fun st : Int32 × Int32 × Sg => bX7_soBits_4 M how st.1 st.2.1 st.2.2) (fun i => (nI (mk8 (stF i (σ.1 (M + 31)) how)), nI i, σ)) n (b := (nI (mk8 (stF n (σ.1 (M + 31)) how)), σ)) (fun i hi => by
      show bX7_soBits_4 M how _ _ σ = _
      unfold bX7_soBits_4
      rw [if_pos h.vl, h.cl, h.2.2.2.1, if_neg (le_nI (by omega) (by omega) hi), k40, if_pos (vin_nI (by omega) (by omega)), nI_clamp (n := 40 + i) (by omega)]
      unfold jX7_soBits_36
      dsimp only
      by_cases hc : σ.1 (M + 31) (40 + i) = how
      · rw [if_pos hc, mk8_set _ (by omega), nI_s]
        have e : mk8 (fset (stF i (σ.1 (M + 31)) how) i true) = mk8 (stF (i + 1) (σ.1 (M + 31)) how) := mk8_c (fun j hj => by
          unfold fset stF
          by_cases hji : j = i
          · subst hji; simp [hc]
          · rw [if_neg hji]
            congr 1
            exact propext ⟨fun q => ⟨by omega, q.2⟩, fun q => ⟨by omega, q.2⟩⟩)
        rw [e]
      · rw [if_neg hc, nI_s]
        have e : mk8 (stF i (σ.1 (M + 31)) how) = mk8 (stF (i + 1) (σ.1 (M + 31)) how) := mk8_c (fun j hj => by
          unfold stF
          congr 1
          exact propext ⟨fun q => ⟨by omega, q.2⟩, fun q => ⟨by rcases Nat.lt_or_ge j i with z | z; exact z; exact absurd (by rw [show i = j by omega]; exact q.2) hc, q.2⟩⟩)
        rw [e]) (by
      show bX7_soBits_4 M how _ _ σ = _
      unfold bX7_soBits_4
      rw [if_pos h.vl, h.cl, h.2.2.2.1, if_pos (Int32.le_refl _)]) 0 (Nat.zero_le n)
  unfold fX7_soBits
  have e0 : ((0 : Int32), (0 : Int32), σ) = (nI (mk8 (stF 0 (σ.1 (M + 31)) how)), nI 0, σ) := by
    have : mk8 (stF 0 (σ.1 (M + 31)) how) = 0 := (mk8_0 _).mpr (fun i _ => by unfold stF; simp)
    rw [this]; rfl
  rw [e0]
  have key : lp (fun st : Int32 × Int32 × Sg => bX7_soBits_4 M how st.1 st.2.1 st.2.2) (nI (mk8 (stF 0 (σ.1 (M + 31)) how)), nI 0, σ) = some (nI (mk8 (stF n (σ.1 (M + 31)) how)), σ) := key
  rw [key]
  rfl
def kyN (ρ : Nat → Int32) (h : Int32) : Nat → Nat
  | 0 => 0
  | e + 1 => kyN ρ h e + (if ρ (72 + e) = h then 1 else 0)
theorem kyN_le (ρ : Nat → Int32) (h : Int32) : ∀ e, kyN ρ h e ≤ e
  | 0 => Nat.le_refl 0
  | e + 1 => by
    show kyN ρ h e + (if ρ (72 + e) = h then 1 else 0) ≤ e + 1
    have := kyN_le ρ h e
    split <;> omega
theorem keysIn_v (h : MX σ M ℓ n m) (w : Int32) : fX7_keysIn M w σ = some (nI (kyN (σ.1 (M + 31)) w m), σ) := by
  have hm := h.2.2.2.2.1
  have key := lpn (f := fun st : Int32 × Int32 × Sg => bX7_keysIn_4 M w st.1 st.2.1 st.2.2) (fun i => (nI (kyN (σ.1 (M + 31)) w i), nI i, σ)) m (b := (nI (kyN (σ.1 (M + 31)) w m), σ)) (fun i hi => by
      show bX7_keysIn_4 M w _ _ σ = _
      unfold bX7_keysIn_4
      rw [if_pos h.vl, h.cl, h.2.2.2.2.2, if_neg (le_nI (by omega) (by omega) hi), k72, if_pos (vin_nI (by omega) (by omega)), nI_clamp (n := 72 + i) (by omega)]
      unfold jX7_keysIn_33
      dsimp only
      show _ = some (Sum.inl (nI (kyN (σ.1 (M + 31)) w i + (if σ.1 (M + 31) (72 + i) = w then 1 else 0)), nI (i + 1), σ))
      by_cases hc : σ.1 (M + 31) (72 + i) = w
      · rw [if_pos hc, if_pos hc, nI_s, nI_s]
      · rw [if_neg hc, if_neg hc, nI_s]; rfl) (by
      show bX7_keysIn_4 M w _ _ σ = _
      unfold bX7_keysIn_4
      rw [if_pos h.vl, h.cl, h.2.2.2.2.2, if_pos (Int32.le_refl _)]) 0 (Nat.zero_le m)
  unfold fX7_keysIn
  have key : lp (fun st : Int32 × Int32 × Sg => bX7_keysIn_4 M w st.1 st.2.1 st.2.2) (0, 0, σ) = some (nI (kyN (σ.1 (M + 31)) w m), σ) := key
  rw [key]
  rfl
def hsP (ρ dr : Nat → Int32) (w : Int32) : Nat → Bool := fun e => decide (ρ (72 + e) = w ∧ dr e = w)
theorem hasSpare_v (h : MX σ M ℓ n m) {dr : Nat → Int32} (hd : ∀ e, e < m → σ.1 (M + 15) (6 * ℓ + e) = dr e) (w : Int32) : fX7_hasSpare M w σ = some (nI (b2n (anyF (hsP (σ.1 (M + 31)) dr w) m 0)), σ) := by
  have hm := h.2.2.2.2.1
  have hℓ := h.1
  have key : ∀ d i, i + d = m → lp (fun st : Int32 × Sg => bX7_hasSpare_2 M w st.1 st.2) (nI i, σ) = some (if anyF (hsP (σ.1 (M + 31)) dr w) d i = true then .inl σ else .inr σ) := by
    intro d
    induction d with
    | zero =>
      intro i hi
      rw [show i = m by omega]
      exact lp_r (by
        show bX7_hasSpare_2 M w (nI m) σ = _
        unfold bX7_hasSpare_2
        rw [if_pos h.vl, h.cl, h.2.2.2.2.2, if_pos (Int32.le_refl _)]
        rfl)
    | succ d ih =>
      intro i hi
      have e6 : (6 : Int32) * nI ℓ + nI i = nI (6 * ℓ + i) := by rw [k6, nI_add]
      have hb : bX7_hasSpare_2 M w (nI i) σ = if hsP (σ.1 (M + 31)) dr w i = true then some (Sum.inr (Sum.inl σ)) else some (Sum.inl (nI (i + 1), σ)) := by
        unfold bX7_hasSpare_2
        rw [if_pos h.vl, h.cl, h.2.2.2.2.2, if_neg (le_nI (by omega) (by omega) (by omega)), k72, if_pos (vin_nI (by omega) (by omega)), nI_clamp (n := 72 + i) (by omega), h.2.1, e6, if_pos (vin_nI (by omega) (by omega)), nI_clamp (n := 6 * ℓ + i) (by omega), hd i (by omega)]
        unfold jX7_hasSpare_48
        dsimp only
        rw [nI_s]
        unfold hsP
        by_cases h1 : σ.1 (M + 31) (72 + i) = w
        · rw [if_pos h1]
          by_cases h2 : dr i = w
          · rw [if_pos h2, if_pos (by simp [h1, h2])]
          · rw [if_neg h2, if_neg (by simp [h2])]
        · rw [if_neg h1, if_neg (by simp [h1])]
      rw [show anyF (hsP (σ.1 (M + 31)) dr w) (d + 1) i = (hsP (σ.1 (M + 31)) dr w i || anyF (hsP (σ.1 (M + 31)) dr w) d (i + 1)) from rfl]
      by_cases hp : hsP (σ.1 (M + 31)) dr w i = true
      · rw [if_pos hp] at hb
        rw [lp_r (f := fun st : Int32 × Sg => bX7_hasSpare_2 M w st.1 st.2) hb, hp]
        rfl
      · rw [if_neg hp] at hb
        rw [lp_l (f := fun st : Int32 × Sg => bX7_hasSpare_2 M w st.1 st.2) hb, ih (i + 1) (by omega)]
        rw [show hsP (σ.1 (M + 31)) dr w i = false by simpa using hp, Bool.false_or]
  have k0 : lp (fun st : Int32 × Sg => bX7_hasSpare_2 M w st.1 st.2) (0, σ) = _ := key m 0 (by omega)
  unfold fX7_hasSpare
  rw [k0]
  by_cases hp : anyF (hsP (σ.1 (M + 31)) dr w) m 0 = true
  · rw [if_pos hp, hp]; rfl
  · rw [if_neg hp, show anyF (hsP (σ.1 (M + 31)) dr w) m 0 = false by simpa using hp]; rfl
theorem leftOf_v (h : MX σ M ℓ n m) {w : Nat} (hw : w < n) : fX7_leftOf M (nI w) σ = some (nI (if w = 0 then n - 1 else w - 1), σ) := by
  have hn := h.2.2.1
  unfold fX7_leftOf
  rw [if_pos h.vl, h.cl, h.2.2.2.1, if_pos (show ¬ nI n = 0 from ne_nI (b := 0) (by omega) (by omega) (by omega)), nI_add, nI_p (by omega), irem_nI (by omega) (by omega) (by omega)]
  congr 3
  split
  · rename_i h0; subst h0; rw [Nat.mod_eq_of_lt (by omega)]; omega
  · rw [show w + n - 1 = w - 1 + n by omega, Nat.add_mod_right, Nat.mod_eq_of_lt (by omega)]
theorem rightOf_v (h : MX σ M ℓ n m) {w : Nat} (hw : w < n) : fX7_rightOf M (nI w) σ = some (nI (if w + 1 < n then w + 1 else 0), σ) := by
  have hn := h.2.2.1
  unfold fX7_rightOf
  rw [if_pos h.vl, h.cl, h.2.2.2.1, if_pos (show ¬ nI n = 0 from ne_nI (b := 0) (by omega) (by omega) (by omega)), nI_s, irem_nI (by omega) (by omega) (by omega)]
  congr 3
  split
  · rw [Nat.mod_eq_of_lt (by omega)]
  · rw [show w + 1 = n by omega, Nat.mod_self]
theorem isAlone_v (h : MX σ M ℓ n m) : fX7_isAlone M σ = some (nI (if n = 1 then 1 else 0), σ) := by
  have hn := h.2.2.1
  unfold fX7_isAlone
  rw [if_pos h.vl, h.cl, h.2.2.2.1]
  by_cases h1 : n = 1
  · rw [if_pos h1, h1, if_pos (show nI 1 = 1 from rfl)]; rfl
  · rw [if_neg h1, if_neg (show ¬ nI n = 1 from ne_nI (b := 1) (by omega) (by omega) h1)]; rfl
end LOOK
