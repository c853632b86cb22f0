def cI (a b j : Nat) (σ : Sg) : Sg := wI σ a j (σ.1 b j)
def cA (a b i : Nat) (n : Int32) (σ : Sg) : Sg := wR σ (a + i) (va_cpy (σ.1 (b + i)) (σ.1 (a + i)) ((0 : Int32)).toNatClampNeg ((0 : Int32)).toNatClampNeg n.toNatClampNeg)
def cpI (a b : Nat) (σ : Sg) : Sg := cI a b 6 (cI a b 5 (cI a b 4 (cI a b 3 (cI a b 2 (cI a b 1 (wT σ a 0 (σ.2.2.1 b 0)))))))
def cpS (a b : Nat) (σ : Sg) : Sg := cA a b 8 6 (cA a b 7 6 (cA a b 6 8 (cA a b 5 8 (cA a b 4 8 (cA a b 3 8 (cA a b 2 8 (cA a b 1 8 (cI a b 11 (cI a b 10 (cI a b 9 (cI a b 8 (cI a b 7 (cpI a b σ)))))))))))))
theorem copyFrom_e (a b : Nat) (σ : Sg) : fX2_copyFrom a b σ = if nz ((cpI a b σ).1 b 7) then some (cpS a b σ) else none := by
  unfold fX2_copyFrom cpS cpI cI cA
  rfl
theorem cI_k {a b j : Nat} {σ : Sg} : (cI a b j σ).1 a j = σ.1 b j := by unfold cI; rw [wI_k, upd_k]
theorem cI_n {a b j x y : Nat} {σ : Sg} (h : ¬ (x = a ∧ y = j)) : (cI a b j σ).1 x y = σ.1 x y := by unfold cI; rw [wI_a, if_neg h]
theorem cA_k {a b i y : Nat} {n : Int32} {σ : Sg} (h : y < n.toNatClampNeg) : (cA a b i n σ).1 (a + i) y = σ.1 (b + i) y := by
  unfold cA
  rw [wR_k]
  have e : ((0 : Int32)).toNatClampNeg = 0 := rfl
  rw [e, pk_cpy_in (Nat.zero_le _) (by omega), Nat.zero_add, Nat.sub_zero]
theorem cA_n {a b i x y : Nat} {n : Int32} {σ : Sg} (h : x ≠ a + i) : (cA a b i n σ).1 x y = σ.1 x y := by unfold cA; rw [wR_n h]
theorem wT_1 {σ : Sg} {k i v : Nat} : (wT σ k i v).1 = σ.1 := rfl
/-- ints but in S as they were, references but the text of the ring a -/
def Fc (S : Nat → Nat → Prop) (a : Nat) (σ τ : Sg) : Prop := (∀ k j, ¬ S k j → τ.1 k j = σ.1 k j) ∧ τ.2.1 = σ.2.1 ∧ (∀ k j, ¬ (k = a ∧ j = 0) → τ.2.2.1 k j = σ.2.2.1 k j) ∧ τ.2.2.2 = σ.2.2.2
theorem Fc.rf {S : Nat → Nat → Prop} {a : Nat} {σ : Sg} : Fc S a σ σ := ⟨fun _ _ _ => rfl, rfl, fun _ _ _ => rfl, rfl⟩
theorem Fc.tr {S : Nat → Nat → Prop} {a : Nat} {σ τ υ : Sg} (h : Fc S a σ τ) (h2 : Fc S a τ υ) : Fc S a σ υ := ⟨fun k j hk => (h2.1 k j hk).trans (h.1 k j hk), h2.2.1.trans h.2.1, fun k j hk => (h2.2.2.1 k j hk).trans (h.2.2.1 k j hk), h2.2.2.2.trans h.2.2.2⟩
theorem Fc.mo {S S' : Nat → Nat → Prop} {a : Nat} {σ τ : Sg} (h : Fc S a σ τ) (hs : ∀ k j, S k j → S' k j) : Fc S' a σ τ := ⟨fun k j hk => h.1 k j (fun q => hk (hs k j q)), h.2⟩
theorem Fs.fc {S : Nat → Nat → Prop} {a : Nat} {σ τ : Sg} (h : Fs S σ τ) : Fc S a σ τ := ⟨h.1, by rw [h.2], fun _ _ _ => by rw [h.2], by rw [h.2]⟩
theorem Fc.wI {S : Nat → Nat → Prop} {a : Nat} {σ τ : Sg} (h : Fc S a σ τ) {k i : Nat} {v : Int32} (hk : S k i) : Fc S a σ (wI τ k i v) := ⟨fun x y hx => by rw [wI_a, if_neg (fun q => hx (by rw [q.1, q.2]; exact hk))]; exact h.1 x y hx, h.2⟩
section CCOPY
variable {a b t n m : Nat} {σ τ : Sg} {ρ ρ' : Nat → Int32} {bo : Nat → Bool} {dr : Nat → Int32} {lb : Nat → Br} {lf : Nat → Rp}
def rgS (a : Nat) : Nat → Nat → Prop := fun k _ => a ≤ k ∧ k ≤ a + 8
theorem cp_out {x y : Nat} (h : ¬ (a ≤ x ∧ x ≤ a + 8)) : (cpS a b σ).1 x y = σ.1 x y := by
  unfold cpS cpI
  simp (disch := omega) only [cI_n, cA_n, wT_1]
theorem cp_sl (hab : b + 8 < a ∨ a + 8 < b) {j : Nat} (h1 : 1 ≤ j) (h2 : j ≤ 11) : (cpS a b σ).1 a j = σ.1 b j := by
  unfold cpS cpI
  rcases (show j = 1 ∨ j = 2 ∨ j = 3 ∨ j = 4 ∨ j = 5 ∨ j = 6 ∨ j = 7 ∨ j = 8 ∨ j = 9 ∨ j = 10 ∨ j = 11 by omega) with rfl | rfl | rfl | rfl | rfl | rfl | rfl | rfl | rfl | rfl | rfl <;> simp (disch := omega) only [cI_k, cI_n, cA_n, wT_1]
theorem cp_ar (hab : b + 8 < a ∨ a + 8 < b) {i h : Nat} (h1 : 1 ≤ i) (h2 : i ≤ 6) (hh : h < 8) : (cpS a b σ).1 (a + i) h = σ.1 (b + i) h := by
  have e8 : (8 : Int32).toNatClampNeg = 8 := rfl
  unfold cpS cpI
  rcases (show i = 1 ∨ i = 2 ∨ i = 3 ∨ i = 4 ∨ i = 5 ∨ i = 6 by omega) with rfl | rfl | rfl | rfl | rfl | rfl <;> simp (disch := omega) only [cI_n, cA_k, cA_n, wT_1]
theorem cp_sp (hab : b + 8 < a ∨ a + 8 < b) {i h : Nat} (h1 : 7 ≤ i) (h2 : i ≤ 8) (hh : h < 6) : (cpS a b σ).1 (a + i) h = σ.1 (b + i) h := by
  have e6 : (6 : Int32).toNatClampNeg = 6 := rfl
  unfold cpS cpI
  rcases (show i = 7 ∨ i = 8 by omega) with rfl | rfl <;> simp (disch := omega) only [cI_n, cA_k, cA_n, wT_1]
theorem cp_2 : (cpS a b σ).2 = (wT σ a 0 (σ.2.2.1 b 0)).2 := rfl
theorem copyFrom_v (hab : b + 8 < a ∨ a + 8 < b) (h7 : σ.1 b 7 = 0) : fX2_copyFrom a b σ = some (cpS a b σ) ∧ Fc (rgS a) a σ (cpS a b σ) ∧ (cpS a b σ).2.2.1 a 0 = σ.2.2.1 b 0 := by
  refine ⟨?_, ⟨fun k j hk => cp_out hk, by rw [cp_2]; rfl, fun k j hk => ?_, by rw [cp_2]; rfl⟩, ?_⟩
  · rw [copyFrom_e, if_pos]
    have e : (cpI a b σ).1 b 7 = σ.1 b 7 := by unfold cpI; simp (disch := omega) only [cI_n, wT_1]
    rw [e, h7]
    decide
  · rw [cp_2]
    show va_up σ.2.2.1 a (va_up (σ.2.2.1 a) 0 (σ.2.2.1 b 0)) k j = _
    by_cases q : k = a
    · subst q
      have : j ≠ 0 := fun z => hk ⟨rfl, z⟩
      simp [va_up, this]
    · rw [va_up_ne _ _ q]
  · rw [cp_2]
    show va_up σ.2.2.1 a (va_up (σ.2.2.1 a) 0 (σ.2.2.1 b 0)) a 0 = _
    simp [va_up]
/-- a ring that was copied stands for the same row -/
theorem CR.cp (hc : CR σ b n m ρ) (hn : n ≤ 8) (hm : m ≤ 6) (hab : b + 8 < a ∨ a + 8 < b) : CR (cpS a b σ) a n m ρ := by
  obtain ⟨⟨c1, c2, c3, c4, c5, c6, c7⟩, ch, ce⟩ := hc
  refine ⟨⟨?_, ?_, ?_, ?_, ?_, ?_, ?_⟩, fun y hy => ?_, fun y hy => ?_⟩
  any_goals (rw [cp_sl hab (by omega) (by omega)]; assumption)
  · rw [cp_ar hab (by omega) (by omega) (by omega), cp_ar hab (by omega) (by omega) (by omega), cp_ar hab (by omega) (by omega) (by omega), cp_ar hab (by omega) (by omega) (by omega), cp_ar hab (by omega) (by omega) (by omega), cp_ar hab (by omega) (by omega) (by omega)]
    exact ch y hy
  · rw [cp_sp hab (by omega) (by omega) (by omega), cp_sp hab (by omega) (by omega) (by omega)]
    exact ce y hy
end CCOPY
