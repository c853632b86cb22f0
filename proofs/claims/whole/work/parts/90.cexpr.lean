section CEXPR
variable {t L p s : Nat} {σ τ : Sg} {C : Nat → Nat}
/-- the class reads at p, with s steps laid -/
def CS (σ : Sg) (t : Nat) (C : Nat → Nat) (L p s : Nat) : Prop := TKc σ C L ∧ σ.1 26 1 = nI p ∧ σ.2.2.1 26 2 = t ∧ p ≤ 400 ∧ (∀ j, j < p → kdT C L j < 31) ∧ σ.1 (t + 7) 1 = nI s ∧ s ≤ p + 8
def vlV (C : Nat → Nat) (L p : Nat) : Nat := vlT C L (poT C L p)
def SB (t : Nat) : Nat → Nat → Prop := fun k j => k = 26 ∧ (j = 1 ∨ j = 3 ∨ j = 4) ∨ k = t + 8 ∨ k = t + 7 ∧ j = 1
theorem CS.here (h : CS σ t C L p s) : ∃ z, z ≤ 402 ∧ σ.1 27 3 = nI z ∧ p < z ∧ cEn σ C L p := by
  obtain ⟨⟨z, z1, z2, z3⟩, -, -, h4, h5, -⟩ := h
  obtain ⟨a1, a2⟩ := z3 p h4 h5
  exact ⟨z, z1, z2, a1, a2⟩
theorem kd_lt (C : Nat → Nat) (L j : Nat) : kdT C L j ≤ 32 := by
  unfold kdT
  split
  · rcases kdC_le C L (poT C L j) with q | q <;> omega
  · omega
theorem c_kind (h : CS σ t C L p s) : fX1_kindHere 26 σ = some (nI (kdT C L p), σ) := by
  obtain ⟨z, z1, z2, z3, z4⟩ := h.here
  have hp := h.2.2.2.1
  unfold fX1_kindHere
  rw [show 26 + 1 = 27 from rfl, z2, h.2.1, if_neg (le_nI (by omega) (by omega) z3)]
  simp (disch := omega) only [vif, nI_clamp]
  rw [show 27 + 1 = 28 from rfl, z4.1]
theorem c_value (h : CS σ t C L p s) : ∃ v, fX1_valueHere 26 σ = some (v, σ) ∧ (kdT C L p = 20 ∨ kdT C L p = 21 → v = lN (vlV C L p)) := by
  obtain ⟨z, z1, z2, z3, z4⟩ := h.here
  have hp := h.2.2.2.1
  refine ⟨σ.2.1 30 p, ?_, z4.2.2⟩
  unfold fX1_valueHere
  rw [show 26 + 1 = 27 from rfl, z2, h.2.1, if_neg (le_nI (by omega) (by omega) z3)]
  simp (disch := omega) only [vif, nI_clamp]
theorem c_stop (h : CS σ t C L p s) (k : Int32) : fX1_stop 26 k σ = some (0, wI (wI σ 26 3 k) 26 4 (nI (poT C L p))) := by
  obtain ⟨z, z1, z2, z3, z4⟩ := h.here
  have hp := h.2.2.2.1
  have e1 : (wI σ 26 3 k).1 27 3 = nI z := by rw [wI_n (by omega), z2]
  have e2 : (wI σ 26 3 k).1 26 1 = nI p := by rw [wI_k, upd_n (by omega), h.2.1]
  have e3 : (wI σ 26 3 k).1 29 p = nI (poT C L p) := by rw [wI_n (by omega), z4.2.1]
  unfold fX1_stop
  dsimp only
  rw [show 26 + 1 = 27 from rfl, e1, e2, if_neg (le_nI (by omega) (by omega) z3)]
  simp (disch := omega) only [vif, nI_clamp]
  rw [show 27 + 2 = 29 from rfl, e3]
theorem TKc.fs {S : Nat → Nat → Prop} (h : TKc σ C L) (hF : Fs S σ τ) (hS : ∀ k j, 27 ≤ k → k ≤ 30 → ¬ S k j) : TKc τ C L := by
  obtain ⟨z, z1, z2, z3⟩ := h
  refine ⟨z, z1, (hF.1 _ _ (hS _ _ (by omega) (by omega))).trans z2, fun j hj ha => ?_⟩
  obtain ⟨a1, a2, a3, a4⟩ := z3 j hj ha
  exact ⟨a1, (hF.1 _ _ (hS _ _ (by omega) (by omega))).trans a2, (hF.1 _ _ (hS _ _ (by omega) (by omega))).trans a3, fun q => by rw [hF.2]; exact a4 q⟩
theorem CS.mv {S : Nat → Nat → Prop} {p' s' : Nat} (h : CS σ t C L p s) (hF : Fs S σ τ) (hS : ∀ k j, 27 ≤ k → k ≤ 30 → ¬ S k j) (h1 : τ.1 26 1 = nI p') (hp : p' ≤ 400) (hk : ∀ j, j < p' → kdT C L j < 31) (h7 : τ.1 (t + 7) 1 = nI s') (hs : s' ≤ p' + 8) : CS τ t C L p' s' :=
  ⟨h.1.fs hF hS, h1, by rw [hF.2]; exact h.2.2.1, hp, hk, h7, hs⟩
/-- what reading leaves: r, and the rest -/
def RX (σ τ : Sg) (t : Nat) (C : Nat → Nat) (L s : Nat) (r : Int32) (o : Ex) : Prop := Fs (SB t) σ τ ∧ match o with
  | .error (k, q) => r = 0 ∧ τ.1 26 3 = nI k ∧ τ.1 26 4 = nI (poT C L q)
  | .ok (q, c) => r = 1 ∧ CS τ t C L q (s + c.length) ∧ segC (τ.1 (t + 8)) s c ∧ (∀ j, j < s → τ.1 (t + 8) j = σ.1 (t + 8) j) ∧ τ.1 26 3 = σ.1 26 3
theorem c_take (ht : t = 2 ∨ t = 14) (h : CS σ t C L p s) {k : Nat} (hk : k < 31) : ∃ r τ, fX1_take 26 (nI k) σ = some (r, τ) ∧ Fs (SB t) σ τ ∧ ((kdT C L p = k ∧ p < 400 ∧ r = 1 ∧ τ = wI σ 26 1 (nI (p + 1)) ∧ CS τ t C L (p + 1) s) ∨ (r = 0 ∧ ∃ e, (kdT C L p = k ∧ ¬ p < 400 ∧ e = 2 ∨ ¬ kdT C L p = k ∧ e = 1) ∧ τ.1 26 3 = nI e ∧ τ.1 26 4 = nI (poT C L p))) := by
  have hp := h.2.2.2.1
  have hkl := kd_lt C L p
  have fs : ∀ k : Int32, Fs (SB t) σ (wI (wI σ 26 3 k) 26 4 (nI (poT C L p))) := fun k => (Fs.rf.wI (by unfold SB; omega)).wI (by unfold SB; omega)
  unfold fX1_take
  rw [c_kind h, Option.bind_some]
  dsimp only
  by_cases q : kdT C L p = k
  · rw [if_pos (show nI (kdT C L p) = nI k by rw [q]), h.2.1]
    by_cases q2 : p < 400
    · rw [if_pos (Int32.not_le.mp (show ¬ (400 : Int32) ≤ nI p from le_nI (a := 400) (by omega) (by omega) q2)), nI_s]
      have hF : Fs (SB t) σ (wI σ 26 1 (nI (p + 1))) := Fs.rf.wI (by unfold SB; omega)
      refine ⟨1, _, rfl, hF, Or.inl ⟨q, q2, rfl, rfl, h.mv hF (fun k j a1 a2 z => by unfold SB at z; omega) (by rw [wI_k, upd_k]) (by omega) (fun j hj => ?_) (by rw [wI_n (by omega)]; exact h.2.2.2.2.2.1) (by have := h.2.2.2.2.2.2; omega)⟩⟩
      by_cases z : j = p
      · rw [z, q]; exact hk
      · exact h.2.2.2.2.1 j (by omega)
    · rw [if_neg (Int32.not_lt.mpr (show (400 : Int32) ≤ nI p from nI_le (a := 400) (by omega) (by omega))), c_stop h, Option.bind_some]
      exact ⟨0, _, rfl, fs 2, Or.inr ⟨rfl, 2, Or.inl ⟨q, q2, rfl⟩, by rw [wI_k, upd_n (by omega), wI_k, upd_k]; rfl, by rw [wI_k, upd_k]⟩⟩
  · rw [if_neg (ne_nI (by omega) (by omega) q), c_stop h, Option.bind_some]
    exact ⟨0, _, rfl, fs 1, Or.inr ⟨rfl, 1, Or.inr ⟨q, rfl⟩, by rw [wI_k, upd_n (by omega), wI_k, upd_k]; rfl, by rw [wI_k, upd_k]⟩⟩
theorem cd_or {k x : Nat} (hk : k < 16) (hx : x ≤ 9999) : nI k ||| (nI x <<< ((4 : Int32) &&& 31)) = nI (k + 16 * x) := by
  rw [pk_shlN _ 4 (by decide) (by omega), orM]
  congr 1
  have := Nat.two_pow_add_eq_or_of_lt (i := 4) (b := k) (by omega) x
  rw [Nat.or_comm, show x * 2 ^ 4 = 2 ^ 4 * x by omega, ← this]
  omega
/-- a step is laid -/
theorem c_put0 (ht : t = 2 ∨ t = 14) (h : CS σ t C L p s) {k x : Nat} (hk : k < 16) (hx : x ≤ 9999) (hs : s < 408) : ∃ τ, fX0_put (t + 7) (nI k) (nI x) σ = some (nI s, τ) ∧ Fs (SB t) σ τ ∧ τ.1 (t + 8) s = nI (k + 16 * x) ∧ (∀ j, j ≠ s → τ.1 (t + 8) j = σ.1 (t + 8) j) ∧ τ.1 (t + 7) 1 = nI (s + 1) ∧ (∀ j, τ.1 26 j = σ.1 26 j) := by
  have h7 := h.2.2.2.2.2.1
  refine ⟨wI (wI σ (t + 8) s (nI (k + 16 * x))) (t + 7) 1 (nI (s + 1)), ?_, (Fs.rf.wI (by unfold SB; omega)).wI (by unfold SB; omega), ?_, fun j hj => ?_, by rw [wI_k, upd_k], fun j => by rw [wI_n (by omega), wI_n (by omega)]⟩
  · have e7 : (wI σ (t + 8) s (nI (k + 16 * x))).1 (t + 7) 1 = nI s := by rw [wI_n (by omega), h7]
    unfold fX0_put
    dsimp only
    rw [h7, if_neg (show ¬ (408 : Int32) ≤ nI s from le_nI (a := 408) (by omega) (by omega) hs)]
    simp (disch := omega) only [vif, nI_clamp]
    rw [cd_or hk hx, show t + 7 + 1 = t + 8 from rfl, e7, nI_s]
  · rw [wI_n (by omega), wI_k, upd_k]
  · rw [wI_n (by omega), wI_k, upd_n hj]
theorem c_putF (h : CS σ t C L p s) (k x : Int32) (hs : ¬ s < 408) (hs2 : s < 500) : fX0_put (t + 7) k x σ = some (nI s, σ) := by
  unfold fX0_put
  dsimp only
  rw [h.2.2.2.2.2.1, if_pos (show (408 : Int32) ≤ nI s from nI_le (a := 408) (by omega) (by omega))]
theorem segC_c {f g : Nat → Int32} : ∀ {c : Rp} {i : Nat}, segC f i c → (∀ j, i ≤ j → j < i + c.length → g j = f j) → segC g i c
  | [], _, _, _ => trivial
  | (k, x) :: r, i, h, e => ⟨by rw [e i (Nat.le_refl _) (by show i < i + (r.length + 1); omega)]; exact h.1, segC_c h.2 (fun j a1 a2 => e j (by omega) (by show j < i + (r.length + 1); omega))⟩
theorem segC_a {f : Nat → Int32} : ∀ {c c' : Rp} {i : Nat}, segC f i c → segC f (i + c.length) c' → segC f i (c ++ c')
  | [], _, _, _, h => h
  | (k, x) :: r, c', i, h, h' => ⟨h.1, segC_a h.2 (by rw [show i + 1 + r.length = i + ((k, x) :: r).length from by show i + 1 + r.length = i + (r.length + 1); omega]; exact h')⟩
end CEXPR
