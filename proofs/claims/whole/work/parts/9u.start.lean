/-! where the two sides begin -/
theorem rl_init {G0 G1 : Gm} {σ0 σ1 σ2 : Sg} (h : LPc 0 43 40 3 G0 σ0 G1 σ1) (hA : ∀ x, x < 442 → σ2.1 x = σ1.1 x ∧ σ2.2.1 x = σ1.2.1 x ∧ σ2.2.2.1 x = σ1.2.2.1 x) (m1 : σ2.1 442 17 = -1) (m2 : ∀ j, j = 2 ∨ j = 18 ∨ j = 53 ∨ j = 61 → σ2.1 442 j = 0) (m3 : σ2.1 (442 + 9) 0 = 0 ∧ σ2.1 (442 + 14) 0 = 0 ∧ σ2.1 (442 + 17) 0 = 0) (m4 : ∀ k, k < 4 → σ2.1 (442 + 18) k = 0 ∧ σ2.1 (442 + 19) k = 0) (m5 : ∀ s, s < 3 → σ2.1 (442 + 38) s = 0) (m6 : ∀ x, 84 ≤ x → x < 88 → σ2.1 (442 + 30) x = 0) (m7 : ∀ k, k < 20 → σ2.2.1 (442 + 7) k = lN (wvN k)) : RLe 442 σ2 := by
  obtain ⟨-, -, -, -, -, h6, h7, h8, h9, h10, h11⟩ := h
  rw [Nat.zero_add] at h7 h8
  have e0 : ∀ j, σ2.1 0 j = if j = 2 then (-1) else 0 := fun j => by rw [(hA 0 (by omega)).1]; exact h9 j
  have e2 : ∀ j, σ2.1 2 j = 0 := fun j => by rw [(hA 2 (by omega)).1]; exact h7.1 j
  have e31 : ∀ j, σ2.1 31 j = 0 := fun j => by rw [(hA 31 (by omega)).1]; exact h8.1 j
  refine ⟨2, 14, 0, 0, 0, fun _ => false, fun _ => 0, fun _ => [], dfl, 0, ⟨Nat.le_refl _, Or.inl ⟨rfl, rfl⟩, ?_, ?_, ⟨⟨by omega, by omega⟩, e2 0, e2 1, ?_, fun e he => absurd he (Nat.not_lt_zero _), fun k hk => ?_⟩, ⟨⟨by omega, m2 18 (by omega), by omega, m3.1, by omega, m3.2.1⟩, fun e he => absurd he (Nat.not_lt_zero _), fun e he => absurd he (Nat.not_lt_zero _), fun k hk => ⟨dfl_w hk, Or.inr ⟨0, ?_, ?_, rfl, rfl⟩⟩⟩, e2 3, m3.2.2, fun e he => absurd he (Nat.not_lt_zero _)⟩, ⟨?_, ⟨⟨?_, ?_, ?_, ?_, ?_, ?_, ?_⟩, fun e he => absurd he (Nat.not_lt_zero _), fun e he => absurd he (Nat.not_lt_zero _)⟩, ⟨fun e he => absurd he (Nat.not_lt_zero _), fun e he => absurd he (Nat.not_lt_zero _), fun e he => absurd he (Nat.not_lt_zero _), ?_, ?_, fun e he => absurd he (Nat.not_lt_zero _)⟩, ?_, e31 7, e31 8, fun _ => ?_⟩, ⟨0, 0, ⟨by omega, by omega⟩, ?_, m2 53 (by omega), ?_, fun i hi => absurd hi (Nat.not_lt_zero _)⟩, ⟨fun _ => false, ?_, fun _ _ => rfl, fun s hs => ⟨m5 s hs, fun q => by cases q⟩⟩, ⟨0, by omega, ?_, m2 61 (by omega), fun i hi => absurd hi (Nat.not_lt_zero _)⟩, ⟨⟨0, by omega, ?_, m2 2 (by omega), fun i hi => absurd hi (Nat.not_lt_zero _)⟩, ?_⟩, fun i hi => ?_, fun i hi => ?_, m7⟩
  · rw [(hA 0 (by omega)).2.2]; exact h6.1
  · rw [(hA 0 (by omega)).2.2]; exact h6.2
  · rw [e2 2]; exact mk8_f (fun i hi => by simp)
  · exact LC.e (h7.2 k hk) (fun x x1 x2 => (hA x (by omega)).1)
  · rw [show 4 * 0 + k = k by omega]; exact (m4 k hk).1
  · rw [show 4 * 0 + k = k by omega]; exact (m4 k hk).2
  · rw [(hA 31 (by omega)).2.2]; exact h8.2
  · rw [e31, m6 84 (by omega) (by omega)]
  · rw [e31]; exact mk8_f (fun i hi => by simp [stF])
  · rw [e31]; exact mk8_f (fun i hi => by simp [stF])
  · rw [e31]; exact mk8_f (fun i hi => by simp [ktF])
  · rw [e31]; exact mk8_f (fun i hi => by simp [ktF])
  · rw [e31, m6 86 (by omega) (by omega)]
  · rw [e31, m6 87 (by omega) (by omega)]
  · rw [m6 85 (by omega) (by omega)]; exact Int32.le_refl _
  · rw [m6 85 (by omega) (by omega)]; decide
  · rw [e31]
    refine mk8_f (fun i hi => decide_eq_false (fun z => ?_))
    have : (0 : Int32) ≤ nI i := nI_n1 (by omega)
    rw [z] at this
    exact absurd this (by decide)
  · rw [e31, m6 85 (by omega) (by omega)]
  · rw [e0, if_neg (by omega)]; rfl
  · rw [e0, if_neg (by omega)]; rfl
  · rw [e0, if_neg (by omega)]; exact mk8_f (fun _ _ => rfl)
  · rw [e0, if_neg (by omega)]; rfl
  · rw [e0, if_neg (by omega)]; rfl
  · rw [e0, if_pos rfl, m1]
  · rw [(hA 51 (by omega)).2.2]; have := h10 i hi; rw [Nat.zero_add, Nat.zero_add] at this; exact this
  · rw [(hA 52 (by omega)).2.2]; have := h11 i hi; rw [Nat.zero_add, Nat.zero_add] at this; exact this
