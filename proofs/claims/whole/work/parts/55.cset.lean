section CSET
variable {a t n m : Nat} {σ τ : Sg} {ρ ρ' : Nat → Int32}
theorem CR.wO (hc : CR σ a n m ρ) (hn : n ≤ 8) (hm : m ≤ 6) {w : Nat} (hw : w < n) {v : Int32} : CR (wI σ (a + 6) (w) v) a n m (upd ρ (64 + w) v) := by
  obtain ⟨⟨c1, c2, c3, c4, c5, c6, c7⟩, ch, ce⟩ := hc
  have st : ∀ q, mk8 (stF n (upd ρ (64 + w) v) q) = mk8 (stF n ρ q) := fun q => mk8_c fun i hi => by unfold stF; rw [upd_n (by omega)]
  have kt : ∀ q, q = 32 ∨ q = 56 → mk8 (ktF n (upd ρ (64 + w) v) q) = mk8 (ktF n ρ q) := fun q hq => mk8_c fun i hi => by unfold ktF; rw [upd_n (by omega)]
  refine ⟨⟨?_, ?_, ?_, ?_, ?_, ?_, ?_⟩, fun y hy => ?_, fun y hy => ?_⟩
  · rw [wI_a, if_neg (by omega), upd_n (by omega), c1]
  · rw [wI_a, if_neg (by omega), st, c2]
  · rw [wI_a, if_neg (by omega), st, c3]
  · rw [wI_a, if_neg (by omega), kt 32 (Or.inl rfl), c4]
  · rw [wI_a, if_neg (by omega), kt 56 (Or.inr rfl), c5]
  · rw [wI_a, if_neg (by omega), upd_n (by omega), c6]
  · rw [wI_a, if_neg (by omega), upd_n (by omega), c7]
  · obtain ⟨d1, d2, d3, d4, d5, d6⟩ := ch y hy
    refine ⟨?_, ?_, ?_, ?_, ?_, ?_⟩
    · rw [wI_a, if_neg (by omega), upd_n (by omega), d1]
    · rw [wI_a, if_neg (by omega), upd_n (by omega), d2]
    · rw [wI_a, if_neg (by omega), upd_n (by omega), d3]
    · rw [wI_a, if_neg (by omega), upd_n (by omega), d4]
    · rw [wI_a, if_neg (by omega), upd_n (by omega), d5]
    · by_cases q : y = w
      · subst q; rw [wI_k, upd_k, upd_k]
      · rw [wI_a, if_neg (by omega), upd_n (by omega), d6]
  · obtain ⟨d1, d2⟩ := ce y hy
    refine ⟨?_, ?_⟩
    · rw [wI_a, if_neg (by omega), upd_n (by omega), d1]
    · rw [wI_a, if_neg (by omega), upd_n (by omega), d2]
theorem CR.wW (hc : CR σ a n m ρ) (hn : n ≤ 8) (hm : m ≤ 6) {w : Nat} (hw : w < n) {v : Int32} : CR (wI σ (a + 5) (w) v) a n m (upd ρ (48 + w) v) := by
  obtain ⟨⟨c1, c2, c3, c4, c5, c6, c7⟩, ch, ce⟩ := hc
  have st : ∀ q, mk8 (stF n (upd ρ (48 + w) v) q) = mk8 (stF n ρ q) := fun q => mk8_c fun i hi => by unfold stF; rw [upd_n (by omega)]
  have kt : ∀ q, q = 32 ∨ q = 56 → mk8 (ktF n (upd ρ (48 + w) v) q) = mk8 (ktF n ρ q) := fun q hq => mk8_c fun i hi => by unfold ktF; rw [upd_n (by omega)]
  refine ⟨⟨?_, ?_, ?_, ?_, ?_, ?_, ?_⟩, fun y hy => ?_, fun y hy => ?_⟩
  · rw [wI_a, if_neg (by omega), upd_n (by omega), c1]
  · rw [wI_a, if_neg (by omega), st, c2]
  · rw [wI_a, if_neg (by omega), st, c3]
  · rw [wI_a, if_neg (by omega), kt 32 (Or.inl rfl), c4]
  · rw [wI_a, if_neg (by omega), kt 56 (Or.inr rfl), c5]
  · rw [wI_a, if_neg (by omega), upd_n (by omega), c6]
  · rw [wI_a, if_neg (by omega), upd_n (by omega), c7]
  · obtain ⟨d1, d2, d3, d4, d5, d6⟩ := ch y hy
    refine ⟨?_, ?_, ?_, ?_, ?_, ?_⟩
    · rw [wI_a, if_neg (by omega), upd_n (by omega), d1]
    · rw [wI_a, if_neg (by omega), upd_n (by omega), d2]
    · rw [wI_a, if_neg (by omega), upd_n (by omega), d3]
    · rw [wI_a, if_neg (by omega), upd_n (by omega), d4]
    · by_cases q : y = w
      · subst q; rw [wI_k, upd_k, upd_k]
      · rw [wI_a, if_neg (by omega), upd_n (by omega), d5]
    · rw [wI_a, if_neg (by omega), upd_n (by omega), d6]
  · obtain ⟨d1, d2⟩ := ce y hy
    refine ⟨?_, ?_⟩
    · rw [wI_a, if_neg (by omega), upd_n (by omega), d1]
    · rw [wI_a, if_neg (by omega), upd_n (by omega), d2]
theorem CR.wC (hc : CR σ a n m ρ) (hn : n ≤ 8) (hm : m ≤ 6) {w : Nat} (hw : w < n) {v : Int32} : CR (wI σ (a + 2) (w) v) a n m (upd ρ (8 + w) v) := by
  obtain ⟨⟨c1, c2, c3, c4, c5, c6, c7⟩, ch, ce⟩ := hc
  have st : ∀ q, mk8 (stF n (upd ρ (8 + w) v) q) = mk8 (stF n ρ q) := fun q => mk8_c fun i hi => by unfold stF; rw [upd_n (by omega)]
  have kt : ∀ q, q = 32 ∨ q = 56 → mk8 (ktF n (upd ρ (8 + w) v) q) = mk8 (ktF n ρ q) := fun q hq => mk8_c fun i hi => by unfold ktF; rw [upd_n (by omega)]
  refine ⟨⟨?_, ?_, ?_, ?_, ?_, ?_, ?_⟩, fun y hy => ?_, fun y hy => ?_⟩
  · rw [wI_a, if_neg (by omega), upd_n (by omega), c1]
  · rw [wI_a, if_neg (by omega), st, c2]
  · rw [wI_a, if_neg (by omega), st, c3]
  · rw [wI_a, if_neg (by omega), kt 32 (Or.inl rfl), c4]
  · rw [wI_a, if_neg (by omega), kt 56 (Or.inr rfl), c5]
  · rw [wI_a, if_neg (by omega), upd_n (by omega), c6]
  · rw [wI_a, if_neg (by omega), upd_n (by omega), c7]
  · obtain ⟨d1, d2, d3, d4, d5, d6⟩ := ch y hy
    refine ⟨?_, ?_, ?_, ?_, ?_, ?_⟩
    · rw [wI_a, if_neg (by omega), upd_n (by omega), d1]
    · by_cases q : y = w
      · subst q; rw [wI_k, upd_k, upd_k]
      · rw [wI_a, if_neg (by omega), upd_n (by omega), d2]
    · rw [wI_a, if_neg (by omega), upd_n (by omega), d3]
    · rw [wI_a, if_neg (by omega), upd_n (by omega), d4]
    · rw [wI_a, if_neg (by omega), upd_n (by omega), d5]
    · rw [wI_a, if_neg (by omega), upd_n (by omega), d6]
  · obtain ⟨d1, d2⟩ := ce y hy
    refine ⟨?_, ?_⟩
    · rw [wI_a, if_neg (by omega), upd_n (by omega), d1]
    · rw [wI_a, if_neg (by omega), upd_n (by omega), d2]
theorem CR.wL (hc : CR σ a n m ρ) (hn : n ≤ 8) (hm : m ≤ 6) {v : Int32} : CR (wI σ (a) (10) v) a n m (upd ρ (86) v) := by
  obtain ⟨⟨c1, c2, c3, c4, c5, c6, c7⟩, ch, ce⟩ := hc
  have st : ∀ q, mk8 (stF n (upd ρ (86) v) q) = mk8 (stF n ρ q) := fun q => mk8_c fun i hi => by unfold stF; rw [upd_n (by omega)]
  have kt : ∀ q, q = 32 ∨ q = 56 → mk8 (ktF n (upd ρ (86) v) q) = mk8 (ktF n ρ q) := fun q hq => mk8_c fun i hi => by unfold ktF; rw [upd_n (by omega)]
  refine ⟨⟨?_, ?_, ?_, ?_, ?_, ?_, ?_⟩, fun y hy => ?_, fun y hy => ?_⟩
  · rw [wI_a, if_neg (by omega), upd_n (by omega), c1]
  · rw [wI_a, if_neg (by omega), st, c2]
  · rw [wI_a, if_neg (by omega), st, c3]
  · rw [wI_a, if_neg (by omega), kt 32 (Or.inl rfl), c4]
  · rw [wI_a, if_neg (by omega), kt 56 (Or.inr rfl), c5]
  · rw [wI_k, upd_k, upd_k]
  · rw [wI_a, if_neg (by omega), upd_n (by omega), c7]
  · obtain ⟨d1, d2, d3, d4, d5, d6⟩ := ch y hy
    refine ⟨?_, ?_, ?_, ?_, ?_, ?_⟩
    · rw [wI_a, if_neg (by omega), upd_n (by omega), d1]
    · rw [wI_a, if_neg (by omega), upd_n (by omega), d2]
    · rw [wI_a, if_neg (by omega), upd_n (by omega), d3]
    · rw [wI_a, if_neg (by omega), upd_n (by omega), d4]
    · rw [wI_a, if_neg (by omega), upd_n (by omega), d5]
    · rw [wI_a, if_neg (by omega), upd_n (by omega), d6]
  · obtain ⟨d1, d2⟩ := ce y hy
    refine ⟨?_, ?_⟩
    · rw [wI_a, if_neg (by omega), upd_n (by omega), d1]
    · rw [wI_a, if_neg (by omega), upd_n (by omega), d2]
theorem CR.wS (hc : CR σ a n m ρ) (hn : n ≤ 8) (hm : m ≤ 6) {v : Int32} : CR (wI σ (a) (11) v) a n m (upd ρ (87) v) := by
  obtain ⟨⟨c1, c2, c3, c4, c5, c6, c7⟩, ch, ce⟩ := hc
  have st : ∀ q, mk8 (stF n (upd ρ (87) v) q) = mk8 (stF n ρ q) := fun q => mk8_c fun i hi => by unfold stF; rw [upd_n (by omega)]
  have kt : ∀ q, q = 32 ∨ q = 56 → mk8 (ktF n (upd ρ (87) v) q) = mk8 (ktF n ρ q) := fun q hq => mk8_c fun i hi => by unfold ktF; rw [upd_n (by omega)]
  refine ⟨⟨?_, ?_, ?_, ?_, ?_, ?_, ?_⟩, fun y hy => ?_, fun y hy => ?_⟩
  · rw [wI_a, if_neg (by omega), upd_n (by omega), c1]
  · rw [wI_a, if_neg (by omega), st, c2]
  · rw [wI_a, if_neg (by omega), st, c3]
  · rw [wI_a, if_neg (by omega), kt 32 (Or.inl rfl), c4]
  · rw [wI_a, if_neg (by omega), kt 56 (Or.inr rfl), c5]
  · rw [wI_a, if_neg (by omega), upd_n (by omega), c6]
  · rw [wI_k, upd_k, upd_k]
  · obtain ⟨d1, d2, d3, d4, d5, d6⟩ := ch y hy
    refine ⟨?_, ?_, ?_, ?_, ?_, ?_⟩
    · rw [wI_a, if_neg (by omega), upd_n (by omega), d1]
    · rw [wI_a, if_neg (by omega), upd_n (by omega), d2]
    · rw [wI_a, if_neg (by omega), upd_n (by omega), d3]
    · rw [wI_a, if_neg (by omega), upd_n (by omega), d4]
    · rw [wI_a, if_neg (by omega), upd_n (by omega), d5]
    · rw [wI_a, if_neg (by omega), upd_n (by omega), d6]
  · obtain ⟨d1, d2⟩ := ce y hy
    refine ⟨?_, ?_⟩
    · rw [wI_a, if_neg (by omega), upd_n (by omega), d1]
    · rw [wI_a, if_neg (by omega), upd_n (by omega), d2]
theorem CR.wH (hc : CR σ a n m ρ) (hn : n ≤ 8) (hm : m ≤ 6) {v : Int32} : CR (wI σ (a) (1) v) a n m (upd ρ (84) v) := by
  obtain ⟨⟨c1, c2, c3, c4, c5, c6, c7⟩, ch, ce⟩ := hc
  have st : ∀ q, mk8 (stF n (upd ρ (84) v) q) = mk8 (stF n ρ q) := fun q => mk8_c fun i hi => by unfold stF; rw [upd_n (by omega)]
  have kt : ∀ q, q = 32 ∨ q = 56 → mk8 (ktF n (upd ρ (84) v) q) = mk8 (ktF n ρ q) := fun q hq => mk8_c fun i hi => by unfold ktF; rw [upd_n (by omega)]
  refine ⟨⟨?_, ?_, ?_, ?_, ?_, ?_, ?_⟩, fun y hy => ?_, fun y hy => ?_⟩
  · rw [wI_k, upd_k, upd_k]
  · rw [wI_a, if_neg (by omega), st, c2]
  · rw [wI_a, if_neg (by omega), st, c3]
  · rw [wI_a, if_neg (by omega), kt 32 (Or.inl rfl), c4]
  · rw [wI_a, if_neg (by omega), kt 56 (Or.inr rfl), c5]
  · rw [wI_a, if_neg (by omega), upd_n (by omega), c6]
  · rw [wI_a, if_neg (by omega), upd_n (by omega), c7]
  · obtain ⟨d1, d2, d3, d4, d5, d6⟩ := ch y hy
    refine ⟨?_, ?_, ?_, ?_, ?_, ?_⟩
    · rw [wI_a, if_neg (by omega), upd_n (by omega), d1]
    · rw [wI_a, if_neg (by omega), upd_n (by omega), d2]
    · rw [wI_a, if_neg (by omega), upd_n (by omega), d3]
    · rw [wI_a, if_neg (by omega), upd_n (by omega), d4]
    · rw [wI_a, if_neg (by omega), upd_n (by omega), d5]
    · rw [wI_a, if_neg (by omega), upd_n (by omega), d6]
  · obtain ⟨d1, d2⟩ := ce y hy
    refine ⟨?_, ?_⟩
    · rw [wI_a, if_neg (by omega), upd_n (by omega), d1]
    · rw [wI_a, if_neg (by omega), upd_n (by omega), d2]
theorem CR.wB (hc : CR σ a n m ρ) (hn : n ≤ 8) (hm : m ≤ 6) {w : Nat} (hw : w < m) {v : Int32} : CR (wI σ (a + 7) (w) v) a n m (upd ρ (72 + w) v) := by
  obtain ⟨⟨c1, c2, c3, c4, c5, c6, c7⟩, ch, ce⟩ := hc
  have st : ∀ q, mk8 (stF n (upd ρ (72 + w) v) q) = mk8 (stF n ρ q) := fun q => mk8_c fun i hi => by unfold stF; rw [upd_n (by omega)]
  have kt : ∀ q, q = 32 ∨ q = 56 → mk8 (ktF n (upd ρ (72 + w) v) q) = mk8 (ktF n ρ q) := fun q hq => mk8_c fun i hi => by unfold ktF; rw [upd_n (by omega)]
  refine ⟨⟨?_, ?_, ?_, ?_, ?_, ?_, ?_⟩, fun y hy => ?_, fun y hy => ?_⟩
  · rw [wI_a, if_neg (by omega), upd_n (by omega), c1]
  · rw [wI_a, if_neg (by omega), st, c2]
  · rw [wI_a, if_neg (by omega), st, c3]
  · rw [wI_a, if_neg (by omega), kt 32 (Or.inl rfl), c4]
  · rw [wI_a, if_neg (by omega), kt 56 (Or.inr rfl), c5]
  · rw [wI_a, if_neg (by omega), upd_n (by omega), c6]
  · rw [wI_a, if_neg (by omega), upd_n (by omega), c7]
  · obtain ⟨d1, d2, d3, d4, d5, d6⟩ := ch y hy
    refine ⟨?_, ?_, ?_, ?_, ?_, ?_⟩
    · rw [wI_a, if_neg (by omega), upd_n (by omega), d1]
    · rw [wI_a, if_neg (by omega), upd_n (by omega), d2]
    · rw [wI_a, if_neg (by omega), upd_n (by omega), d3]
    · rw [wI_a, if_neg (by omega), upd_n (by omega), d4]
    · rw [wI_a, if_neg (by omega), upd_n (by omega), d5]
    · rw [wI_a, if_neg (by omega), upd_n (by omega), d6]
  · obtain ⟨d1, d2⟩ := ce y hy
    refine ⟨?_, ?_⟩
    · by_cases q : y = w
      · subst q; rw [wI_k, upd_k, upd_k]
      · rw [wI_a, if_neg (by omega), upd_n (by omega), d1]
    · rw [wI_a, if_neg (by omega), upd_n (by omega), d2]
theorem CR.wG (hc : CR σ a n m ρ) (hn : n ≤ 8) (hm : m ≤ 6) {w : Nat} (hw : w < m) {v : Int32} : CR (wI σ (a + 8) (w) v) a n m (upd ρ (78 + w) v) := by
  obtain ⟨⟨c1, c2, c3, c4, c5, c6, c7⟩, ch, ce⟩ := hc
  have st : ∀ q, mk8 (stF n (upd ρ (78 + w) v) q) = mk8 (stF n ρ q) := fun q => mk8_c fun i hi => by unfold stF; rw [upd_n (by omega)]
  have kt : ∀ q, q = 32 ∨ q = 56 → mk8 (ktF n (upd ρ (78 + w) v) q) = mk8 (ktF n ρ q) := fun q hq => mk8_c fun i hi => by unfold ktF; rw [upd_n (by omega)]
  refine ⟨⟨?_, ?_, ?_, ?_, ?_, ?_, ?_⟩, fun y hy => ?_, fun y hy => ?_⟩
  · rw [wI_a, if_neg (by omega), upd_n (by omega), c1]
  · rw [wI_a, if_neg (by omega), st, c2]
  · rw [wI_a, if_neg (by omega), st, c3]
  · rw [wI_a, if_neg (by omega), kt 32 (Or.inl rfl), c4]
  · rw [wI_a, if_neg (by omega), kt 56 (Or.inr rfl), c5]
  · rw [wI_a, if_neg (by omega), upd_n (by omega), c6]
  · rw [wI_a, if_neg (by omega), upd_n (by omega), c7]
  · obtain ⟨d1, d2, d3, d4, d5, d6⟩ := ch y hy
    refine ⟨?_, ?_, ?_, ?_, ?_, ?_⟩
    · rw [wI_a, if_neg (by omega), upd_n (by omega), d1]
    · rw [wI_a, if_neg (by omega), upd_n (by omega), d2]
    · rw [wI_a, if_neg (by omega), upd_n (by omega), d3]
    · rw [wI_a, if_neg (by omega), upd_n (by omega), d4]
    · rw [wI_a, if_neg (by omega), upd_n (by omega), d5]
    · rw [wI_a, if_neg (by omega), upd_n (by omega), d6]
  · obtain ⟨d1, d2⟩ := ce y hy
    refine ⟨?_, ?_⟩
    · rw [wI_a, if_neg (by omega), upd_n (by omega), d1]
    · by_cases q : y = w
      · subst q; rw [wI_k, upd_k, upd_k]
      · rw [wI_a, if_neg (by omega), upd_n (by omega), d2]
theorem CR.wq (hc : CR σ a n m ρ) {j : Nat} (hj : 6 ≤ j ∧ j ≤ 9) {v : Int32} : CR (wI σ a j v) a n m ρ := by
  obtain ⟨⟨c1, c2, c3, c4, c5, c6, c7⟩, ch, ce⟩ := hc
  refine ⟨⟨?_, ?_, ?_, ?_, ?_, ?_, ?_⟩, fun y hy => ?_, fun y hy => ?_⟩
  any_goals (rw [wI_a, if_neg (by omega)]; assumption)
  · obtain ⟨d1, d2, d3, d4, d5, d6⟩ := ch y hy
    refine ⟨?_, ?_, ?_, ?_, ?_, ?_⟩ <;> (rw [wI_a, if_neg (by omega)]; assumption)
  · obtain ⟨d1, d2⟩ := ce y hy
    refine ⟨?_, ?_⟩ <;> (rw [wI_a, if_neg (by omega)]; assumption)
theorem CR.ag (hc : CR σ a n m ρ) (hn : n ≤ 8) (hm : m ≤ 6) (e : ∀ x, x < 88 → x ≠ 85 → ρ' x = ρ x) : CR σ a n m ρ' := by
  obtain ⟨⟨c1, c2, c3, c4, c5, c6, c7⟩, ch, ce⟩ := hc
  have st : ∀ q, mk8 (stF n ρ' q) = mk8 (stF n ρ q) := fun q => mk8_c fun i hi => by unfold stF; rw [e _ (by omega) (by omega)]
  have kt : ∀ q, q = 32 ∨ q = 56 → mk8 (ktF n ρ' q) = mk8 (ktF n ρ q) := fun q hq => mk8_c fun i hi => by unfold ktF; rw [e _ (by omega) (by omega)]
  refine ⟨⟨?_, ?_, ?_, ?_, ?_, ?_, ?_⟩, fun y hy => ?_, fun y hy => ?_⟩
  · rw [e _ (by omega) (by omega)]; exact c1
  · rw [st]; exact c2
  · rw [st]; exact c3
  · rw [kt 32 (Or.inl rfl)]; exact c4
  · rw [kt 56 (Or.inr rfl)]; exact c5
  · rw [e _ (by omega) (by omega)]; exact c6
  · rw [e _ (by omega) (by omega)]; exact c7
  · obtain ⟨d1, d2, d3, d4, d5, d6⟩ := ch y hy
    refine ⟨?_, ?_, ?_, ?_, ?_, ?_⟩ <;> (rw [e _ (by omega) (by omega)]; assumption)
  · obtain ⟨d1, d2⟩ := ce y hy
    refine ⟨?_, ?_⟩ <;> (rw [e _ (by omega) (by omega)]; assumption)
/-- who is in, outside, kept, late: told by the masks -/
theorem CR.ms (hc : CR σ a n m ρ) (hn : n ≤ 8) (hm : m ≤ 6) (e : ∀ x, x < 88 → (x < 32 ∨ 48 ≤ x ∧ x < 56 ∨ 64 ≤ x) → x ≠ 85 → ρ' x = ρ x) (hF : ∀ k j, ¬ (k = a ∧ (2 ≤ j ∧ j ≤ 9)) → τ.1 k j = σ.1 k j) (h2 : τ.1 a 2 = nI (mk8 (stF n ρ' 0))) (h3 : τ.1 a 3 = nI (mk8 (stF n ρ' 2))) (h4 : τ.1 a 4 = nI (mk8 (ktF n ρ' 32))) (h5 : τ.1 a 5 = nI (mk8 (ktF n ρ' 56))) : CR τ a n m ρ' := by
  obtain ⟨⟨c1, c2, c3, c4, c5, c6, c7⟩, ch, ce⟩ := hc
  refine ⟨⟨?_, h2, h3, h4, h5, ?_, ?_⟩, fun y hy => ?_, fun y hy => ?_⟩
  any_goals (rw [hF _ _ (by omega), e _ (by omega) (by omega) (by omega)]; assumption)
  · obtain ⟨d1, d2, d3, d4, d5, d6⟩ := ch y hy
    refine ⟨?_, ?_, ?_, ?_, ?_, ?_⟩ <;> (rw [hF _ _ (by omega), e _ (by omega) (by omega) (by omega)]; assumption)
  · obtain ⟨d1, d2⟩ := ce y hy
    refine ⟨?_, ?_⟩ <;> (rw [hF _ _ (by omega), e _ (by omega) (by omega) (by omega)]; assumption)
end CSET
