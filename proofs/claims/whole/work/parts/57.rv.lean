section RVS
variable {n m : Nat} {ρ ρ' : Nat → Int32} {bo : Nat → Bool} {dr : Nat → Int32} {lb : Nat → Br} {lf : Nat → Rp}
/-- the row is as good as another where they agree on what counts -/
theorem RV.ag (h : RV n m ρ) (hn : n ≤ 8) (hm : m ≤ 6) (e : ∀ x, (8 ≤ x ∧ x < 8 + n ∨ 32 ≤ x ∧ x < 32 + n ∨ 40 ≤ x ∧ x < 40 + n ∨ 56 ≤ x ∧ x < 56 + n ∨ 72 ≤ x ∧ x < 72 + m ∨ 78 ≤ x ∧ x < 78 + m ∨ x = 85) → ρ' x = ρ x) : RV n m ρ' := by
  obtain ⟨h1, h2, h3, h4, h5, h6⟩ := h
  refine ⟨fun w hw => ?_, fun w hw => ?_, fun w hw => ?_, ?_, ?_, fun w hw => ?_⟩
  · rw [e _ (by omega), e _ (by omega), e _ (by omega)]; exact h1 w hw
  · rw [e _ (by omega)]; exact h2 w hw
  · rw [e _ (by omega)]; exact h3 w hw
  · rw [e _ (by omega)]; exact h4
  · rw [e _ (by omega)]; exact h5
  · rw [e _ (by omega)]; exact h6 w hw
theorem RV.u (h : RV n m ρ) (hn : n ≤ 8) (hm : m ≤ 6) {x : Nat} {v : Int32} (hx : x < 8 ∨ 16 ≤ x ∧ x < 32 ∨ 48 ≤ x ∧ x < 56 ∨ 64 ≤ x ∧ x < 72 ∨ x = 84 ∨ 86 ≤ x) : RV n m (upd ρ x v) := h.ag hn hm (fun y hy => upd_n (by omega))
theorem RV.u40 (h : RV n m ρ) (hn : n ≤ 8) (hm : m ≤ 6) {w : Nat} {v : Int32} (hw : w < n) (hv : v = 0 ∨ v = 1 ∨ v = 2) : RV n m (upd ρ (40 + w) v) := by
  obtain ⟨h1, h2, h3, h4, h5, h6⟩ := h
  refine ⟨fun x hx => ?_, fun x hx => ?_, fun x hx => ?_, ?_, ?_, fun x hx => ?_⟩
  · rw [upd_n (j := 32 + x) (by omega), upd_n (j := 56 + x) (by omega)]
    refine ⟨?_, (h1 x hx).2⟩
    by_cases q : x = w
    · subst q; rw [upd_k]; exact hv
    · rw [upd_n (by omega)]; exact (h1 x hx).1
  · rw [upd_n (by omega)]; exact h2 x hx
  · rw [upd_n (by omega)]; exact h3 x hx
  · rw [upd_n (by omega)]; exact h4
  · rw [upd_n (by omega)]; exact h5
  · rw [upd_n (by omega)]; exact h6 x hx
theorem RV.u56 (h : RV n m ρ) (hn : n ≤ 8) (hm : m ≤ 6) {w : Nat} {v : Int32} (hw : w < n) (hv : v = 0 ∨ v = 1) : RV n m (upd ρ (56 + w) v) := by
  obtain ⟨h1, h2, h3, h4, h5, h6⟩ := h
  refine ⟨fun x hx => ?_, fun x hx => ?_, fun x hx => ?_, ?_, ?_, fun x hx => ?_⟩
  · rw [upd_n (j := 32 + x) (by omega), upd_n (j := 40 + x) (by omega)]
    refine ⟨(h1 x hx).1, (h1 x hx).2.1, ?_⟩
    by_cases q : x = w
    · subst q; rw [upd_k]; exact hv
    · rw [upd_n (by omega)]; exact (h1 x hx).2.2
  · rw [upd_n (by omega)]; exact h2 x hx
  · rw [upd_n (by omega)]; exact h3 x hx
  · rw [upd_n (by omega)]; exact h4
  · rw [upd_n (by omega)]; exact h5
  · rw [upd_n (by omega)]; exact h6 x hx
theorem RV.u32 (h : RV n m ρ) (hn : n ≤ 8) (hm : m ≤ 6) {w : Nat} {v : Int32} (hw : w < n) (hv : v = 0 ∨ v = 1) : RV n m (upd ρ (32 + w) v) := by
  obtain ⟨h1, h2, h3, h4, h5, h6⟩ := h
  refine ⟨fun x hx => ?_, fun x hx => ?_, fun x hx => ?_, ?_, ?_, fun x hx => ?_⟩
  · rw [upd_n (j := 56 + x) (by omega), upd_n (j := 40 + x) (by omega)]
    refine ⟨(h1 x hx).1, ?_, (h1 x hx).2.2⟩
    by_cases q : x = w
    · subst q; rw [upd_k]; exact hv
    · rw [upd_n (by omega)]; exact (h1 x hx).2.1
  · rw [upd_n (by omega)]; exact h2 x hx
  · rw [upd_n (by omega)]; exact h3 x hx
  · rw [upd_n (by omega)]; exact h4
  · rw [upd_n (by omega)]; exact h5
  · rw [upd_n (by omega)]; exact h6 x hx
theorem RV.u72 (h : RV n m ρ) (hn : n ≤ 8) (hm : m ≤ 6) {w b : Nat} (hw : w < m) (hb : b < n) : RV n m (upd ρ (72 + w) (nI b)) := by
  obtain ⟨h1, h2, h3, h4, h5, h6⟩ := h
  refine ⟨fun x hx => ?_, fun x hx => ?_, fun x hx => ?_, ?_, ?_, fun x hx => ?_⟩
  · rw [upd_n (by omega), upd_n (by omega), upd_n (by omega)]; exact h1 x hx
  · by_cases q : x = w
    · subst q; rw [upd_k]; exact ⟨b, hb, rfl⟩
    · rw [upd_n (by omega)]; exact h2 x hx
  · rw [upd_n (by omega)]; exact h3 x hx
  · rw [upd_n (by omega)]; exact h4
  · rw [upd_n (by omega)]; exact h5
  · rw [upd_n (by omega)]; exact h6 x hx
theorem RV.u78 (h : RV n m ρ) (hn : n ≤ 8) (hm : m ≤ 6) {w : Nat} {v : Int32} (hw : w < m) (hv : v = -2 ∨ ∃ b, b < n ∧ v = nI b) : RV n m (upd ρ (78 + w) v) := by
  obtain ⟨h1, h2, h3, h4, h5, h6⟩ := h
  refine ⟨fun x hx => ?_, fun x hx => ?_, fun x hx => ?_, ?_, ?_, fun x hx => ?_⟩
  · rw [upd_n (by omega), upd_n (by omega), upd_n (by omega)]; exact h1 x hx
  · rw [upd_n (by omega)]; exact h2 x hx
  · by_cases q : x = w
    · subst q; rw [upd_k]; exact hv
    · rw [upd_n (by omega)]; exact h3 x hx
  · rw [upd_n (by omega)]; exact h4
  · rw [upd_n (by omega)]; exact h5
  · rw [upd_n (by omega)]; exact h6 x hx
theorem RV.u85 (h : RV n m ρ) (hn : n ≤ 8) (hm : m ≤ 6) {v : Int32} (hv : 0 ≤ v ∧ v ≤ 99999) : RV n m (upd ρ 85 v) := by
  obtain ⟨h1, h2, h3, h4, h5, h6⟩ := h
  refine ⟨fun x hx => ?_, fun x hx => ?_, fun x hx => ?_, ?_, ?_, fun x hx => ?_⟩
  · rw [upd_n (by omega), upd_n (by omega), upd_n (by omega)]; exact h1 x hx
  · rw [upd_n (by omega)]; exact h2 x hx
  · rw [upd_n (by omega)]; exact h3 x hx
  · rw [upd_k]; exact hv.1
  · rw [upd_k]; exact hv.2
  · rw [upd_n (by omega)]; exact h6 x hx
theorem RV.u8 (h : RV n m ρ) (hn : n ≤ 8) (hm : m ≤ 6) {w : Nat} {v : Int32} (hw : w < n) (hv : 0 ≤ v) : RV n m (upd ρ (8 + w) v) := by
  obtain ⟨h1, h2, h3, h4, h5, h6⟩ := h
  refine ⟨fun x hx => ?_, fun x hx => ?_, fun x hx => ?_, ?_, ?_, fun x hx => ?_⟩
  · rw [upd_n (by omega), upd_n (by omega), upd_n (by omega)]; exact h1 x hx
  · rw [upd_n (by omega)]; exact h2 x hx
  · rw [upd_n (by omega)]; exact h3 x hx
  · rw [upd_n (by omega)]; exact h4
  · rw [upd_n (by omega)]; exact h5
  · by_cases q : x = w
    · subst q; rw [upd_k]; exact hv
    · rw [upd_n (by omega)]; exact h6 x hx
theorem clamp_in (lo hi x : Int32) (h : lo ≤ hi) : lo ≤ clamp lo hi x ∧ clamp lo hi x ≤ hi := by
  unfold clamp
  by_cases h1 : x < lo
  · rw [if_pos h1]; exact ⟨Int32.le_refl _, h⟩
  · rw [if_neg h1]
    by_cases h2 : hi < x
    · rw [if_pos h2]; exact ⟨h, Int32.le_refl _⟩
    · rw [if_neg h2]; exact ⟨Int32.not_lt.mp h1, Int32.not_lt.mp h2⟩
theorem rv_cin (h : RV n m ρ) (hn : n ≤ 8) (hm : m ≤ 6) {w : Nat} (hw : w < n) : RV n m (cin n m bo dr lb lf ρ w).2 := by
  unfold cin
  split
  · split
    · show RV n m (cinR m dr ρ w _)
      unfold cinR
      split
      · exact ((((h.u40 hn hm hw (Or.inl rfl)).u hn hm (by omega)).u hn hm (by omega)).u hn hm (by omega)).u hn hm (by omega)
      · exact (((h.u40 hn hm hw (Or.inl rfl)).u hn hm (by omega)).u hn hm (by omega)).u hn hm (by omega)
    · exact h
  · exact h
theorem rv_lin1 (hn : n ≤ 8) (hm : m ≤ 6) : ∀ (d i : Nat) (fl : Bool) (ρ : Nat → Int32), i + d ≤ n → RV n m ρ → RV n m (lin1 n m bo dr lb lf d i fl ρ).2 := by
  intro d
  induction d with
  | zero => intro i fl ρ _ h; exact h
  | succ d ih => intro i fl ρ hi h; exact ih (i + 1) _ _ (by omega) (rv_cin h hn hm (by omega))
theorem rv_linR (hn : n ≤ 8) (hm : m ≤ 6) : ∀ (k : Nat) (ρ : Nat → Int32), RV n m ρ → RV n m (linR n m bo dr lb lf k ρ) := by
  intro k
  induction k with
  | zero => intro ρ h; exact h
  | succ k ih =>
    intro ρ h
    unfold linR
    have := rv_lin1 (bo := bo) (dr := dr) (lb := lb) (lf := lf) hn hm n 0 false ρ (by omega) h
    split
    · exact ih _ this
    · exact this
theorem rv_fold {step : Nat → (Nat → Int32) → (Nat → Int32)} {e : Nat} (hs : ∀ i ρ, i < e → RV n m ρ → RV n m (step i ρ)) (h : RV n m ρ) : ∀ i, i ≤ e → RV n m (foldU step i ρ)
  | 0, _ => h
  | i + 1, hi => hs i _ (by omega) (rv_fold hs h i (by omega))
theorem rv_spS (hn : n ≤ 8) (hm : m ≤ 6) (e : Nat) (ρ : Nat → Int32) (he : e < m) (h : RV n m ρ) : RV n m (spS n e ρ) := by
  unfold spS
  split
  · exact h
  · obtain ⟨b, hb, eb⟩ := h.2.1 e he
    rw [eb, nI_clamp (by omega)]
    exact h.u72 hn hm he (rigN_lt hb)
theorem rv_goS (hr : Int32) (hn : n ≤ 8) (hm : m ≤ 6) (w : Nat) (ρ : Nat → Int32) (hw : w < n) (h : RV n m ρ) : RV n m (goS hr w ρ) := by
  unfold goS
  split
  · exact (h.u40 hn hm hw (Or.inr (Or.inl rfl))).u hn hm (by omega)
  · exact h
theorem rv_coS (hr sd still lost : Int32) (wf : Nat → Bool) (hn : n ≤ 8) (hm : m ≤ 6) (w : Nat) (ρ : Nat → Int32) (hw : w < n) (h : RV n m ρ) : RV n m (coS n lb lf hr sd still lost wf w ρ) := by
  unfold coS
  dsimp only
  split
  · exact h.u56 hn hm hw (Or.inl rfl)
  · split
    · exact (h.u56 hn hm hw (Or.inl rfl)).u56 hn hm hw (Or.inr rfl)
    · exact (h.u56 hn hm hw (Or.inl rfl)).u40 hn hm hw (Or.inr (Or.inr rfl))
theorem rv_waS (hn : n ≤ 8) (hm : m ≤ 6) (w : Nat) (ρ : Nat → Int32) (hw : w < n) (h : RV n m ρ) : RV n m (waS n lb lf w ρ) := by
  unfold waS
  split
  · exact (h.u hn hm (by omega)).u85 hn hm (clamp_in _ _ _ (by decide))
  · exact h
theorem rv_hourS (sd still lost : Int32) (hn : n ≤ 8) (hm : m ≤ 6) (h : RV n m ρ) : RV n m (hourS n m bo dr lb lf sd still lost ρ) := by
  unfold hourS
  dsimp only
  have h0 : RV n m (if irem (ρ 84) 24 = 0 then foldU (spS n) m ρ else ρ) := by
    split
    · exact rv_fold (rv_spS hn hm) h m (Nat.le_refl _)
    · exact h
  exact (rv_fold (rv_waS hn hm) (rv_linR hn hm 9 _ (rv_fold (rv_coS _ _ _ _ _ hn hm) (rv_fold (rv_goS _ hn hm) h0 n (Nat.le_refl _)) n (Nat.le_refl _))) n (Nat.le_refl _)).u hn hm (by omega)
end RVS
