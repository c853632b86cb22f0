/-! faults that wait -/
def nt (la : Option (Nat × Nat)) (c : Bool) (k q : Nat) : Option (Nat × Nat) := match la with
  | some x => some x
  | none => if c = true then some (k, q) else none
section NOTE
variable {M t L p s b B0 S0 : Nat} {σ τ υ : Sg} {C : Nat → Nat} {la : Option (Nat × Nat)}
theorem po_lt {j : Nat} (h : kdT C L j < 31) : poT C L j < L := by
  unfold kdT at h
  by_cases q : poT C L j < L
  · exact q
  · rw [if_neg q] at h; omega
theorem po_s {j : Nat} (h : poT C L j < L) : poT C L j < poT C L (j + 1) := by
  rw [show poT C L (j + 1) = if poT C L j < L then skp C L (enE C L (poT C L j)) else L from rfl, if_pos h]
  have h1 := enE_in (C := C) h
  have h2 := skp_in (C := C) h1.2
  omega
theorem po_mono {j : Nat} : ∀ d, (∀ x, j ≤ x → x < j + (d + 1) → kdT C L x < 31) → poT C L j < poT C L (j + (d + 1))
  | 0, h => po_s (po_lt (h j (by omega) (by omega)))
  | d + 1, h => by
    have h1 := po_mono d (fun x a1 a2 => h x a1 (by omega))
    have h2 := po_s (C := C) (L := L) (j := j + (d + 1)) (po_lt (h _ (by omega) (by omega)))
    rw [show j + (d + 1 + 1) = j + (d + 1) + 1 by omega]
    omega
/-- the class's fault that waits -/
def LAc (σ : Sg) (C : Nat → Nat) (L : Nat) (la : Option (Nat × Nat)) : Prop := match la with
  | none => σ.1 26 5 = 0 ∧ σ.1 26 6 = -1
  | some (k, q) => σ.1 26 5 = nI k ∧ σ.1 26 6 = nI (poT C L q) ∧ 3 ≤ k ∧ k ≤ 5
theorem CS.n5 (h : CS σ t C L p s) (ht : t = 2 ∨ t = 14) (hF : Fs (fun k j => k = 26 ∧ (j = 5 ∨ j = 6)) σ τ) : CS τ t C L p s := h.mv hF (fun k j a1 a2 => by omega) ((hF.1 _ _ (by omega)).trans h.2.1) h.2.2.2.1 h.2.2.2.2.1 ((hF.1 _ _ (by omega)).trans h.2.2.2.2.2.1) h.2.2.2.2.2.2
theorem c_note (h : CS σ t C L p s) (hl : LAc σ C L la) {k : Nat} (hk : 3 ≤ k ∧ k ≤ 5) : ∃ τ, fX1_note 26 (nI k) σ = some τ ∧ Fs (fun k j => k = 26 ∧ (j = 5 ∨ j = 6)) σ τ ∧ LAc τ C L (nt la true k p) := by
  obtain ⟨z, z1, z2, z3, z4⟩ := h.here
  have hp := h.2.2.2.1
  cases la with
  | none =>
    have e1 : (wI σ 26 5 (nI k)).1 27 3 = nI z := by rw [wI_n (by omega), z2]
    have e2 : (wI σ 26 5 (nI k)).1 26 1 = nI p := by rw [wI_k, upd_n (by omega), h.2.1]
    have e3 : (wI σ 26 5 (nI k)).1 29 p = nI (poT C L p) := by rw [wI_n (by omega), z4.2.1]
    refine ⟨wI (wI σ 26 5 (nI k)) 26 6 (nI (poT C L p)), ?_, (Fs.rf.wI (by omega)).wI (by omega), ?_⟩
    · unfold fX1_note
      rw [hl.1, if_pos rfl]
      dsimp only
      rw [show 26 + 1 = 27 from rfl, e1, e2, if_neg (le_nI (by omega) (by omega) z3)]
      simp (disch := omega) only [vif, nI_clamp]
      rw [show 27 + 2 = 29 from rfl, e3]
    · exact ⟨by rw [wI_k, upd_n (by omega), wI_k, upd_k], by rw [wI_k, upd_k], hk⟩
  | some x =>
    obtain ⟨k', q⟩ := x
    refine ⟨σ, ?_, Fs.rf, hl⟩
    unfold fX1_note
    rw [hl.1, if_neg (show ¬ nI k' = 0 from ne_nI (b := 0) (by have := hl.2.2; omega) (by omega) (by have := hl.2.2; omega))]
theorem nt_f (la : Option (Nat × Nat)) (k q : Nat) : nt la false k q = la := by cases la <;> rfl
theorem lgle {a m : Nat} (ha : a < 2 ^ 63) (hm : m < 2 ^ 31) : lg_cmp (lN a) (nI m).toInt64 ≤ 0 ↔ a ≤ m := by
  rw [nI_l hm]
  have h1 : lN a > lN m ↔ m < a := by
    show lN m < lN a ↔ m < a
    rw [Int64.lt_iff_toInt_lt]
    unfold lN
    rw [Int64.toInt_ofNat_of_lt ha, Int64.toInt_ofNat_of_lt (by omega)]
    omega
  unfold lg_cmp
  by_cases q : m < a
  · rw [if_pos (h1.mpr q)]
    exact ⟨fun z => absurd z (by decide), fun z => by omega⟩
  · rw [if_neg (fun z => q (h1.mp z))]
    by_cases z : lN a = lN m
    · rw [if_pos z]
      exact ⟨fun _ => by omega, fun _ => by decide⟩
    · rw [if_neg z]
      exact ⟨fun _ => by omega, fun _ => by decide⟩
theorem c_int (ht : t = 2 ∨ t = 14) (h : CS σ t C L p s) (hl : LAc σ C L la) {m : Nat} (hm : m < 10000) : ∃ r τ, fX1_intHere 26 (nI m) σ = some (r, τ) ∧ Fs (fun k j => k = 26 ∧ (j = 5 ∨ j = 6)) σ τ ∧ CS τ t C L p s ∧ (kdT C L p = 21 → r = nI (vlV C L p) ∧ LAc τ C L (nt la (decide (m < vlV C L p)) 5 p)) := by
  have hkl := kd_lt C L p
  unfold fX1_intHere jX1_intHere_26
  rw [c_kind h, Option.bind_some]
  dsimp only
  by_cases q : kdT C L p = 21
  · have vl := vlV_le q
    obtain ⟨v, v1, v2⟩ := c_value h
    rw [if_pos (show nI (kdT C L p) = 21 by rw [q]; rfl), v1, Option.bind_some]
    dsimp only
    rw [v2 (Or.inr q)]
    have e := lgle (a := vlV C L p) (m := m) (by omega) (by omega)
    by_cases z : vlV C L p ≤ m
    · rw [if_pos (e.mpr z), v1, Option.bind_some]
      refine ⟨_, σ, rfl, Fs.rf, h, fun _ => ⟨by rw [v2 (Or.inr q)]; exact lN_i _, ?_⟩⟩
      rw [decide_eq_false (by omega), nt_f]; exact hl
    · obtain ⟨τ, a1, a2, a3⟩ := c_note h hl (k := 5) (by omega)
      have a1 : fX1_note 26 5 σ = some τ := a1
      have h2 := h.n5 ht a2
      obtain ⟨v', v3, v4⟩ := c_value h2
      rw [if_neg (fun y => z (e.mp y)), a1, Option.bind_some, v3, Option.bind_some]
      refine ⟨_, τ, rfl, a2, h2, fun _ => ⟨by rw [v4 (Or.inr q)]; exact lN_i _, ?_⟩⟩
      rw [decide_eq_true (by omega)]; exact a3
  · rw [if_neg (show ¬ nI (kdT C L p) = 21 from ne_nI (b := 21) (by omega) (by omega) q)]
    exact ⟨0, σ, rfl, Fs.rf, h, fun z => absurd z q⟩
/-- the house of a name -/
def hoI (nm : Nat → Nat) (n v : Nat) : Int32 := if fnG (fun h => decide (nm h = v)) n n 0 < n then nI (fnG (fun h => decide (nm h = v)) n n 0) else -1
theorem c_named {n v : Nat} {nm : Nat → Nat} (hn : n ≤ 8) (h0 : σ.1 t 0 = nI n) (hN : ∀ h, h < n → σ.2.1 (t + 1) h = lN (nm h) ∧ nm h < 2 ^ 63) (hv : v < 2 ^ 63) : fX3_houseNamed t (lN v) σ = some (hoI nm n v, σ) := by
  have r := fn_run (σ := σ) (f := fun st : Int32 × Sg => bX3_houseNamed_2 t (lN v) st.1 st.2) (fun h => decide (nm h = v)) n n (Nat.le_refl _) (fun k hk => by
    show bX3_houseNamed_2 t (lN v) (nI k) σ = _
    unfold bX3_houseNamed_2
    rw [h0, if_neg (le_nI (by omega) (by omega) hk)]
    simp (disch := omega) only [vif, nI_clamp]
    rw [(hN k hk).1, nI_s]
    by_cases z : nm k = v
    · rw [if_pos ((lg0 _ _).mpr (by rw [z])), if_pos (decide_eq_true z)]
    · rw [if_neg (fun y => z ((lN_ij (hN k hk).2 hv).mp ((lg0 _ _).mp y))), if_neg (by rw [decide_eq_false z]; decide)]) (by
    show bX3_houseNamed_2 t (lN v) (nI n) σ = _
    unfold bX3_houseNamed_2
    rw [h0, if_pos (Int32.le_refl _)]) n 0 (by omega)
  unfold fX3_houseNamed hoI
  rw [show (0 : Int32) = nI 0 from rfl, r, Option.bind_some]
  by_cases z : fnG (fun h => decide (nm h = v)) n n 0 < n
  · rw [if_pos z, if_pos z]; rfl
  · rw [if_neg z, if_neg z]; rfl
theorem hoI_f (nm : Nat → Nat) (n v : Nat) (hn : n ≤ 8) : (hoI nm n v = -1 ∧ (∀ h, h < n → nm h ≠ v)) ∨ ∃ h, h < n ∧ nm h = v ∧ hoI nm n v = nI h := by
  unfold hoI
  rcases fnG_s (fun h => decide (nm h = v)) n n 0 with ⟨q1, q2⟩ | ⟨-, q2, q3⟩
  · rw [q1, if_neg (by omega)]
    exact Or.inl ⟨rfl, fun h hh => of_decide_eq_false (q2 h (by omega) (by omega))⟩
  · rw [if_pos (by omega)]
    exact Or.inr ⟨_, by omega, of_decide_eq_true q3, rfl⟩
theorem vlV_63 (h : kdT C L p = 20) : vlV C L p < 2 ^ 63 := by
  unfold kdT at h
  by_cases q : poT C L p < L
  · rw [if_pos q] at h
    have h1 := kd_let h
    have hr := rnE_in ltC C (L - (poT C L p + 1)) (poT C L p + 1)
    have ee : enE C L (poT C L p) = rnE ltC C (L - (poT C L p + 1)) (poT C L p + 1) := by unfold enE; rw [h1]; rfl
    rw [← ee] at hr
    unfold vlV vlT
    rw [if_pos h1]
    have := vl_lt (C := C) (i := poT C L p) (min (enE C L (poT C L p) - poT C L p) 8) (fun j hj => by
      by_cases z : j = 0
      · subst z
        exact (of_decide_eq_true h1 : 97 ≤ C (poT C L p) ∧ C (poT C L p) ≤ 122).2
      · exact (of_decide_eq_true (hr.2.2 (poT C L p + j) (by omega) (by omega)) : 97 ≤ C (poT C L p + j) ∧ C (poT C L p + j) ≤ 122).2)
    have h4 : 27 ^ (min (enE C L (poT C L p) - poT C L p) 8) ≤ 27 ^ 8 := Nat.pow_le_pow_right (by omega) (by omega)
    have h5 : 27 ^ 8 < 2 ^ 63 := by decide
    omega
  · rw [if_neg q] at h; omega
/-- a house named here, by the class -/
theorem c_house (ht : t = 2 ∨ t = 14) (h : CS σ t C L p s) (hl : LAc σ C L la) {n : Nat} {nm : Nat → Nat} (hn : n ≤ 8) (h0 : σ.1 t 0 = nI n) (hN : ∀ h, h < n → σ.2.1 (t + 1) h = lN (nm h) ∧ nm h < 2 ^ 63) : ∃ r τ, fX1_houseHere 26 σ = some (r, τ) ∧ Fs (fun k j => k = 26 ∧ (j = 5 ∨ j = 6)) σ τ ∧ CS τ t C L p s ∧ (kdT C L p = 20 → r = hoI nm n (vlV C L p) ∧ LAc τ C L (nt la (decide (hoI nm n (vlV C L p) = -1)) 4 p)) ∧ (¬ kdT C L p = 20 → r = -1) := by
  have hkl := kd_lt C L p
  unfold fX1_houseHere
  rw [c_kind h, Option.bind_some]
  dsimp only
  by_cases q : kdT C L p = 20
  · obtain ⟨v, v1, v2⟩ := c_value h
    rw [if_pos (show nI (kdT C L p) = 20 by rw [q]; rfl), v1, Option.bind_some]
    dsimp only
    rw [h.2.2.1, v2 (Or.inl q), c_named hn h0 hN (vlV_63 q), Option.bind_some]
    dsimp only
    by_cases z : hoI nm n (vlV C L p) = -1
    · obtain ⟨τ, a1, a2, a3⟩ := c_note h hl (k := 4) (by omega)
      have a1 : fX1_note 26 4 σ = some τ := a1
      rw [if_pos z, a1, Option.bind_some]
      exact ⟨_, τ, rfl, a2, h.n5 ht a2, fun _ => ⟨rfl, by rw [decide_eq_true z]; exact a3⟩, fun y => absurd q y⟩
    · rw [if_neg z]
      exact ⟨_, σ, rfl, Fs.rf, h, fun _ => ⟨rfl, by rw [decide_eq_false z, nt_f]; exact hl⟩, fun y => absurd q y⟩
  · rw [if_neg (show ¬ nI (kdT C L p) = 20 from ne_nI (b := 20) (by omega) (by omega) q)]
    exact ⟨-1, σ, rfl, Fs.rf, h, fun z => absurd z q, fun _ => rfl⟩
/-- the model's fault that waits -/
def LAm (σ : Sg) (M : Nat) (C : Nat → Nat) (L p : Nat) (la : Option (Nat × Nat)) : Prop := match la with
  | none => σ.1 M 15 = 0
  | some (k, q) => σ.1 M 15 = nI k ∧ σ.1 M 16 = nI (poT C L q) ∧ 3 ≤ k ∧ k ≤ 5 ∧ q < p
theorem m_wrong (hL : L ≤ 2000) (h : MP σ M C L p) (hl : LAm σ M C L p la) {k x p' : Nat} (hk : 3 ≤ k ∧ k ≤ 5) (hx : x ≤ p) (hp' : x < p' ∧ p ≤ p') (hle : ∀ k' q, la = some (k', q) → q < x ∨ q = x ∧ k' ≤ k) : ∃ τ, fX7_wrong M (nI k) (nI x) σ = some τ ∧ Fs (fun k j => k = M ∧ (j = 15 ∨ j = 16)) σ τ ∧ LAm τ M C L p' (nt la true k x) := by
  have hp := h.2.2.1
  have en := h.1 x (by omega) (fun j hj => h.2.2.2.1 j (by omega))
  unfold fX7_wrong jX7_wrong_46
  simp (disch := omega) only [vif, nI_clamp]
  rw [h.2.2.2.2, if_neg (by decide), en.2.1]
  cases la with
  | none =>
    rw [show σ.1 M 15 = 0 from hl, if_pos rfl]
    exact ⟨_, rfl, (Fs.rf.wI (by omega)).wI (by omega), by rw [wI_k, upd_n (by omega), wI_k, upd_k], by rw [wI_k, upd_k], hk.1, hk.2, hp'.1⟩
  | some y =>
    obtain ⟨k', q⟩ := y
    obtain ⟨l1, l2, l3, l4, l5⟩ := hl
    have pq := poT_le (C := C) (L := L) q
    have px := poT_le (C := C) (L := L) x
    rw [l1, l2, if_neg (show ¬ nI k' = 0 from ne_nI (b := 0) (by omega) (by omega) (by omega))]
    rcases hle k' q rfl with z | ⟨rfl, z⟩
    · have := po_mono (C := C) (L := L) (j := q) (x - q - 1) (fun y a1 a2 => h.2.2.2.1 y (by omega))
      rw [show q + (x - q - 1 + 1) = x by omega] at this
      rw [if_pos (Int32.not_le.mp (le_nI (by omega) (by omega) this))]
      exact ⟨σ, rfl, Fs.rf, l1, l2, l3, l4, by omega⟩
    · rw [if_neg (Int32.not_lt.mpr (Int32.le_refl _)), if_pos rfl, if_neg (Int32.not_lt.mpr (nI_le z (by omega)))]
      exact ⟨σ, rfl, Fs.rf, l1, l2, l3, l4, by omega⟩
theorem LAm.up {p' : Nat} (h : LAm σ M C L p la) (hp : p ≤ p') : LAm σ M C L p' la := by
  cases la with
  | none => exact h
  | some y => exact ⟨h.1, h.2.1, h.2.2.1, h.2.2.2.1, by have := h.2.2.2.2; omega⟩
theorem LAm.fs {S : Nat → Nat → Prop} (h : LAm σ M C L p la) (hF : Fs S σ τ) (hS : ∀ j, (j = 15 ∨ j = 16) → ¬ S M j) : LAm τ M C L p la := by
  cases la with
  | none => exact (hF.1 _ _ (hS _ (Or.inl rfl))).trans h
  | some y => exact ⟨(hF.1 _ _ (hS _ (Or.inl rfl))).trans h.1, (hF.1 _ _ (hS _ (Or.inr rfl))).trans h.2.1, h.2.2⟩
theorem ML.n15 {S : Nat → Nat → Prop} (h : ML σ M C L S0 B0 p s b) (hF : Fs S σ τ) (hS : ∀ k j, S k j → k = M ∧ (j = 15 ∨ j = 16) ∨ M + 8 ≤ k ∧ k ≤ M + 24) : ML τ M C L S0 B0 p s b := by
  obtain ⟨h1, h2, h3, h4, h5, h6⟩ := h
  have e : ∀ j, j ≠ 15 → j ≠ 16 → τ.1 M j = σ.1 M j := fun j a1 a2 => hF.1 _ _ (fun z => by have := hS _ _ z; omega)
  exact ⟨⟨h1.1.fs hF (fun k j a1 a2 z => by have := hS _ _ z; omega), (e _ (by omega) (by omega)).trans h1.2.1, h1.2.2.1, h1.2.2.2.1, (e _ (by omega) (by omega)).trans h1.2.2.2.2⟩, (e _ (by omega) (by omega)).trans h2, (e _ (by omega) (by omega)).trans h3, h4, h5, (e _ (by omega) (by omega)).trans h6.1, h6.2⟩
/-- a number within its bounds, by the model -/
theorem m_bound (hL : L ≤ 2000) (h : ML σ M C L S0 B0 p s b) (hl : LAm σ M C L p la) {m : Nat} (hm : m < 10000) : ∃ r τ, fX7_bounded M 0 (nI m) σ = some (r, τ) ∧ Fs (fun k j => k = M ∧ (j = 11 ∨ j = 13 ∨ j = 14 ∨ j = 15 ∨ j = 16)) σ τ ∧ (match tkS (kdT C L) 21 p with
    | .error (e, q) => MF τ M C L e q
    | .ok q => r = nI (vlV C L p) ∧ ML τ M C L S0 B0 q s b ∧ LAm τ M C L q (nt la (decide (m < vlV C L p)) 5 p)) := by
  have h1 := h.1
  have hp := h1.2.2.1
  unfold fX7_bounded jX7_bounded_15 tkS
  rw [h1.2.2.2.2, if_neg (by decide), show fX7_is M 2 σ = some (if kdT C L p = 21 then 1 else 0, σ) from m_is h1 (k := 21) (by omega), Option.bind_some]
  dsimp only
  by_cases q : kdT C L p = 21
  · have vl := vlV_le q
    rw [if_pos q, if_neg one0, if_pos q, h1.2.1]
    simp (disch := omega) only [vif, nI_clamp]
    rw [h1.en.2.2.1 q, show nI (vlT C L (poT C L p)) = nI (vlV C L p) from rfl, if_neg (Int32.not_lt.mpr (nI_n1 (by omega)))]
    -- on by a token, from a state with the fault noted or not
    have fin : ∀ (τ0 : Sg) (la' : Option (Nat × Nat)), Fs (fun k j => k = M ∧ (j = 15 ∨ j = 16)) σ τ0 → LAm τ0 M C L (p + 1) la' → ∃ r τ, jX7_bounded_51 M 0 (nI m) (nI (vlV C L p)) τ0 = some (r, τ) ∧ Fs (fun k j => k = M ∧ (j = 11 ∨ j = 13 ∨ j = 14 ∨ j = 15 ∨ j = 16)) σ τ ∧ (match (if p < 400 then (.ok (p + 1) : Except (Nat × Nat) Nat) else .error (2, p)) with
    | .error (e, q) => MF τ M C L e q
    | .ok q => r = nI (vlV C L p) ∧ ML τ M C L S0 B0 q s b ∧ LAm τ M C L q la') := by
      intro τ0 la' hF0 hl0
      have h0 := h.n15 hF0 (fun k j q => Or.inl q)
      unfold jX7_bounded_51
      rcases m_goesOn h0.1 (by omega) with ⟨g1, g2, g3⟩ | ⟨g1, τ, g2, g3, g4⟩
      · rw [g2, if_pos g1]
        have hF1 : Fs (fun k j => k = M ∧ j = 11) τ0 (wI τ0 M 11 (nI (p + 1))) := Fs.rf.wI ⟨rfl, rfl⟩
        refine ⟨_, _, rfl, (hF0.mo (fun k j q => by omega)).tr (hF1.mo (fun k j q => by omega)), rfl, ⟨g3, (hF1.1 _ _ (by omega)).trans h0.2.1, (hF1.1 _ _ (by omega)).trans h0.2.2.1, by have := h0.2.2.2.1; omega, h0.2.2.2.2.1, (hF1.1 _ _ (by omega)).trans h0.2.2.2.2.2.1, h0.2.2.2.2.2.2⟩, hl0.fs hF1 (fun j a z => by omega)⟩
      · rw [g2, if_neg (by omega)]
        exact ⟨_, τ, rfl, (hF0.mo (fun k j q => by omega)).tr (g3.mo (fun k j q => by omega)), by rw [g1] at g4 ⊢; exact g4⟩
    by_cases z : vlV C L p ≤ m
    · rw [if_pos (nI_le z (by omega)), decide_eq_false (by omega), nt_f]
      exact fin σ la Fs.rf (hl.up (by omega))
    · rw [if_neg (le_nI (by omega) (by omega) (by omega)), decide_eq_true (by omega)]
      unfold jX7_bounded_42
      obtain ⟨τ0, a1, a2, a3⟩ := m_wrong hL h1 hl (k := 5) (x := p) (p' := p + 1) (by omega) (Nat.le_refl _) (by omega) (fun k' q' e => by rw [e] at hl; exact Or.inl hl.2.2.2.2)
      have a1 : fX7_wrong M 5 (nI p) σ = some τ0 := a1
      rw [h1.2.1, a1, Option.bind_some]
      exact fin τ0 _ a2 a3
  · rw [if_neg q, if_pos rfl, if_neg q]
    obtain ⟨τ, a1, a2, a3⟩ := m_fail h1 (k := 1) (Or.inl rfl)
    have a1 : fX7_fail M 1 σ = some τ := a1
    rw [a1]
    exact ⟨_, τ, rfl, a2.mo (fun k j q => by omega), a3⟩
/-- a house known by its name, by the model -/
theorem m_known (hL : L ≤ 2000) (h : ML σ M C L S0 B0 p s b) (hl : LAm σ M C L p la) {n : Nat} {nm : Nat → Nat} (hn : n ≤ 8) (h20 : σ.1 M 20 = nI n) (hN : ∀ h, h < n → σ.2.1 (M + 8) h = lN (nm h) ∧ nm h < 2 ^ 63) : ∃ r τ, fX7_known M σ = some (r, τ) ∧ Fs (fun k j => k = M ∧ (j = 11 ∨ j = 13 ∨ j = 14 ∨ j = 15 ∨ j = 16)) σ τ ∧ (match tkS (kdT C L) 20 p with
    | .error (e, q) => MF τ M C L e q ∧ r = -1
    | .ok q => r = hoI nm n (vlV C L p) ∧ ML τ M C L S0 B0 q s b ∧ LAm τ M C L q (nt la (decide (hoI nm n (vlV C L p) = -1)) 4 p)) := by
  have hp := h.1.2.2.1
  obtain ⟨τ1, a1, a2, a3⟩ := h.mu (k := 20) (by omega)
  have a1 : fX7_must M 1 σ = some τ1 := a1
  unfold fX7_known
  dsimp only
  rw [h.1.2.1, a1, Option.bind_some]
  cases hq : tkS (kdT C L) 20 p with
  | error e =>
    obtain ⟨e, q⟩ := e
    rw [hq] at a3
    rw [if_neg a3.n.2]
    exact ⟨-1, τ1, rfl, a2.mo (fun k j q => by omega), a3, rfl⟩
  | ok q =>
    rw [hq] at a3
    obtain ⟨e1, L1⟩ := a3
    have hk := (tkS_l hq).2.2
    have e20 : τ1.1 M 20 = nI n := (a2.1 _ _ (by omega)).trans h20
    have eN : ∀ h, h < n → τ1.2.1 (M + 8) h = lN (nm h) ∧ nm h < 2 ^ 63 := fun h hh => by rw [a2.2]; exact hN h hh
    have e6 : τ1.2.1 (M + 6) p = lN (vlV C L p) := by rw [a2.2]; exact h.1.en.2.2.2 hk
    have r := fn_run (σ := τ1) (f := fun st : Int32 × Sg => bX7_known_21 M (nI p) st.1 st.2) (fun h => decide (nm h = vlV C L p)) n n (Nat.le_refl _) (fun k hk' => by
      show bX7_known_21 M (nI p) (nI k) τ1 = _
      unfold bX7_known_21
      rw [e20, if_neg (le_nI (by omega) (by omega) hk')]
      simp (disch := omega) only [vif, nI_clamp]
      rw [(eN k hk').1, e6, nI_s]
      by_cases z : nm k = vlV C L p
      · rw [if_pos ((lg0 _ _).mpr (by rw [z])), if_pos (decide_eq_true z)]
      · rw [if_neg (fun y => z ((lN_ij (eN k hk').2 (vlV_63 hk)).mp ((lg0 _ _).mp y))), if_neg (by rw [decide_eq_false z]; decide)]) (by
      show bX7_known_21 M (nI p) (nI n) τ1 = _
      unfold bX7_known_21
      rw [e20, if_pos (Int32.le_refl _)]) n 0 (by omega)
    have r : lp (fun st : Int32 × Sg => bX7_known_21 M (nI p) st.1 st.2) (0, τ1) = _ := r
    rw [L1.1.2.2.2.2, if_pos (by decide), r, Option.bind_some]
    have hl1 := (hl.fs a2 (fun j y z => by omega)).up (p' := q) (by omega)
    by_cases z : fnG (fun h => decide (nm h = vlV C L p)) n n 0 < n
    · have ho : hoI nm n (vlV C L p) = nI (fnG (fun h => decide (nm h = vlV C L p)) n n 0) := if_pos z
      have hne : ¬ hoI nm n (vlV C L p) = -1 := by
        rw [ho]
        intro y
        have : (0 : Int32) ≤ nI (fnG (fun h => decide (nm h = vlV C L p)) n n 0) := nI_n1 (by omega)
        rw [y] at this
        exact absurd this (by decide)
      rw [if_pos z]
      refine ⟨_, τ1, rfl, a2.mo (fun k j q => by omega), ho.symm, L1, ?_⟩
      rw [decide_eq_false hne, nt_f]; exact hl1
    · have ho : hoI nm n (vlV C L p) = -1 := if_neg z
      rw [if_neg z]
      obtain ⟨τ2, b1, b2, b3⟩ := m_wrong hL L1.1 hl1 (k := 4) (x := p) (p' := q) (by omega) (by omega) (by omega) (fun k' q' e => by rw [e] at hl; exact Or.inl hl.2.2.2.2)
      have b1 : fX7_wrong M 4 (nI p) τ1 = some τ2 := b1
      refine ⟨-1, τ2, ?_, (a2.mo (fun k j q => by omega)).tr (b2.mo (fun k j q => by omega)), ho.symm, L1.n15 b2 (fun k j q => Or.inl q), ?_⟩
      · show ((fX7_wrong M 4 (nI p) τ1).bind (fun σ18 => some ((-1 : Int32), σ18))) = _
        rw [b1]; rfl
      · rw [decide_eq_true ho]; exact b3
theorem known_F {k q : Nat} (h : MF σ M C L k q) : fX7_known M σ = some (-1, σ) := by
  unfold fX7_known
  dsimp only
  rw [must_F h, Option.bind_some, if_neg h.n.2]
theorem bound_F {k q : Nat} (h : MF σ M C L k q) (m : Int32) : fX7_bounded M 0 m σ = some (0, σ) := by
  unfold fX7_bounded jX7_bounded_15
  rw [if_pos (Int32.not_le.mp h.n.2), m_failF h.n.2]; rfl
end NOTE
