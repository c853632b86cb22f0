/-! the class reads a text -/
def X0 : TS := mkT 0 0 0 (fun _ => 0) (fun _ => 0) (fun _ => 0) (fun _ => 0) (fun _ => 0) (fun _ => 0) (fun _ => false) (fun _ => []) dfl none
theorem dfl_w {k : Nat} (hk : k < 4) : lawW [] (dfl k) := by
  rcases (show k = 0 ∨ k = 1 ∨ k = 2 ∨ k = 3 by omega) with rfl | rfl | rfl | rfl
  · exact ⟨by omega, Or.inl ⟨rfl, by omega, rfl⟩⟩
  · exact ⟨by omega, Or.inr (Or.inl ⟨rfl, by omega, by omega, rfl⟩)⟩
  · exact ⟨by omega, Or.inr (Or.inl ⟨rfl, by omega, by omega, rfl⟩)⟩
  · exact ⟨by omega, Or.inl ⟨rfl, by omega, rfl⟩⟩
theorem WX0 : WX X0 := ⟨Nat.zero_le _, Nat.zero_le _, fun _ hw => (by cases hw), fun k hk => dfl_w hk, fun _ => ⟨fun h hh => absurd hh (Nat.not_lt_zero _), fun e he => absurd he (Nat.not_lt_zero _)⟩⟩
section CTEXT
variable {a t L : Nat} {σ τ : Sg} {C : Nat → Nat}
theorem put_v {s : Nat} (hs : s < 408) (h : σ.1 a 1 = nI s) (k v : Int32) : ∃ τ, fX0_put a k v σ = some (nI s, τ) ∧ Fs (fun x j => x = a + 1 ∧ j = s ∨ x = a ∧ j = 1) σ τ ∧ τ.1 (a + 1) s = (k ||| (v <<< ((4 : Int32) &&& 31))) ∧ τ.1 a 1 = nI (s + 1) := by
  unfold fX0_put
  rw [h, if_neg (show ¬ (408 : Int32) ≤ nI s from le_nI (a := 408) (by omega) (by omega) hs)]
  simp (disch := omega) only [vif, nI_clamp]
  refine ⟨_, rfl, (Fs.rf.wI (by omega)).wI (by omega), ?_, ?_⟩
  · rw [wI_n (by omega), wI_k, upd_k]
  · rw [wI_k, upd_k, wI_n (by omega), h, nI_s]
theorem pd_v {s k : Nat} (hk : k < 4) (hs : s + 2 ≤ 408) (h : σ.1 a 1 = nI s) (kd x : Int32) : ∃ τ, fX0_putDefault a (nI k) kd x σ = some τ ∧ Fs (fun y j => y = a + 2 ∧ j = k ∨ y = a + 1 ∧ (j = s ∨ j = s + 1) ∨ y = a ∧ j = 1) σ τ ∧ τ.1 (a + 2) k = nI s ∧ τ.1 (a + 1) s = (kd ||| (x <<< ((4 : Int32) &&& 31))) ∧ τ.1 (a + 1) (s + 1) = nI 7 ∧ τ.1 a 1 = nI (s + 2) := by
  unfold fX0_putDefault
  simp (disch := omega) only [vif, nI_clamp]
  have hF1 : Fs (fun y j => y = a + 2 ∧ j = k) σ (wI σ (a + 2) k (σ.1 a 1)) := Fs.rf.wI ⟨rfl, rfl⟩
  have v1 : (wI σ (a + 2) k (σ.1 a 1)).1 (a + 2) k = nI s := by rw [wI_k, upd_k, h]
  generalize wI σ (a + 2) k (σ.1 a 1) = σ1 at hF1 v1
  obtain ⟨σ2, a1, a2, a3, a4⟩ := put_v (by omega) ((hF1.1 a 1 (by omega)).trans h) kd x
  rw [a1, Option.bind_some]
  dsimp only
  obtain ⟨σ3, b1, b2, b3, b4⟩ := put_v (by omega) a4 7 0
  rw [b1, Option.bind_some]
  refine ⟨σ3, rfl, ((hF1.mo (fun y j q => by omega)).tr (a2.mo (fun y j q => by omega))).tr (b2.mo (fun y j q => by omega)), ?_, ?_, ?_, b4⟩
  · rw [b2.1 _ _ (by omega), a2.1 _ _ (by omega)]; exact v1
  · rw [b2.1 _ _ (by omega)]; exact a3
  · rw [b3]; decide
theorem clear_v : ∃ τ, fX3_clear t σ = some τ ∧ Fs (fun y j => y = t ∧ j ≤ 3 ∨ y = t + 7 ∧ j = 1 ∨ y = t + 8 ∨ y = t + 9) σ τ ∧ (∀ j, j ≤ 3 → τ.1 t j = 0) ∧ τ.1 (t + 7) 1 = nI 8 ∧ ∀ k, k < 4 → τ.1 (t + 9) k = nI (2 * k) ∧ lawC (τ.1 (t + 8)) (2 * k) [] (dfl k) := by
  unfold fX3_clear fX0_clear
  dsimp only
  have hF1 : Fs (fun y j => y = t ∧ j ≤ 3) σ (wI (wI (wI (wI σ t 0 0) t 1 0) t 2 0) t 3 0) := (((Fs.rf.wI (by omega)).wI (by omega)).wI (by omega)).wI (by omega)
  have v1 : ∀ j, j ≤ 3 → (wI (wI (wI (wI σ t 0 0) t 1 0) t 2 0) t 3 0).1 t j = 0 := fun j hj => by
    rcases (show j = 0 ∨ j = 1 ∨ j = 2 ∨ j = 3 by omega) with rfl | rfl | rfl | rfl <;> simp [wI_a]
  generalize wI (wI (wI (wI σ t 0 0) t 1 0) t 2 0) t 3 0 = σ1 at hF1 v1
  have hF2 : Fs (fun y j => y = t + 7 ∧ j = 1) σ1 (wI σ1 (t + 7) 1 0) := Fs.rf.wI ⟨rfl, rfl⟩
  have v2 : (wI σ1 (t + 7) 1 0).1 (t + 7) 1 = nI 0 := by rw [wI_k, upd_k]; rfl
  generalize wI σ1 (t + 7) 1 0 = σ2 at hF2 v2
  obtain ⟨σ3, a1, a2, a3, a4, a5, a6⟩ := pd_v (k := 0) (by omega) (by omega) v2 0 1
  have a1 : fX0_putDefault (t + 7) 0 0 1 σ2 = some σ3 := a1
  obtain ⟨σ4, b1, b2, b3, b4, b5, b6⟩ := pd_v (k := 1) (by omega) (by omega) a6 1 2
  have b1 : fX0_putDefault (t + 7) 1 1 2 σ3 = some σ4 := b1
  obtain ⟨σ5, c1, c2, c3, c4, c5, c6⟩ := pd_v (k := 2) (by omega) (by omega) b6 1 6
  have c1 : fX0_putDefault (t + 7) 2 1 6 σ4 = some σ5 := c1
  obtain ⟨σ6, d1, d2, d3, d4, d5, d6⟩ := pd_v (k := 3) (by omega) (by omega) c6 0 0
  have d1 : fX0_putDefault (t + 7) 3 0 0 σ5 = some σ6 := d1
  rw [a1, Option.bind_some, b1, Option.bind_some, c1, Option.bind_some, d1, Option.bind_some, Option.bind_some]
  refine ⟨σ6, rfl, (((((hF1.mo (fun y j q => by omega)).tr (hF2.mo (fun y j q => by omega))).tr (a2.mo (fun y j q => by omega))).tr (b2.mo (fun y j q => by omega))).tr (c2.mo (fun y j q => by omega))).tr (d2.mo (fun y j q => by omega)), fun j hj => ?_, d6, fun k hk => ?_⟩
  · rw [d2.1 _ _ (by omega), c2.1 _ _ (by omega), b2.1 _ _ (by omega), a2.1 _ _ (by omega), hF2.1 _ _ (by omega)]; exact v1 j hj
  · rcases (show k = 0 ∨ k = 1 ∨ k = 2 ∨ k = 3 by omega) with rfl | rfl | rfl | rfl
    · refine ⟨?_, ⟨?_, trivial⟩, ?_⟩
      · rw [d2.1 _ _ (by omega), c2.1 _ _ (by omega), b2.1 _ _ (by omega)]; exact a3
      · rw [d2.1 _ _ (by omega), c2.1 _ _ (by omega), b2.1 _ _ (by omega)]; exact a4.trans (by decide)
      · rw [show 2 * 0 + (dfl 0).length = 1 from rfl, d2.1 _ _ (by omega), c2.1 _ _ (by omega), b2.1 _ _ (by omega)]; exact a5
    · refine ⟨?_, ⟨?_, trivial⟩, ?_⟩
      · rw [d2.1 _ _ (by omega), c2.1 _ _ (by omega)]; exact b3
      · rw [d2.1 _ _ (by omega), c2.1 _ _ (by omega)]; exact b4.trans (by decide)
      · rw [show 2 * 1 + (dfl 1).length = 3 from rfl, d2.1 _ _ (by omega), c2.1 _ _ (by omega)]; exact b5
    · refine ⟨?_, ⟨?_, trivial⟩, ?_⟩
      · rw [d2.1 _ _ (by omega)]; exact c3
      · rw [d2.1 _ _ (by omega)]; exact c4.trans (by decide)
      · rw [show 2 * 2 + (dfl 2).length = 5 from rfl, d2.1 _ _ (by omega)]; exact c5
    · refine ⟨d3, ⟨d4.trans (by decide), trivial⟩, ?_⟩
      rw [show 2 * 3 + (dfl 3).length = 7 from rfl]; exact d5
/-- what reading writes, by the class -/
def SCt (t : Nat) : Nat → Nat → Prop := fun k j => k = 26 ∧ (1 ≤ j ∧ j ≤ 6) ∨ 27 ≤ k ∧ k ≤ 29 ∨ t ≤ k ∧ k ≤ t + 9
def FT (t : Nat) (σ τ : Sg) : Prop := (∀ k j, ¬ SCt t k j → τ.1 k j = σ.1 k j) ∧ (∀ k, ¬ (k = 30 ∨ k = t + 1) → τ.2.1 k = σ.2.1 k) ∧ (∀ k j, ¬ (k = 26 ∧ j = 2) → τ.2.2.1 k j = σ.2.2.1 k j) ∧ τ.2.2.2 = σ.2.2.2
theorem FT.tr {υ : Sg} (h : FT t σ τ) (h2 : FT t τ υ) : FT t σ υ := ⟨fun k j hk => (h2.1 k j hk).trans (h.1 k j hk), fun k hk => (h2.2.1 k hk).trans (h.2.1 k hk), fun k j hk => (h2.2.2.1 k j hk).trans (h.2.2.1 k j hk), h2.2.2.2.trans h.2.2.2⟩
theorem FJ.ft {S : Nat → Nat → Prop} {J : Nat → Prop} (h : FJ S J σ τ) (hS : ∀ k j, S k j → SCt t k j) (hJ : ∀ k, J k → k = 30 ∨ k = t + 1) : FT t σ τ := ⟨fun k j hk => h.1 k j (fun q => hk (hS k j q)), fun k hk => h.2.1 k (fun q => hk (hJ k q)), fun _ _ _ => by rw [h.2.2], by rw [h.2.2]⟩
/-- the class's text, told to its end -/
def CTZ (σ : Sg) (t : Nat) (Y : TS) : Prop := CT σ t Y.n Y.m Y.bo Y.dr Y.lb Y.lf ∧ σ.1 t 3 = nI Y.sd ∧ (∀ h, h < Y.n → σ.1 (t + 2) h = nI (Y.go h) ∧ σ.1 (t + 3) h = nI (Y.co h) ∧ σ.1 (t + 4) h = nI (Y.tp h)) ∧ ∀ e, e < Y.m → σ.1 (t + 6) e = Y.bx e
theorem c_text (ht : t = 2 ∨ t = 14) (h : TC σ L C) : ∃ r τ, fX1_readText 26 1 (nI L) t σ = some (r, τ) ∧ FT t σ τ ∧ (match tellsS (kdT C L) (vlV C L) 401 X0 0 with
    | .error (e, q) => (e = 1 ∨ e = 2) → r = nI e ∧ τ.1 26 4 = nI (poT C L q)
    | .ok Y => match Y.la with
      | some (k, q) => r = nI k ∧ τ.1 26 4 = nI (poT C L q)
      | none => r = 0 ∧ τ.1 26 4 = -1 ∧ CTZ τ t Y) := by
  obtain ⟨σ1, a1, a2, a3⟩ := c_scan h
  unfold fX1_readText
  rw [show 26 + 1 = 27 from rfl, a1, Option.bind_some]
  dsimp only
  have e2 : (wT (wI σ1 26 1 0) 26 2 t).2.2.1 26 2 = t := by
    show va_up σ1.2.2.1 26 (va_up (σ1.2.2.1 26) 2 t) 26 2 = t
    simp [va_up]
  rw [e2]
  have F2 : FT t σ (wT (wI σ1 26 1 0) 26 2 t) := by
    refine (a2.ft (t := t) (fun k j q => by unfold ST at q; unfold SCt; omega) (fun k q => Or.inl q)).tr ⟨fun k j hk => ?_, fun _ _ => rfl, fun k j hk => ?_, rfl⟩
    · show (wI σ1 26 1 0).1 k j = _
      rw [wI_a, if_neg (fun q => hk (by unfold SCt; omega))]
    · show va_up σ1.2.2.1 26 (va_up (σ1.2.2.1 26) 2 t) k j = _
      by_cases q : k = 26
      · subst q
        have : j ≠ 2 := fun z => hk ⟨rfl, z⟩
        simp [va_up, this]
      · rw [va_up_ne _ _ q]
  have g1 : (wT (wI σ1 26 1 0) 26 2 t).1 26 1 = nI 0 := by
    show (wI σ1 26 1 0).1 26 1 = _
    rw [wI_k, upd_k]; rfl
  have gT : TKc (wT (wI σ1 26 1 0) 26 2 t) C L := by
    obtain ⟨z, z1, z2, z3⟩ := a3
    have e : ∀ k j, k ≠ 26 → (wT (wI σ1 26 1 0) 26 2 t).1 k j = σ1.1 k j := fun k j hk => by
      show (wI σ1 26 1 0).1 k j = _
      rw [wI_n hk]
    refine ⟨z, z1, (e _ _ (by omega)).trans z2, fun j hj ha => ⟨(z3 j hj ha).1, (e _ _ (by omega)).trans (z3 j hj ha).2.1, (e _ _ (by omega)).trans (z3 j hj ha).2.2.1, (z3 j hj ha).2.2.2⟩⟩
  generalize wT (wI σ1 26 1 0) 26 2 t = σ2 at e2 F2 g1 gT
  obtain ⟨σ3, b1, b2, b3, b4, b5⟩ := clear_v (t := t) (σ := σ2)
  rw [b1, Option.bind_some]
  have F3 : FT t σ σ3 := F2.tr (b2.fj.ft (J := fun _ => False) (fun k j q => by unfold SCt; omega) (fun k q => q.elim))
  have hF4 : Fs (fun y j => y = 26 ∧ 3 ≤ j ∧ j ≤ 6) σ3 (wI (wI (wI (wI σ3 26 3 0) 26 4 (-1)) 26 5 0) 26 6 (-1)) := (((Fs.rf.wI (by omega)).wI (by omega)).wI (by omega)).wI (by omega)
  have v3 : (wI (wI (wI (wI σ3 26 3 0) 26 4 (-1)) 26 5 0) 26 6 (-1)).1 26 3 = 0 := by simp [wI_a]
  have v5 : (wI (wI (wI (wI σ3 26 3 0) 26 4 (-1)) 26 5 0) 26 6 (-1)).1 26 5 = 0 := by simp [wI_a]
  have v6 : (wI (wI (wI (wI σ3 26 3 0) 26 4 (-1)) 26 5 0) 26 6 (-1)).1 26 6 = -1 := by simp [wI_a]
  generalize wI (wI (wI (wI σ3 26 3 0) 26 4 (-1)) 26 5 0) 26 6 (-1) = σ4 at hF4 v3 v5 v6
  have F4 : FT t σ σ4 := F3.tr (hF4.fj.ft (J := fun _ => False) (fun k j q => by unfold SCt; omega) (fun k q => q.elim))
  have bF : Fs (fun y j => y = t ∧ j ≤ 3 ∨ y = t + 7 ∧ j = 1 ∨ y = t + 8 ∨ y = t + 9 ∨ y = 26 ∧ 3 ≤ j) σ2 σ4 := (b2.mo (fun y j q => by omega)).tr (hF4.mo (fun y j q => by omega))
  have T4 : CTX σ4 t C L X0 0 8 := by
    refine ⟨⟨gT.fs bF (fun k j z1 z2 q => by omega), (bF.1 _ _ (by omega)).trans g1, by rw [bF.2]; exact e2, by omega, fun j hj => by omega, (hF4.1 _ _ (by omega)).trans b4, by omega⟩, ⟨v5, v6⟩, v3, ⟨(hF4.1 _ _ (by omega)).trans (b3 0 (by omega)), Nat.zero_le _⟩, ⟨(hF4.1 _ _ (by omega)).trans (b3 1 (by omega)), Nat.zero_le _⟩, (hF4.1 _ _ (by omega)).trans (b3 2 (by omega)), (hF4.1 _ _ (by omega)).trans (b3 3 (by omega)), fun x hx => absurd hx (Nat.not_lt_zero _), fun x hx => absurd hx (Nat.not_lt_zero _), fun x hx => absurd hx (Nat.not_lt_zero _), fun k hk => ?_⟩
    obtain ⟨c1, c2⟩ := b5 k hk
    have hl : (dfl k).length = 1 := by
      rcases (show k = 0 ∨ k = 1 ∨ k = 2 ∨ k = 3 by omega) with rfl | rfl | rfl | rfl <;> rfl
    refine ⟨2 * k, (hF4.1 _ _ (by omega)).trans c1, fun c' hc' => ?_, ?_⟩
    · have : ∀ j, j < 8 → c' j = σ3.1 (t + 8) j := fun j hj => (hc' j hj).trans (hF4.1 _ _ (by omega))
      show segC c' (2 * k) (dfl k) ∧ c' (2 * k + (dfl k).length) = nI 7
      have c2 : segC (σ3.1 (t + 8)) (2 * k) (dfl k) ∧ σ3.1 (t + 8) (2 * k + (dfl k).length) = nI 7 := c2
      rw [hl] at c2 ⊢
      refine ⟨?_, (this _ (by omega)).trans c2.2⟩
      exact segC_c c2.1 (fun i y1 y2 => this i (by omega))
    · show 2 * k + (dfl k).length + 1 ≤ 8
      omega
  obtain ⟨σ5, c1, c2, c3⟩ := c_tells ht 1 (nI L) t 401 0 X0 0 8 σ4 T4 WX0 (Nat.le_refl _) (by omega)
  have c1 : lp (fun st : Int32 × Int32 × Sg => bX1_readText_52 26 1 (nI L) t st.1 st.2.1 st.2.2) (1, 0, σ4) = some σ5 := c1
  rw [c1, Option.bind_some]
  have F5 : FT t σ σ5 := F4.tr (c2.ft (fun k j q => by unfold SBt at q; unfold SCt; omega) (fun k q => Or.inr q))
  cases hq : tellsS (kdT C L) (vlV C L) 401 X0 0 with
  | error e =>
    obtain ⟨e, q⟩ := e
    rw [hq] at c3
    by_cases he : e = 1 ∨ e = 2
    · rw [c3.1, if_neg (show ¬ nI e = 0 from ne_nI (b := 0) (by omega) (by omega) (by omega))]
      exact ⟨_, σ5, rfl, F5, fun _ => ⟨rfl, c3.2⟩⟩
    · by_cases z : σ5.1 26 3 = 0
      · rw [if_pos z]
        refine ⟨_, _, rfl, F5.tr ?_, fun y => absurd y he⟩
        exact ((Fs.rf.wI (S := fun y j => y = 26 ∧ (j = 3 ∨ j = 4)) (by omega)).wI (by omega)).fj.ft (J := fun _ => False) (fun k j q => by unfold SCt; omega) (fun k q => q.elim)
      · rw [if_neg z]
        exact ⟨_, σ5, rfl, F5, fun y => absurd y he⟩
  | ok Y =>
    rw [hq] at c3
    obtain ⟨p', s', T5⟩ := c3
    have W5 := wx_tells 401 X0 0 WX0 Y hq
    obtain ⟨h1, h2, h3, h4, h5, h6, h7, h8, h9, h10, h11⟩ := T5
    rw [h3, if_pos rfl]
    have hF6 : Fs (fun y j => y = 26 ∧ (j = 3 ∨ j = 4)) σ5 (wI (wI σ5 26 3 (σ5.1 26 5)) 26 4 ((wI σ5 26 3 (σ5.1 26 5)).1 26 6)) := (Fs.rf.wI (by omega)).wI (by omega)
    have v63 : (wI (wI σ5 26 3 (σ5.1 26 5)) 26 4 ((wI σ5 26 3 (σ5.1 26 5)).1 26 6)).1 26 3 = σ5.1 26 5 := by simp [wI_a]
    have v64 : (wI (wI σ5 26 3 (σ5.1 26 5)) 26 4 ((wI σ5 26 3 (σ5.1 26 5)).1 26 6)).1 26 4 = σ5.1 26 6 := by simp [wI_a]
    generalize wI (wI σ5 26 3 (σ5.1 26 5)) 26 4 ((wI σ5 26 3 (σ5.1 26 5)).1 26 6) = σ6 at hF6 v63 v64
    refine ⟨_, σ6, rfl, F5.tr (hF6.fj.ft (J := fun _ => False) (fun k j q => by unfold SCt; omega) (fun k q => q.elim)), ?_⟩
    dsimp only
    rw [v63, v64]
    have e : ∀ k j, k ≠ 26 → σ6.1 k j = σ5.1 k j := fun k j hk => hF6.1 _ _ (fun z => hk z.1)
    cases hla : Y.la with
    | some x =>
      obtain ⟨k, q⟩ := x
      rw [hla] at h2
      exact ⟨h2.1, h2.2.1⟩
    | none =>
      rw [hla] at h2
      refine ⟨h2.1, h2.2, ⟨⟨h4.2, h5.2⟩, (e _ _ (by omega)).trans h4.1, (e _ _ (by omega)).trans h5.1, ?_, fun x hx => (e _ _ (by omega)).trans (h10 x hx).1, fun k hk => ⟨W5.2.2.2.1 k hk, ?_⟩⟩, (e _ _ (by omega)).trans h7, fun x hx => ?_, fun x hx => (e _ _ (by omega)).trans (h10 x hx).2⟩
      · rw [e _ _ (by omega), h6]
        congr 1
        refine mk8_c (fun i hi => ?_)
        cases hb : Y.bo i
        · rw [Bool.and_false]
        · rw [decide_eq_true (W5.2.2.1 i hb)]; rfl
      · obtain ⟨y, x1, x2, x3⟩ := h11 k hk
        refine ⟨y, s', (e _ _ (by omega)).trans x1, ?_, (e _ _ (by omega)).trans h1.2.2.2.2.2.1, x2 _ (fun j hj => e _ _ (by omega)), x3⟩
        have := h1.2.2.2.2.2.2
        have := h1.2.2.2.1
        omega
      · rw [e _ _ (by omega), e _ _ (by omega), e _ _ (by omega)]; exact h9 x hx
end CTEXT
