/-! an hour leaves all behind the row -/
section TAIL
variable {n m : Nat} {ρ : Nat → Int32} {bo : Nat → Bool} {dr : Nat → Int32} {lb : Nat → Br} {lf : Nat → Rp}
theorem cin_t {w x : Nat} (h : w < 8) (hx : 88 ≤ x) : (cin n m bo dr lb lf ρ w).2 x = ρ x := by
  unfold cin
  split
  · split
    · show cinR m dr ρ w _ x = ρ x
      unfold cinR
      split
      · rw [upd_n (by omega), upd_n (by omega), upd_n (by omega), upd_n (by omega), upd_n (by omega)]
      · rw [upd_n (by omega), upd_n (by omega), upd_n (by omega), upd_n (by omega)]
    · rfl
  · rfl
theorem lin1_t {x : Nat} (hx : 88 ≤ x) (hn : n ≤ 8) : ∀ (d i : Nat) (fl : Bool) (ρ : Nat → Int32), i + d ≤ n → (lin1 n m bo dr lb lf d i fl ρ).2 x = ρ x := by
  intro d
  induction d with
  | zero => intro i fl ρ _; rfl
  | succ d ih =>
    intro i fl ρ hi
    unfold lin1
    rw [ih (i + 1) _ _ (by omega), cin_t (by omega) hx]
theorem linR_t {x : Nat} (hx : 88 ≤ x) (hn : n ≤ 8) : ∀ (k : Nat) (ρ : Nat → Int32), linR n m bo dr lb lf k ρ x = ρ x := by
  intro k
  induction k with
  | zero => intro ρ; rfl
  | succ k ih =>
    intro ρ
    unfold linR
    have := lin1_t (m := m) (bo := bo) (dr := dr) (lb := lb) (lf := lf) hx hn n 0 false ρ (by omega)
    split
    · rw [ih, this]
    · exact this
theorem hourS_t {sd st lo : Int32} {x : Nat} (hx : 88 ≤ x) (hn : n ≤ 8) (hm : m ≤ 6) : hourS n m bo dr lb lf sd st lo ρ x = ρ x := by
  unfold hourS
  rw [upd_n (by omega), foldU_out (fun j ρ hj => waS_o (by omega) (by omega)), linR_t hx hn, foldU_out (fun j ρ hj => coS_o (by omega) (by omega)), foldU_out (fun j ρ hj => goS_o85 (by omega) (by omega))]
  split
  · rw [foldU_out (fun j ρ hj => spS_o (by omega) (by omega))]
  · rfl
theorem hIt_t {H : (Nat → Int32) → (Nat → Int32)} {x : Nat} (hH : ∀ ρ, H ρ x = ρ x) : ∀ k ρ, hIt H k ρ x = ρ x
  | 0, _ => rfl
  | k + 1, ρ => by show H (hIt H k ρ) x = ρ x; rw [hH, hIt_t hH k ρ]
end TAIL
/-! the two sides together -/
/-- what is used anew in each call -/
def SX (M : Nat) : Nat → Nat → Prop := fun k j => (40 ≤ k ∧ k ≤ 50) ∨ k = 12 ∨ k = 13 ∨ k = 24 ∨ k = 25 ∨ k = 54 ∨ k = M + 28 ∨ k = M + 29 ∨ k = M + 31 ∧ j < 88 ∨ k = M + 32 ∨ k = M + 34 ∨ k = M + 37 ∨ k = M ∧ (j = 46 ∨ 49 ≤ j ∧ j ≤ 51 ∨ 56 ≤ j ∧ j ≤ 60)
abbrev Fx (M : Nat) (σ τ : Sg) : Prop := Fc (SX M) 40 σ τ
/-- the ring at a stands for the row, and it goes on as told -/
def CE (σ : Sg) (a t n m : Nat) (sd : Int32) (ρ : Nat → Int32) : Prop := σ.2.2.1 a 0 = t ∧ CR σ a n m ρ ∧ RV n m ρ ∧ CM σ a sd 0 (-1) ρ
def RT (M t t' ℓ n m : Nat) (bo : Nat → Bool) (dr : Nat → Int32) (lb : Nat → Br) (lf : Nat → Rp) (sd : Int32) (σ : Sg) : Prop :=
  442 ≤ M ∧ (t = 2 ∧ t' = 14 ∨ t = 14 ∧ t' = 2) ∧ σ.2.2.1 0 3 = t ∧ σ.2.2.1 0 4 = t' ∧ CT σ t n m bo dr lb lf ∧ MS σ M ℓ n m bo dr lb lf ∧ σ.1 t 3 = sd ∧ σ.1 (M + 17) ℓ = sd ∧ ∀ e, e < m → ∃ b, b < n ∧ dr e = nI b
def RH (M t n m : Nat) (sd : Int32) (σ : Sg) : Prop := ∃ u pn, (u ≤ 40 ∧ pn < 40) ∧ σ.1 0 11 = nI u ∧ σ.1 M 53 = nI u ∧ σ.1 0 10 = nI pn ∧ ∀ i, i < u → CE σ (55 + 9 * ((pn + 40 - u + i) % 40)) t n m sd (fun x => σ.1 (M + 33) (88 * i + x))
def RK (M t n m : Nat) (sd : Int32) (σ : Sg) : Prop := ∃ hs : Nat → Bool, σ.1 0 13 = nI (mk8 hs) ∧ (∀ s, 3 ≤ s → hs s = false) ∧ ∀ s, s < 3 → σ.1 (M + 38) s = nI (b2n (hs s)) ∧ (hs s = true → CE σ (415 + 9 * s) t n m sd (fun x => σ.1 (M + 39) (88 * s + x)))
def RO (M n : Nat) (σ : Sg) : Prop := ∃ k, k ≤ 20 ∧ σ.1 0 16 = nI k ∧ σ.1 M 61 = nI k ∧ ∀ i, i < k → (∃ h, h < n ∧ σ.1 53 i = nI h ∧ σ.1 (M + 35) i = nI h) ∧ ∃ b, σ.1 (M + 36) i = nI (b2n b) ∧ ius (σ.1 0 15) (nI i) &&& 1 = nI (b2n b)
def RP (M : Nat) (σ : Sg) : Prop := (∃ L, L ≤ 2000 ∧ σ.1 0 1 = nI L ∧ σ.1 M 2 = nI L ∧ ∀ i, i < L → σ.1 1 i = σ.1 (M + 1) i ∧ ∃ b : Int8, σ.1 1 i = b.toInt32) ∧ σ.1 0 2 = σ.1 M 17
def RF (M : Nat) (kw : Nat → Int64) (σ : Sg) : Prop := (∀ i, i < 40 → σ.2.2.1 51 i = 55 + 9 * i) ∧ (∀ s, s < 3 → σ.2.2.1 52 s = 415 + 9 * s) ∧ ∀ k, k < 20 → σ.2.1 (M + 7) k = kw k
def RLp (M t t' ℓ n m : Nat) (bo : Nat → Bool) (dr : Nat → Int32) (lb : Nat → Br) (lf : Nat → Rp) (sd : Int32) (kw : Nat → Int64) (σ : Sg) : Prop :=
  RT M t t' ℓ n m bo dr lb lf sd σ ∧ CE σ 31 t n m sd (σ.1 (M + 30)) ∧ RH M t n m sd σ ∧ RK M t n m sd σ ∧ RO M n σ ∧ RP M σ ∧ RF M kw σ
section REL
variable {M t t' ℓ n m : Nat} {bo : Nat → Bool} {dr : Nat → Int32} {lb : Nat → Br} {lf : Nat → Rp} {sd : Int32} {kw : Nat → Int64} {σ τ : Sg} {ρ : Nat → Int32}
theorem CE.fc {S : Nat → Nat → Prop} {a r : Nat} (h : CE σ a t n m sd ρ) (hF : Fc S r σ τ) (ha : a ≠ r) (hS : ∀ x j, a ≤ x → x ≤ a + 8 → ¬ S x j) : CE τ a t n m sd ρ := by
  obtain ⟨h1, ⟨⟨c1, c2, c3, c4, c5, c6, c7⟩, ch, ce⟩, h3, m1, m2, m3, m4⟩ := h
  have e : ∀ x j, a ≤ x → x ≤ a + 8 → τ.1 x j = σ.1 x j := fun x j a1 a2 => hF.1 x j (hS x j a1 a2)
  refine ⟨(hF.2.2.1 a 0 (fun q => ha q.1)).trans h1, ⟨⟨?_, ?_, ?_, ?_, ?_, ?_, ?_⟩, fun w hw => ?_, fun x hx => ?_⟩, h3, ?_, ?_, ?_, ?_⟩
  any_goals (rw [e _ _ (by omega) (by omega)]; assumption)
  · have := ch w hw
    rw [e _ _ (by omega) (by omega), e _ _ (by omega) (by omega), e _ _ (by omega) (by omega), e _ _ (by omega) (by omega), e _ _ (by omega) (by omega), e _ _ (by omega) (by omega)]
    exact this
  · have := ce x hx
    rw [e _ _ (by omega) (by omega), e _ _ (by omega) (by omega)]
    exact this
theorem CT.fc {S : Nat → Nat → Prop} {r : Nat} (h : CT σ t n m bo dr lb lf) (hF : Fc S r σ τ) (hS : ∀ x j, t ≤ x → x ≤ t + 9 → ¬ S x j) : CT τ t n m bo dr lb lf :=
  (h.fs (S := S) (τ := (τ.1, σ.2)) ⟨hF.1, rfl⟩ hS)
theorem MS.fc {S : Nat → Nat → Prop} {r : Nat} (h : MS σ M ℓ n m bo dr lb lf) (hF : Fc S r σ τ) (hS : ∀ k j, ¬ SQ M k j → (k = M ∧ j = 18 ∨ M + 9 ≤ k ∧ k ≤ M + 26) → ¬ S k j) : MS τ M ℓ n m bo dr lb lf := by
  have hl := h.1.1
  have hF : Fs S σ (τ.1, σ.2) := ⟨hF.1, rfl⟩
  have : MS (τ.1, σ.2) M ℓ n m bo dr lb lf := by
    refine ⟨h.1.fs hF (hS _ _ (fun q => by unfold SQ at q; omega) (by omega)) (hS _ _ (fun q => by unfold SQ at q; omega) (by omega)) (hS _ _ (fun q => by unfold SQ at q; omega) (by omega)), fun e he => ?_, fun w hw => ?_, fun k hk => (h.2.2.2 k hk).fs hF (fun x j a1 a2 => hS _ _ (fun q => by unfold SQ at q; omega) (by omega))⟩
    · rw [hF.1 _ _ (hS _ _ (fun q => by unfold SQ at q; omega) (by omega))]; exact h.2.1 e he
    · rw [hF.1 _ _ (hS _ _ (fun q => by unfold SQ at q; omega) (by omega))]; exact h.2.2.1 w hw
  refine ⟨this.1, this.2.1, this.2.2.1, fun k hk => ?_⟩
  obtain ⟨hw, ⟨b, last, a1, a2, a3, a4⟩ | r⟩ := this.2.2.2 k hk
  · exact ⟨hw, Or.inl ⟨b, last, a1, a2, a3, fun υ u1 u2 => a4 υ u1 u2⟩⟩
  · exact ⟨hw, Or.inr r⟩
theorem RLp.fx (h : RLp M t t' ℓ n m bo dr lb lf sd kw σ) (hF : Fx M σ τ) : RLp M t t' ℓ n m bo dr lb lf sd kw τ := by
  obtain ⟨⟨hM, ht, ht1, ht2, ht3, ht4, ht5, ht6, ht7⟩, hN, ⟨u, pn, hu, u1, u2, u3, u4⟩, ⟨hs, s1, s2, s3⟩, ⟨k, k1, k2, k3, k4⟩, ⟨⟨L, l1, l2, l3, l4⟩, p1⟩, f1, f2, f3⟩ := h
  have hl := ht4.1.1
  have eT : ∀ k j, k ≠ 40 → τ.2.2.1 k j = σ.2.2.1 k j := fun k j hk => hF.2.2.1 k j (fun q => hk q.1)
  have e : ∀ k j, ¬ SX M k j → τ.1 k j = σ.1 k j := hF.1
  have e30 : τ.1 (M + 30) = σ.1 (M + 30) := funext fun j => e _ _ (fun q => by unfold SX at q; omega)
  have e33 : ∀ j, τ.1 (M + 33) j = σ.1 (M + 33) j := fun j => e _ _ (fun q => by unfold SX at q; omega)
  have e39 : ∀ j, τ.1 (M + 39) j = σ.1 (M + 39) j := fun j => e _ _ (fun q => by unfold SX at q; omega)
  refine ⟨⟨hM, ht, (eT 0 3 (by omega)).trans ht1, (eT 0 4 (by omega)).trans ht2, ht3.fc hF (fun x j a1 a2 q => by unfold SX at q; omega), ht4.fc hF (fun k j q a1 z => by unfold SX at z; unfold SQ at q; omega), (e _ _ (fun q => by unfold SX at q; omega)).trans ht5, (e _ _ (fun q => by unfold SX at q; omega)).trans ht6, ht7⟩, ?_, ⟨u, pn, hu, (e _ _ (fun q => by unfold SX at q; omega)).trans u1, (e _ _ (fun q => by unfold SX at q; omega)).trans u2, (e _ _ (fun q => by unfold SX at q; omega)).trans u3, fun i hi => ?_⟩, ⟨hs, (e _ _ (fun q => by unfold SX at q; omega)).trans s1, s2, fun s hs3 => ⟨(e _ _ (fun q => by unfold SX at q; omega)).trans (s3 s hs3).1, fun q => ?_⟩⟩, ⟨k, k1, (e _ _ (fun q => by unfold SX at q; omega)).trans k2, (e _ _ (fun q => by unfold SX at q; omega)).trans k3, fun i hi => ?_⟩, ⟨⟨L, l1, (e _ _ (fun q => by unfold SX at q; omega)).trans l2, (e _ _ (fun q => by unfold SX at q; omega)).trans l3, fun i hi => ?_⟩, ?_⟩, fun i hi => (eT _ _ (by omega)).trans (f1 i hi), fun i hi => (eT _ _ (by omega)).trans (f2 i hi), fun k hk => by rw [hF.2.1]; exact f3 k hk⟩
  · rw [e30]; exact hN.fc hF (by omega) (fun x j a1 a2 q => by unfold SX at q; omega)
  · rw [funext fun x => e33 (88 * i + x)]; exact (u4 i hi).fc hF (by omega) (fun x j a1 a2 q => by unfold SX at q; omega)
  · rw [funext fun x => e39 (88 * s + x)]; exact ((s3 s hs3).2 q).fc hF (by omega) (fun x j a1 a2 q => by unfold SX at q; omega)
  · rw [e 53 i (fun q => by unfold SX at q; omega), e (M + 35) i (fun q => by unfold SX at q; omega), e (M + 36) i (fun q => by unfold SX at q; omega), e 0 15 (fun q => by unfold SX at q; omega)]; exact k4 i hi
  · rw [e 1 i (fun q => by unfold SX at q; omega), e (M + 1) i (fun q => by unfold SX at q; omega)]; exact l4 i hi
  · rw [e 0 2 (fun q => by unfold SX at q; omega), e M 17 (fun q => by unfold SX at q; omega)]; exact p1
/-- the row that a copy of now makes -/
theorem nowR_fx (hM : 442 ≤ M) (hF : Fx M σ τ) : nowR M τ = nowR M σ := by
  funext j
  unfold nowR
  by_cases q : j < 88
  · rw [if_pos q, if_pos q]; exact hF.1 _ _ (fun z => by unfold SX at z; omega)
  · rw [if_neg q, if_neg q]; exact hF.1 _ _ (fun z => by unfold SX at z; omega)
/-- now, as a copy of it -/
theorem CE.now {a : Nat} (h : CE σ a t n m sd (σ.1 (M + 30))) (hn : n ≤ 8) (hm : m ≤ 6) : CE σ a t n m sd (nowR M σ) := by
  have e : ∀ x, x < 88 → nowR M σ x = σ.1 (M + 30) x := fun x hx => if_pos hx
  obtain ⟨h1, h2, h3, m1, m2, m3, m4⟩ := h
  exact ⟨h1, h2.ag hn hm (fun x hx _ => e x hx), h3.ag hn hm (fun x hx => e x (by omega)), m1, m2, m3, fun q => by rw [e 85 (by omega)]; exact m4 q⟩
/-- the model's scratch, where the row's tail stays -/
theorem Fs.fx {S : Nat → Nat → Prop} (hF : Fs S σ τ) (hS : ∀ k j, S k j → SQ M k j) (ht : ∀ x, 88 ≤ x → τ.1 (M + 31) x = σ.1 (M + 31) x) : Fx M σ τ := by
  refine ⟨fun k j hk => ?_, by rw [hF.2], fun _ _ _ => by rw [hF.2], by rw [hF.2]⟩
  by_cases q : k = M + 31
  · subst q
    by_cases z : j < 88
    · exact absurd (show SX M (M + 31) j from by unfold SX; omega) hk
    · exact ht j (by omega)
  · exact hF.1 k j (fun z => hk (by have := hS k j z; unfold SQ at this; unfold SX; omega))
/-- the class's scratch -/
theorem Fs.fy {S : Nat → Nat → Prop} (hF : Fs S σ τ) (hS : ∀ k j, S k j → (40 ≤ k ∧ k ≤ 50) ∨ k = 12 ∨ k = 13 ∨ k = 24 ∨ k = 25 ∨ k = 54) : Fx M σ τ := ⟨fun k j hk => hF.1 k j (fun z => hk (by have := hS k j z; unfold SX; omega)), by rw [hF.2], fun _ _ _ => by rw [hF.2], by rw [hF.2]⟩
end REL
