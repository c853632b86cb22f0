/-! what a function comes to -/
def wp {α : Type} (o : Option α) (P : α → Prop) : Prop := ∃ x, o = some x ∧ P x
theorem wp_s {α : Type} {x : α} {P : α → Prop} (h : P x) : wp (some x) P := ⟨x, rfl, h⟩
theorem wp_b {α β : Type} {o : Option α} {k : α → Option β} {P : β → Prop} (h : wp o (fun a => wp (k a) P)) : wp (o.bind k) P := by
  obtain ⟨a, rfl, x, hx, hp⟩ := h
  exact ⟨x, hx, hp⟩
theorem wp_i {α : Type} {c : Prop} [Decidable c] {a b : Option α} {P : α → Prop} (ht : c → wp a P) (hf : ¬ c → wp b P) : wp (if c then a else b) P := by
  by_cases h : c
  · rw [if_pos h]; exact ht h
  · rw [if_neg h]; exact hf h
theorem wp_t {α : Type} {c : Prop} [Decidable c] {a b : Option α} {P : α → Prop} (hc : c) (ht : wp a P) : wp (if c then a else b) P := by rw [if_pos hc]; exact ht
theorem wp_f {α : Type} {c : Prop} [Decidable c] {a b : Option α} {P : α → Prop} (hc : ¬ c) (hf : wp b P) : wp (if c then a else b) P := by rw [if_neg hc]; exact hf
theorem wp_m {α : Type} {o : Option α} {P P' : α → Prop} (h : wp o P) (hm : ∀ x, P x → P' x) : wp o P' := by
  obtain ⟨x, e, hp⟩ := h
  exact ⟨x, e, hm x hp⟩
theorem wp_e {α : Type} {o o' : Option α} {P : α → Prop} (e : o = o') (h : wp o' P) : wp o P := by rw [e]; exact h
theorem wp_lp {α β : Type} {f : α → Option (α ⊕ β)} (I : α → Prop) (μ : α → Nat) {P : β → Prop} (h : ∀ a, I a → wp (f a) (fun x => match x with | .inl a' => I a' ∧ μ a' < μ a | .inr b => P b)) : ∀ a, I a → wp (lp f a) P := by
  have key : ∀ n a, μ a < n → I a → wp (lp f a) P := by
    intro n
    induction n with
    | zero => intro a h1; omega
    | succ n ih =>
      intro a h1 ha
      obtain ⟨x, hx, hp⟩ := h a ha
      rw [lp_eq, hx]
      cases x with
      | inl a' => exact ih a' (by have := hp.2; omega) hp.1
      | inr b => exact ⟨b, rfl, hp⟩
  exact fun a ha => key (μ a + 1) a (by omega) ha
/-- a loop that counts from i up to e -/
theorem wp_for {β γ : Type} {f : Int32 × γ → Option ((Int32 × γ) ⊕ β)} (e : Nat) (he : e < 2 ^ 31) (I : Nat → γ → Prop) {P : β → Prop}
    (hs : ∀ i s, i < e → I i s → wp (f (nI i, s)) (fun x => ∃ s', x = .inl (nI (i + 1), s') ∧ I (i + 1) s'))
    (hx : ∀ s, I e s → wp (f (nI e, s)) (fun x => ∃ b, x = .inr b ∧ P b)) {i : Nat} {s : γ} (hi : i ≤ e) (h0 : I i s) : wp (lp f (nI i, s)) P := by
  refine wp_lp (fun a => ∃ j, j ≤ e ∧ a.1 = nI j ∧ I j a.2) (fun a => e - a.1.toNatClampNeg) ?_ (nI i, s) ⟨i, hi, rfl, h0⟩
  rintro ⟨a1, a2⟩ ⟨j, hj, hje, hI⟩
  dsimp only at hje hI
  subst hje
  by_cases hlt : j < e
  · obtain ⟨x, hx1, s', rfl, hI'⟩ := hs j a2 hlt hI
    refine ⟨_, hx1, ⟨j + 1, hlt, rfl, hI'⟩, ?_⟩
    dsimp only
    rw [nI_clamp (by omega), nI_clamp (by omega)]
    omega
  · have : j = e := by omega
    subst this
    obtain ⟨x, hx1, b, rfl, hp⟩ := hx a2 hI
    exact ⟨_, hx1, hp⟩
/-- the same where the counter stands behind another value -/
theorem wp_for2 {α β γ : Type} {f : α × Int32 × γ → Option ((α × Int32 × γ) ⊕ β)} (e : Nat) (he : e < 2 ^ 31) (I : Nat → α → γ → Prop) {P : β → Prop}
    (hs : ∀ i z s, i < e → I i z s → wp (f (z, nI i, s)) (fun x => ∃ z' s', x = .inl (z', nI (i + 1), s') ∧ I (i + 1) z' s'))
    (hx : ∀ z s, I e z s → wp (f (z, nI e, s)) (fun x => ∃ b, x = .inr b ∧ P b)) {i : Nat} {z : α} {s : γ} (hi : i ≤ e) (h0 : I i z s) : wp (lp f (z, nI i, s)) P := by
  refine wp_lp (fun a => ∃ j, j ≤ e ∧ a.2.1 = nI j ∧ I j a.1 a.2.2) (fun a => e - a.2.1.toNatClampNeg) ?_ (z, nI i, s) ⟨i, hi, rfl, h0⟩
  rintro ⟨a0, a1, a2⟩ ⟨j, hj, hje, hI⟩
  dsimp only at hje hI
  subst hje
  by_cases hlt : j < e
  · obtain ⟨x, hx1, z', s', rfl, hI'⟩ := hs j a0 a2 hlt hI
    refine ⟨_, hx1, ⟨j + 1, hlt, rfl, hI'⟩, ?_⟩
    dsimp only
    rw [nI_clamp (by omega), nI_clamp (by omega)]
    omega
  · have : j = e := by omega
    subst this
    obtain ⟨x, hx1, b, rfl, hp⟩ := hx a0 a2 hI
    exact ⟨_, hx1, hp⟩
/-! reads behind writes -/
theorem wI_n {σ : Sg} {k i x : Nat} {v : Int32} (h : x ≠ k) : (wI σ k i v).1 x = σ.1 x := va_up_ne _ _ h
theorem wI_k {σ : Sg} {k i : Nat} {v : Int32} : (wI σ k i v).1 k = upd (σ.1 k) i v := by simp [wI, va_up]
theorem wI_2 {σ : Sg} {k i : Nat} {v : Int32} : (wI σ k i v).2 = σ.2 := rfl
theorem wR_n {σ : Sg} {k x : Nat} {f : Nat → Int32} (h : x ≠ k) : (wR σ k f).1 x = σ.1 x := va_up_ne _ _ h
theorem wR_k {σ : Sg} {k : Nat} {f : Nat → Int32} : (wR σ k f).1 k = f := by simp [wR, va_up]
theorem wR_2 {σ : Sg} {k : Nat} {f : Nat → Int32} : (wR σ k f).2 = σ.2 := rfl
theorem upd_n {f : Nat → Int32} {i j : Nat} {v : Int32} (h : j ≠ i) : upd f i v j = f j := by simp [upd, h]
theorem upd_k {f : Nat → Int32} {i : Nat} {v : Int32} : upd f i v i = v := by simp [upd]
/-- nothing but the cells of S has changed -/
def Fr (S : Nat → Prop) (σ τ : Sg) : Prop := (∀ k, ¬ S k → τ.1 k = σ.1 k) ∧ τ.2 = σ.2
theorem Fr.rf {S : Nat → Prop} {σ : Sg} : Fr S σ σ := ⟨fun _ _ => rfl, rfl⟩
theorem Fr.tr {S : Nat → Prop} {σ τ υ : Sg} (h : Fr S σ τ) (h2 : Fr S τ υ) : Fr S σ υ := ⟨fun k hk => (h2.1 k hk).trans (h.1 k hk), h2.2.trans h.2⟩
theorem Fr.mo {S S' : Nat → Prop} {σ τ : Sg} (h : Fr S σ τ) (hs : ∀ k, S k → S' k) : Fr S' σ τ := ⟨fun k hk => h.1 k (fun q => hk (hs k q)), h.2⟩
theorem Fr.wI {S : Nat → Prop} {σ τ : Sg} (h : Fr S σ τ) {k i : Nat} {v : Int32} (hk : S k) : Fr S σ (wI τ k i v) := ⟨fun x hx => (wI_n (fun q => hx (by rw [q]; exact hk))).trans (h.1 x hx), h.2⟩
theorem Fr.wR {S : Nat → Prop} {σ τ : Sg} (h : Fr S σ τ) {k : Nat} {f : Nat → Int32} (hk : S k) : Fr S σ (wR τ k f) := ⟨fun x hx => (wR_n (fun q => hx (by rw [q]; exact hk))).trans (h.1 x hx), h.2⟩
/-! small numbers -/
theorem vin_nI {i n : Nat} (h : i < n) (hn : n ≤ 4000) : vin (nI i) n := ⟨nI_pos' (by omega), by rw [nI_clamp (by omega)]; exact h⟩
theorem irem_nI {a d : Nat} (ha : a < 2 ^ 31) (h0 : 0 < d) (hd : d < 2 ^ 31) : irem (nI a) (nI d) = nI (a % d) := pk_rem ha h0 hd
theorem nI_lit0 : (0 : Int32) = nI 0 := rfl
theorem nI_lit1 : (1 : Int32) = nI 1 := rfl
/-! eight bits -/
def b2n (b : Bool) : Nat := if b then 1 else 0
def mk8 (f : Nat → Bool) : Nat := b2n (f 0) + 2 * b2n (f 1) + 4 * b2n (f 2) + 8 * b2n (f 3) + 16 * b2n (f 4) + 32 * b2n (f 5) + 64 * b2n (f 6) + 128 * b2n (f 7)
def m8 (b0 b1 b2 b3 b4 b5 b6 b7 : Bool) : Nat := b2n b0 + 2 * b2n b1 + 4 * b2n b2 + 8 * b2n b3 + 16 * b2n b4 + 32 * b2n b5 + 64 * b2n b6 + 128 * b2n b7
theorem mk8_m (f : Nat → Bool) : mk8 f = m8 (f 0) (f 1) (f 2) (f 3) (f 4) (f 5) (f 6) (f 7) := rfl
theorem mk8_c {f g : Nat → Bool} (h : ∀ i, i < 8 → f i = g i) : mk8 f = mk8 g := by
  unfold mk8
  rw [h 0 (by decide), h 1 (by decide), h 2 (by decide), h 3 (by decide), h 4 (by decide), h 5 (by decide), h 6 (by decide), h 7 (by decide)]
theorem lt8 {h : Nat} (hh : h < 8) : h = 0 ∨ h = 1 ∨ h = 2 ∨ h = 3 ∨ h = 4 ∨ h = 5 ∨ h = 6 ∨ h = 7 := by omega
set_option maxRecDepth 100000 in
theorem m8_bit : ∀ b0 b1 b2 b3 b4 b5 b6 b7 : Bool, (ius (nI (m8 b0 b1 b2 b3 b4 b5 b6 b7)) (nI 0) &&& 1 = nI (b2n b0)) ∧ (ius (nI (m8 b0 b1 b2 b3 b4 b5 b6 b7)) (nI 1) &&& 1 = nI (b2n b1)) ∧ (ius (nI (m8 b0 b1 b2 b3 b4 b5 b6 b7)) (nI 2) &&& 1 = nI (b2n b2)) ∧ (ius (nI (m8 b0 b1 b2 b3 b4 b5 b6 b7)) (nI 3) &&& 1 = nI (b2n b3)) ∧ (ius (nI (m8 b0 b1 b2 b3 b4 b5 b6 b7)) (nI 4) &&& 1 = nI (b2n b4)) ∧ (ius (nI (m8 b0 b1 b2 b3 b4 b5 b6 b7)) (nI 5) &&& 1 = nI (b2n b5)) ∧ (ius (nI (m8 b0 b1 b2 b3 b4 b5 b6 b7)) (nI 6) &&& 1 = nI (b2n b6)) ∧ (ius (nI (m8 b0 b1 b2 b3 b4 b5 b6 b7)) (nI 7) &&& 1 = nI (b2n b7)) := by decide +kernel
theorem mk8_bit (f : Nat → Bool) {h : Nat} (hh : h < 8) : ius (nI (mk8 f)) (nI h) &&& 1 = nI (b2n (f h)) := by
  obtain ⟨h0, h1, h2, h3, h4, h5, h6, h7⟩ := m8_bit (f 0) (f 1) (f 2) (f 3) (f 4) (f 5) (f 6) (f 7)
  rw [mk8_m]
  rcases lt8 hh with rfl | rfl | rfl | rfl | rfl | rfl | rfl | rfl <;> assumption
