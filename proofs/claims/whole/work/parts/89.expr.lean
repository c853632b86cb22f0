/-! expressions, as they are told -/
abbrev Ex : Type := Except (Nat × Nat) (Nat × Rp)
section SPEC
variable (K V : Nat → Nat)
def unS (rs : Nat → Ex) (g p : Nat) : Ex :=
  if K p = 21 then (if p < 400 then .ok (p + 1, [(0, V p)]) else .error (2, p))
  else if 11 ≤ K p ∧ K p ≤ 19 then (if p < 400 then .ok (p + 1, [(1, K p - 11)]) else .error (2, p))
  else if K p = 29 then (if g = 0 then .error (2, p) else if p < 400 then (match rs (p + 1) with
    | .error e => .error e
    | .ok (q, c) => if K q = 30 then (if q < 400 then .ok (q + 1, c) else .error (2, q)) else .error (1, q)) else .error (2, p))
  else .error (1, p)
def oxL (a b : Nat) (u : Nat → Ex) : Nat → Nat → Rp → Ex
  | 0, p, c => .ok (p, c)
  | f + 1, p, c => if K p = a ∨ K p = a + 1 then (if p < 400 then (match u (p + 1) with
    | .error e => .error e
    | .ok (q, c') => oxL a b u f q (c ++ c' ++ [(if K p = a then b else b + 1, 0)])) else .error (2, p)) else .ok (p, c)
def oxS (a b : Nat) (u : Nat → Ex) (p : Nat) : Ex := match u p with
  | .error e => .error e
  | .ok (q, c) => oxL K a b u 401 q c
def sumG : Nat → Nat → Ex
  | 0 => fun p => .error (2, p)
  | g + 1 => oxS K 24 2 (oxS K 26 4 (unS K V (sumG g) g))
end SPEC
section SPECF
variable {K V : Nat → Nat}
/-- what comes of reading at p -/
def GD (K : Nat → Nat) (D0 : Nat) (p : Nat) (r : Ex) : Prop := match r with
  | .error (k, q) => (k = 1 ∨ k = 2) ∧ p ≤ q ∧ q ≤ 400 ∧ ∀ j, p ≤ j → j < q → K j < 31
  | .ok (q, c) => p < q ∧ q ≤ 400 ∧ c.length ≤ q - p ∧ (∀ j, p ≤ j → j < q → K j < 31) ∧ ∀ D a, a + D0 ≤ D → rwf D c a (a + 1)
theorem rwf_app {D : Nat} : ∀ {c c' : Rp} {a b e : Nat}, rwf D c a b → rwf D c' b e → rwf D (c ++ c') a e
  | [], c', a, b, e, h, h' => by
    have h : a = b := h
    subst h
    exact h'
  | (k, x) :: r, c', a, b, e, h, h' => by
    obtain ⟨h1, h2⟩ := h
    refine ⟨h1, ?_⟩
    rcases h2 with ⟨q1, q2, q3⟩ | ⟨q1, q2, q3, q4⟩ | ⟨q1, q2, q3, q4, q5, q6⟩
    · exact Or.inl ⟨q1, q2, rwf_app q3 h'⟩
    · exact Or.inr (Or.inl ⟨q1, q2, q3, rwf_app q4 h'⟩)
    · exact Or.inr (Or.inr ⟨q1, q2, q3, q4, q5, rwf_app q6 h'⟩)
theorem un_gd (hV : ∀ p, K p = 21 → V p ≤ 9999) {rs : Nat → Ex} {g D0 p : Nat} (hp : p ≤ 400) (hD : 1 ≤ D0) (hr : 0 < g → ∀ p, p ≤ 400 → GD K D0 p (rs p)) : GD K D0 p (unS K V rs g p) := by
  unfold unS
  by_cases q1 : K p = 21
  · rw [if_pos q1]
    by_cases q : p < 400
    · rw [if_pos q]
      refine ⟨by omega, by omega, by show 1 ≤ _; omega, fun j h1 h2 => by rw [show j = p by omega, q1]; omega, fun D a ha => ⟨hV p q1, Or.inl ⟨rfl, by omega, rfl⟩⟩⟩
    · rw [if_neg q]
      exact ⟨Or.inr rfl, Nat.le_refl _, hp, fun j h1 h2 => by omega⟩
  · rw [if_neg q1]
    by_cases q2 : 11 ≤ K p ∧ K p ≤ 19
    · rw [if_pos q2]
      by_cases q : p < 400
      · rw [if_pos q]
        refine ⟨by omega, by omega, by show 1 ≤ _; omega, fun j h1 h2 => by rw [show j = p by omega]; omega, fun D a ha => ⟨by show K p - 11 ≤ 9999; omega, Or.inr (Or.inl ⟨rfl, by show K p - 11 < 9; omega, by omega, rfl⟩)⟩⟩
      · rw [if_neg q]
        exact ⟨Or.inr rfl, Nat.le_refl _, hp, fun j h1 h2 => by omega⟩
    · rw [if_neg q2]
      by_cases q3 : K p = 29
      · rw [if_pos q3]
        by_cases q4 : g = 0
        · rw [if_pos q4]
          exact ⟨Or.inr rfl, Nat.le_refl _, hp, fun j h1 h2 => by omega⟩
        · rw [if_neg q4]
          by_cases q : p < 400
          · rw [if_pos q]
            have h := hr (by omega) (p + 1) (by omega)
            cases hq : rs (p + 1) with
            | error e =>
              obtain ⟨k, x⟩ := e
              rw [hq] at h
              obtain ⟨h1, h2, h3, h4⟩ := h
              refine ⟨h1, by omega, h3, fun j a1 a2 => ?_⟩
              by_cases z : j = p
              · rw [z, q3]; omega
              · exact h4 j (by omega) a2
            | ok e =>
              obtain ⟨x, c⟩ := e
              rw [hq] at h
              obtain ⟨h1, h2, h3, h4, h5⟩ := h
              have hb : ∀ j, p ≤ j → j < x → K j < 31 := fun j a1 a2 => by
                by_cases z : j = p
                · rw [z, q3]; omega
                · exact h4 j (by omega) a2
              dsimp only
              by_cases q5 : K x = 30
              · rw [if_pos q5]
                by_cases q6 : x < 400
                · rw [if_pos q6]
                  refine ⟨by omega, by omega, by omega, fun j a1 a2 => ?_, h5⟩
                  by_cases z : j = x
                  · rw [z, q5]; omega
                  · exact hb j a1 (by omega)
                · rw [if_neg q6]
                  exact ⟨Or.inr rfl, by omega, h2, hb⟩
              · rw [if_neg q5]
                exact ⟨Or.inl rfl, by omega, h2, hb⟩
          · rw [if_neg q]
            exact ⟨Or.inr rfl, Nat.le_refl _, hp, fun j h1 h2 => by omega⟩
      · rw [if_neg q3]
        exact ⟨Or.inl rfl, Nat.le_refl _, hp, fun j h1 h2 => by omega⟩
theorem oxL_gd {a b D0 : Nat} (hD : 1 ≤ D0) (ha : a + 1 < 31) (hb : 2 ≤ b ∧ b ≤ 4) {u : Nat → Ex} (hu : ∀ p, p ≤ 400 → GD K D0 p (u p)) (p0 : Nat) : ∀ f p c, p0 < p → p ≤ 400 → c.length ≤ p - p0 → (∀ j, p0 ≤ j → j < p → K j < 31) → (∀ D a, a + (D0 + 1) ≤ D → rwf D c a (a + 1)) → GD K (D0 + 1) p0 (oxL K a b u f p c)
  | 0, p, c, h1, h2, h3, h4, h5 => ⟨h1, h2, h3, h4, h5⟩
  | f + 1, p, c, h1, h2, h3, h4, h5 => by
    rw [show oxL K a b u (f + 1) p c = if K p = a ∨ K p = a + 1 then (if p < 400 then (match u (p + 1) with
    | .error e => .error e
    | .ok (q, c') => oxL K a b u f q (c ++ c' ++ [(if K p = a then b else b + 1, 0)])) else .error (2, p)) else .ok (p, c) from rfl]
    by_cases q : K p = a ∨ K p = a + 1
    · rw [if_pos q]
      by_cases q2 : p < 400
      · rw [if_pos q2]
        have h := hu (p + 1) (by omega)
        have hb2 : ∀ x, (∀ j, p + 1 ≤ j → j < x → K j < 31) → ∀ j, p0 ≤ j → j < x → K j < 31 := fun x hx j a1 a2 => by
          by_cases z : j < p
          · exact h4 j a1 z
          · by_cases z2 : j = p
            · rw [z2]; omega
            · exact hx j (by omega) a2
        cases hq : u (p + 1) with
        | error e =>
          obtain ⟨k, x⟩ := e
          rw [hq] at h
          obtain ⟨g1, g2, g3, g4⟩ := h
          exact ⟨g1, by omega, g3, hb2 x g4⟩
        | ok e =>
          obtain ⟨x, c'⟩ := e
          rw [hq] at h
          obtain ⟨g1, g2, g3, g4, g5⟩ := h
          refine oxL_gd hD ha hb hu p0 f x _ (by omega) g2 (by rw [List.length_append, List.length_append]; show c.length + c'.length + 1 ≤ _; omega) (hb2 x g4) (fun D d hd => ?_)
          refine rwf_app (rwf_app (h5 D d hd) (g5 D (d + 1) (by omega))) ?_
          refine ⟨by omega, Or.inr (Or.inr ⟨?_, ?_, rfl, by omega, by omega, ?_⟩)⟩
          · split <;> omega
          · split <;> omega
          · show d + 1 + 1 - 1 = d + 1; omega
      · rw [if_neg q2]
        exact ⟨Or.inr rfl, by omega, h2, h4⟩
    · rw [if_neg q]
      exact ⟨h1, h2, h3, h4, h5⟩
theorem oxS_gd {a b D0 : Nat} (hD : 1 ≤ D0) (ha : a + 1 < 31) (hb : 2 ≤ b ∧ b ≤ 4) {u : Nat → Ex} (hu : ∀ p, p ≤ 400 → GD K D0 p (u p)) (p : Nat) (hp : p ≤ 400) : GD K (D0 + 1) p (oxS K a b u p) := by
  unfold oxS
  have h := hu p hp
  cases hq : u p with
  | error e =>
    obtain ⟨k, x⟩ := e
    rw [hq] at h
    exact h
  | ok e =>
    obtain ⟨x, c⟩ := e
    rw [hq] at h
    obtain ⟨g1, g2, g3, g4, g5⟩ := h
    exact oxL_gd hD ha hb hu p 401 x c g1 g2 g3 g4 (fun D d hd => g5 D d (by omega))
theorem sum_gd (hV : ∀ p, K p = 21 → V p ≤ 9999) : ∀ g p, p ≤ 400 → GD K (2 * g + 1) p (sumG K V g p)
  | 0, p, hp => ⟨Or.inr rfl, Nat.le_refl _, hp, fun j h1 h2 => by omega⟩
  | g + 1, p, hp => by
    have := oxS_gd (K := K) (D0 := 2 * g + 2) (a := 24) (b := 2) (by omega) (by omega) (by omega) (oxS_gd (K := K) (D0 := 2 * g + 1) (a := 26) (b := 4) (by omega) (by omega) (by omega) (fun p hp => un_gd hV (rs := sumG K V g) (g := g) (D0 := 2 * g + 1) hp (by omega) (fun _ p hp => sum_gd hV g p hp))) p hp
    exact this
end SPECF
