/-! cells that are made: the world grows -/
noncomputable def gdP {α : Type} (P : Prop) (e : Option α) : Option α := @ite _ P (Classical.propDecidable P) e none
theorem gdP_s {α : Type} {P : Prop} {e : Option α} {x : α} (h : gdP P e = some x) : P ∧ e = some x := by
  unfold gdP at h
  by_cases hp : P
  · rw [if_pos hp] at h; exact ⟨hp, h⟩
  · rw [if_neg hp] at h; cases h
theorem gdP_t {α : Type} {P : Prop} {e : Option α} (h : P) : gdP P e = e := by unfold gdP; rw [if_pos h]
def gPush (G : Gm) (c : Nat) : Gm := (G.1, G.2.1, G.2.2.1, gN G + 1, va_up (gK G) (gN G) c, gH G, gA G)
def gKind (G : Gm) (k c : Nat) : Gm := (G.1, G.2.1, G.2.2.1, gN G, va_up (gK G) k c, gH G, gA G)
def gS (G G' : Gm) : Prop := ∃ (N : Nat) (kd : Nat → Nat), G' = (G.1, G.2.1, G.2.2.1, N, kd, gH G, gA G)
theorem gS.rf {G : Gm} : gS G G := ⟨gN G, gK G, rfl⟩
theorem gS.tr {G G' G'' : Gm} (h : gS G G') (h2 : gS G' G'') : gS G G'' := by
  obtain ⟨N, kd, rfl⟩ := h
  obtain ⟨N2, kd2, rfl⟩ := h2
  exact ⟨N2, kd2, rfl⟩
theorem gS.push (G : Gm) (c : Nat) : gS G (gPush G c) := ⟨_, _, rfl⟩
theorem gS.kind (G : Gm) (k c : Nat) : gS G (gKind G k c) := ⟨_, _, rfl⟩
theorem gS.Cx {G G' : Gm} (h : gS G G') {p : Program} {s : State} {m : MethodId} {args : Array Value} {c : Code} {cc : ByteArray} {own : String} {nL : Nat} {Y : Cond} (C : Cx p s m args c cc own nL Y G) : Cx p s m args c cc own nL Y G' := by
  obtain ⟨N, kd, rfl⟩ := h
  exact C
theorem sh_push {kd : Nat → Nat} {N c : Nat} {T T' : Nat → Nat → Nat} (h : Sh kd N T) (hc : c = 9 ∨ 16 ≤ c) (hT : ∀ x, x ≠ N → T' x = T x) (hT0 : ∀ j, T' N j = 0) : Sh (va_up kd N c) (N + 1) T' := by
  obtain ⟨h0, hR, s0, s1, s2, s3, s4, s5, s6, s7⟩ := h
  have up : ∀ x v, kd x = v → v ≠ 0 → va_up kd N c x = v := fun x v e hv => by
    have := h0 x (by omega)
    rw [va_up_ne _ _ (by omega)]; exact e
  have dn : ∀ x v, va_up kd N c x = v → v ≠ c → x ≠ N ∧ kd x = v := fun x v e hv => by
    by_cases hx : x = N
    · rw [hx] at e; unfold va_up at e; rw [if_pos rfl] at e; exact absurd e.symm hv
    · rw [va_up_ne _ _ hx] at e; exact ⟨hx, e⟩
  refine ⟨fun k hk => ?_, fun k n hk j hj => ?_, ?_, ?_, ?_, ?_, ?_, ?_, ?_, ?_⟩
  · by_cases hx : k = N
    · omega
    · rw [va_up_ne _ _ hx] at hk; have := h0 k hk; omega
  · by_cases hx : k = N
    · rw [hx, hT0 j] at hj; exact absurd rfl hj
    · rw [va_up_ne _ _ hx] at hk
      rw [hT k hx] at hj ⊢
      exact up _ _ (hR k n hk j hj) (by decide)
  · intro k hk
    obtain ⟨hne, hk⟩ := dn k _ hk (by omega)
    have q := s0 k hk
    exact ⟨up _ _ (q.1) (by first | decide | (unfold kA; omega)), up _ _ (q.2.1) (by first | decide | (unfold kA; omega)), up _ _ (q.2.2.1) (by first | decide | (unfold kA; omega)), up _ _ (q.2.2.2) (by first | decide | (unfold kA; omega))⟩
  · intro k hk
    obtain ⟨hne, hk⟩ := dn k _ hk (by omega)
    have q := s1 k hk
    rw [hT k hne]
    exact ⟨up _ _ (q.1) (by first | decide | (unfold kA; omega)), up _ _ (q.2) (by first | decide | (unfold kA; omega))⟩
  · intro k hk
    obtain ⟨hne, hk⟩ := dn k _ hk (by omega)
    have q := s2 k hk
    rw [hT k hne]
    exact ⟨up _ _ (q.1) (by first | decide | (unfold kA; omega)), up _ _ (q.2.1) (by first | decide | (unfold kA; omega)), up _ _ (q.2.2.1) (by first | decide | (unfold kA; omega)), up _ _ (q.2.2.2.1) (by first | decide | (unfold kA; omega)), up _ _ (q.2.2.2.2.1) (by first | decide | (unfold kA; omega)), up _ _ (q.2.2.2.2.2.1) (by first | decide | (unfold kA; omega)), up _ _ (q.2.2.2.2.2.2.1) (by first | decide | (unfold kA; omega)), up _ _ (q.2.2.2.2.2.2.2.1) (by first | decide | (unfold kA; omega)), up _ _ (q.2.2.2.2.2.2.2.2) (by first | decide | (unfold kA; omega))⟩
  · intro k hk
    obtain ⟨hne, hk⟩ := dn k _ hk (by omega)
    have q := s3 k hk
    exact ⟨up _ _ (q.1) (by first | decide | (unfold kA; omega)), up _ _ (q.2.1) (by first | decide | (unfold kA; omega)), up _ _ (q.2.2.1) (by first | decide | (unfold kA; omega)), up _ _ (q.2.2.2.1) (by first | decide | (unfold kA; omega)), up _ _ (q.2.2.2.2.1) (by first | decide | (unfold kA; omega)), up _ _ (q.2.2.2.2.2.1) (by first | decide | (unfold kA; omega)), up _ _ (q.2.2.2.2.2.2) (by first | decide | (unfold kA; omega))⟩
  · intro k hk
    obtain ⟨hne, hk⟩ := dn k _ hk (by omega)
    have q := s4 k hk
    exact ⟨up _ _ (q.1) (by first | decide | (unfold kA; omega)), up _ _ (q.2.1) (by first | decide | (unfold kA; omega)), up _ _ (q.2.2) (by first | decide | (unfold kA; omega))⟩
  · intro k hk
    obtain ⟨hne, hk⟩ := dn k _ hk (by omega)
    have q := s5 k hk
    exact up _ _ (q) (by first | decide | (unfold kA; omega))
  · intro k hk
    obtain ⟨hne, hk⟩ := dn k _ hk (by omega)
    have q := s6 k hk
    rw [hT k hne]
    exact ⟨up _ _ (q.1) (by first | decide | (unfold kA; omega)), up _ _ (q.2.1) (by first | decide | (unfold kA; omega)), up _ _ (q.2.2.1) (by first | decide | (unfold kA; omega)), up _ _ (q.2.2.2.1) (by first | decide | (unfold kA; omega)), up _ _ (q.2.2.2.2.1) (by first | decide | (unfold kA; omega)), up _ _ (q.2.2.2.2.2.1) (by first | decide | (unfold kA; omega)), up _ _ (q.2.2.2.2.2.2.1) (by first | decide | (unfold kA; omega)), up _ _ (q.2.2.2.2.2.2.2.1) (by first | decide | (unfold kA; omega)), up _ _ (q.2.2.2.2.2.2.2.2.1) (by first | decide | (unfold kA; omega)), up _ _ (q.2.2.2.2.2.2.2.2.2.1) (by first | decide | (unfold kA; omega)), up _ _ (q.2.2.2.2.2.2.2.2.2.2) (by first | decide | (unfold kA; omega))⟩
  · intro k hk
    obtain ⟨hne, hk⟩ := dn k _ hk (by omega)
    have q := s7 k hk
    exact ⟨up _ _ (q.1) (by first | decide | (unfold kA; omega)), up _ _ (q.2.1) (by first | decide | (unfold kA; omega)), up _ _ (q.2.2.1) (by first | decide | (unfold kA; omega)), up _ _ (q.2.2.2.1) (by first | decide | (unfold kA; omega)), up _ _ (q.2.2.2.2.1) (by first | decide | (unfold kA; omega)), up _ _ (q.2.2.2.2.2.1) (by first | decide | (unfold kA; omega)), up _ _ (q.2.2.2.2.2.2.1) (by first | decide | (unfold kA; omega)), up _ _ (q.2.2.2.2.2.2.2.1) (by first | decide | (unfold kA; omega)), up _ _ (q.2.2.2.2.2.2.2.2.1) (by first | decide | (unfold kA; omega)), up _ _ (q.2.2.2.2.2.2.2.2.2.1) (by first | decide | (unfold kA; omega)), up _ _ (q.2.2.2.2.2.2.2.2.2.2.1) (by first | decide | (unfold kA; omega)), up _ _ (q.2.2.2.2.2.2.2.2.2.2.2.1) (by first | decide | (unfold kA; omega)), up _ _ (q.2.2.2.2.2.2.2.2.2.2.2.2.1) (by first | decide | (unfold kA; omega)), up _ _ (q.2.2.2.2.2.2.2.2.2.2.2.2.2.1) (by first | decide | (unfold kA; omega)), up _ _ (q.2.2.2.2.2.2.2.2.2.2.2.2.2.2.1) (by first | decide | (unfold kA; omega)), up _ _ (q.2.2.2.2.2.2.2.2.2.2.2.2.2.2.2.1) (by first | decide | (unfold kA; omega)), up _ _ (q.2.2.2.2.2.2.2.2.2.2.2.2.2.2.2.2.1) (by first | decide | (unfold kA; omega)), up _ _ (q.2.2.2.2.2.2.2.2.2.2.2.2.2.2.2.2.2.1) (by first | decide | (unfold kA; omega)), up _ _ (q.2.2.2.2.2.2.2.2.2.2.2.2.2.2.2.2.2.2.1) (by first | decide | (unfold kA; omega)), up _ _ (q.2.2.2.2.2.2.2.2.2.2.2.2.2.2.2.2.2.2.2.1) (by first | decide | (unfold kA; omega)), up _ _ (q.2.2.2.2.2.2.2.2.2.2.2.2.2.2.2.2.2.2.2.2.1) (by first | decide | (unfold kA; omega)), up _ _ (q.2.2.2.2.2.2.2.2.2.2.2.2.2.2.2.2.2.2.2.2.2.1) (by first | decide | (unfold kA; omega)), up _ _ (q.2.2.2.2.2.2.2.2.2.2.2.2.2.2.2.2.2.2.2.2.2.2.1) (by first | decide | (unfold kA; omega)), up _ _ (q.2.2.2.2.2.2.2.2.2.2.2.2.2.2.2.2.2.2.2.2.2.2.2.1) (by first | decide | (unfold kA; omega)), up _ _ (q.2.2.2.2.2.2.2.2.2.2.2.2.2.2.2.2.2.2.2.2.2.2.2.2.1) (by first | decide | (unfold kA; omega)), up _ _ (q.2.2.2.2.2.2.2.2.2.2.2.2.2.2.2.2.2.2.2.2.2.2.2.2.2.1) (by first | decide | (unfold kA; omega)), up _ _ (q.2.2.2.2.2.2.2.2.2.2.2.2.2.2.2.2.2.2.2.2.2.2.2.2.2.2.1) (by first | decide | (unfold kA; omega)), up _ _ (q.2.2.2.2.2.2.2.2.2.2.2.2.2.2.2.2.2.2.2.2.2.2.2.2.2.2.2.1) (by first | decide | (unfold kA; omega)), up _ _ (q.2.2.2.2.2.2.2.2.2.2.2.2.2.2.2.2.2.2.2.2.2.2.2.2.2.2.2.2.1) (by first | decide | (unfold kA; omega)), up _ _ (q.2.2.2.2.2.2.2.2.2.2.2.2.2.2.2.2.2.2.2.2.2.2.2.2.2.2.2.2.2.1) (by first | decide | (unfold kA; omega)), up _ _ (q.2.2.2.2.2.2.2.2.2.2.2.2.2.2.2.2.2.2.2.2.2.2.2.2.2.2.2.2.2.2.1) (by first | decide | (unfold kA; omega)), up _ _ (q.2.2.2.2.2.2.2.2.2.2.2.2.2.2.2.2.2.2.2.2.2.2.2.2.2.2.2.2.2.2.2.1) (by first | decide | (unfold kA; omega)), up _ _ (q.2.2.2.2.2.2.2.2.2.2.2.2.2.2.2.2.2.2.2.2.2.2.2.2.2.2.2.2.2.2.2.2.1) (by first | decide | (unfold kA; omega)), up _ _ (q.2.2.2.2.2.2.2.2.2.2.2.2.2.2.2.2.2.2.2.2.2.2.2.2.2.2.2.2.2.2.2.2.2.1) (by first | decide | (unfold kA; omega)), up _ _ (q.2.2.2.2.2.2.2.2.2.2.2.2.2.2.2.2.2.2.2.2.2.2.2.2.2.2.2.2.2.2.2.2.2.2.1) (by first | decide | (unfold kA; omega)), up _ _ (q.2.2.2.2.2.2.2.2.2.2.2.2.2.2.2.2.2.2.2.2.2.2.2.2.2.2.2.2.2.2.2.2.2.2.2.1) (by first | decide | (unfold kA; omega)), up _ _ (q.2.2.2.2.2.2.2.2.2.2.2.2.2.2.2.2.2.2.2.2.2.2.2.2.2.2.2.2.2.2.2.2.2.2.2.2.1) (by first | decide | (unfold kA; omega)), up _ _ (q.2.2.2.2.2.2.2.2.2.2.2.2.2.2.2.2.2.2.2.2.2.2.2.2.2.2.2.2.2.2.2.2.2.2.2.2.2.1) (by first | decide | (unfold kA; omega)), up _ _ (q.2.2.2.2.2.2.2.2.2.2.2.2.2.2.2.2.2.2.2.2.2.2.2.2.2.2.2.2.2.2.2.2.2.2.2.2.2.2) (by first | decide | (unfold kA; omega))⟩
theorem sh_kind {kd : Nat → Nat} {N k c : Nat} {T T' : Nat → Nat → Nat} (h : Sh kd N T) (hk9 : kd k = 9) (hc : 1 ≤ c ∧ c ≤ 8) (hT : ∀ x, x ≠ k → T' x = T x)
    (n0 : c = 1 → kd (k + 1) = (kA 1 408) ∧ kd (k + 2) = (kA 1 4) ∧ kd (k + 3) = (kA 1 9) ∧ kd (k + 4) = (kA 1 24))
    (n1 : c = 2 → kd (k + 1) = (5 : Nat) ∧ kd (T' k 2) = (4 : Nat))
    (n2 : c = 3 → kd (T' k 0) = (4 : Nat) ∧ kd (k + 1) = (kA 1 8) ∧ kd (k + 2) = (kA 1 8) ∧ kd (k + 3) = (kA 1 8) ∧ kd (k + 4) = (kA 1 8) ∧ kd (k + 5) = (kA 1 8) ∧ kd (k + 6) = (kA 1 8) ∧ kd (k + 7) = (kA 1 6) ∧ kd (k + 8) = (kA 1 6))
    (n3 : c = 4 → kd (k + 1) = (kA 2 8) ∧ kd (k + 2) = (kA 1 8) ∧ kd (k + 3) = (kA 1 8) ∧ kd (k + 4) = (kA 1 8) ∧ kd (k + 5) = (kA 1 6) ∧ kd (k + 6) = (kA 1 6) ∧ kd (k + 7) = (1 : Nat))
    (n4 : c = 5 → kd (k + 1) = (kA 1 402) ∧ kd (k + 2) = (kA 1 402) ∧ kd (k + 3) = (kA 2 402))
    (n5 : c = 6 → kd (k + 1) = (kA 1 8))
    (n6 : c = 7 → kd (k + 1) = (kA 0 2000) ∧ kd (T' k 3) = (4 : Nat) ∧ kd (T' k 4) = (4 : Nat) ∧ kd (k + 26) = (2 : Nat) ∧ kd (k + 31) = (3 : Nat) ∧ kd (k + 40) = (3 : Nat) ∧ kd (k + 49) = (6 : Nat) ∧ kd (k + 51) = (kA 4 40) ∧ kd (k + 52) = (kA 4 3) ∧ kd (k + 53) = (kA 1 20) ∧ kd (k + 54) = (kA 1 8))
    (n7 : c = 8 → kd (k + 1) = (kA 0 2000) ∧ kd (k + 2) = (kA 0 2000) ∧ kd (k + 3) = (kA 1 403) ∧ kd (k + 4) = (kA 1 403) ∧ kd (k + 5) = (kA 1 403) ∧ kd (k + 6) = (kA 2 403) ∧ kd (k + 7) = (kA 2 20) ∧ kd (k + 8) = (kA 2 8) ∧ kd (k + 9) = (kA 1 2) ∧ kd (k + 10) = (kA 1 16) ∧ kd (k + 11) = (kA 1 16) ∧ kd (k + 12) = (kA 1 16) ∧ kd (k + 13) = (kA 3 16) ∧ kd (k + 14) = (kA 1 2) ∧ kd (k + 15) = (kA 1 12) ∧ kd (k + 16) = (kA 1 12) ∧ kd (k + 17) = (kA 1 2) ∧ kd (k + 18) = (kA 1 8) ∧ kd (k + 19) = (kA 1 8) ∧ kd (k + 20) = (kA 3 260) ∧ kd (k + 21) = (kA 1 260) ∧ kd (k + 22) = (kA 1 260) ∧ kd (k + 23) = (kA 1 260) ∧ kd (k + 24) = (kA 1 260) ∧ kd (k + 25) = (kA 1 840) ∧ kd (k + 26) = (kA 1 840) ∧ kd (k + 27) = (kA 1 64) ∧ kd (k + 28) = (kA 1 9) ∧ kd (k + 29) = (kA 1 400) ∧ kd (k + 30) = (kA 1 88) ∧ kd (k + 31) = (kA 1 88) ∧ kd (k + 32) = (kA 3 8) ∧ kd (k + 33) = (kA 1 3520) ∧ kd (k + 34) = (kA 1 8) ∧ kd (k + 35) = (kA 1 20) ∧ kd (k + 36) = (kA 1 20) ∧ kd (k + 37) = (kA 1 8) ∧ kd (k + 38) = (kA 3 3) ∧ kd (k + 39) = (kA 1 264))
    : Sh (va_up kd k c) N T' := by
  obtain ⟨h0, hR, s0, s1, s2, s3, s4, s5, s6, s7⟩ := h
  have up : ∀ x v, kd x = v → v ≠ 9 → va_up kd k c x = v := fun x v e hv => by
    rw [va_up_ne _ _ (fun q => hv (by rw [← e, q, hk9]))]; exact e
  refine ⟨fun x hx => ?_, fun x n hx j hj => ?_, ?_, ?_, ?_, ?_, ?_, ?_, ?_, ?_⟩
  · by_cases e : x = k
    · rw [e]; exact h0 k (by rw [hk9]; decide)
    · rw [va_up_ne _ _ e] at hx; exact h0 x hx
  · by_cases e : x = k
    · rw [e] at hx; unfold va_up at hx; rw [if_pos rfl] at hx; unfold kA at hx; omega
    · rw [va_up_ne _ _ e] at hx
      rw [hT x e] at hj ⊢
      exact up _ _ (hR x n hx j hj) (by decide)
  · intro x hx
    by_cases e : x = k
    · subst e
      have q := n0 (by unfold va_up at hx; rw [if_pos rfl] at hx; exact hx)
      exact ⟨up _ _ (q.1) (by first | decide | (unfold kA; omega)), up _ _ (q.2.1) (by first | decide | (unfold kA; omega)), up _ _ (q.2.2.1) (by first | decide | (unfold kA; omega)), up _ _ (q.2.2.2) (by first | decide | (unfold kA; omega))⟩
    · rw [va_up_ne _ _ e] at hx
      have q := s0 x hx
      exact ⟨up _ _ (q.1) (by first | decide | (unfold kA; omega)), up _ _ (q.2.1) (by first | decide | (unfold kA; omega)), up _ _ (q.2.2.1) (by first | decide | (unfold kA; omega)), up _ _ (q.2.2.2) (by first | decide | (unfold kA; omega))⟩
  · intro x hx
    by_cases e : x = k
    · subst e
      have q := n1 (by unfold va_up at hx; rw [if_pos rfl] at hx; exact hx)
      exact ⟨up _ _ (q.1) (by first | decide | (unfold kA; omega)), up _ _ (q.2) (by first | decide | (unfold kA; omega))⟩
    · rw [va_up_ne _ _ e] at hx
      have q := s1 x hx
      rw [hT x e]
      exact ⟨up _ _ (q.1) (by first | decide | (unfold kA; omega)), up _ _ (q.2) (by first | decide | (unfold kA; omega))⟩
  · intro x hx
    by_cases e : x = k
    · subst e
      have q := n2 (by unfold va_up at hx; rw [if_pos rfl] at hx; exact hx)
      exact ⟨up _ _ (q.1) (by first | decide | (unfold kA; omega)), up _ _ (q.2.1) (by first | decide | (unfold kA; omega)), up _ _ (q.2.2.1) (by first | decide | (unfold kA; omega)), up _ _ (q.2.2.2.1) (by first | decide | (unfold kA; omega)), up _ _ (q.2.2.2.2.1) (by first | decide | (unfold kA; omega)), up _ _ (q.2.2.2.2.2.1) (by first | decide | (unfold kA; omega)), up _ _ (q.2.2.2.2.2.2.1) (by first | decide | (unfold kA; omega)), up _ _ (q.2.2.2.2.2.2.2.1) (by first | decide | (unfold kA; omega)), up _ _ (q.2.2.2.2.2.2.2.2) (by first | decide | (unfold kA; omega))⟩
    · rw [va_up_ne _ _ e] at hx
      have q := s2 x hx
      rw [hT x e]
      exact ⟨up _ _ (q.1) (by first | decide | (unfold kA; omega)), up _ _ (q.2.1) (by first | decide | (unfold kA; omega)), up _ _ (q.2.2.1) (by first | decide | (unfold kA; omega)), up _ _ (q.2.2.2.1) (by first | decide | (unfold kA; omega)), up _ _ (q.2.2.2.2.1) (by first | decide | (unfold kA; omega)), up _ _ (q.2.2.2.2.2.1) (by first | decide | (unfold kA; omega)), up _ _ (q.2.2.2.2.2.2.1) (by first | decide | (unfold kA; omega)), up _ _ (q.2.2.2.2.2.2.2.1) (by first | decide | (unfold kA; omega)), up _ _ (q.2.2.2.2.2.2.2.2) (by first | decide | (unfold kA; omega))⟩
  · intro x hx
    by_cases e : x = k
    · subst e
      have q := n3 (by unfold va_up at hx; rw [if_pos rfl] at hx; exact hx)
      exact ⟨up _ _ (q.1) (by first | decide | (unfold kA; omega)), up _ _ (q.2.1) (by first | decide | (unfold kA; omega)), up _ _ (q.2.2.1) (by first | decide | (unfold kA; omega)), up _ _ (q.2.2.2.1) (by first | decide | (unfold kA; omega)), up _ _ (q.2.2.2.2.1) (by first | decide | (unfold kA; omega)), up _ _ (q.2.2.2.2.2.1) (by first | decide | (unfold kA; omega)), up _ _ (q.2.2.2.2.2.2) (by first | decide | (unfold kA; omega))⟩
    · rw [va_up_ne _ _ e] at hx
      have q := s3 x hx
      exact ⟨up _ _ (q.1) (by first | decide | (unfold kA; omega)), up _ _ (q.2.1) (by first | decide | (unfold kA; omega)), up _ _ (q.2.2.1) (by first | decide | (unfold kA; omega)), up _ _ (q.2.2.2.1) (by first | decide | (unfold kA; omega)), up _ _ (q.2.2.2.2.1) (by first | decide | (unfold kA; omega)), up _ _ (q.2.2.2.2.2.1) (by first | decide | (unfold kA; omega)), up _ _ (q.2.2.2.2.2.2) (by first | decide | (unfold kA; omega))⟩
  · intro x hx
    by_cases e : x = k
    · subst e
      have q := n4 (by unfold va_up at hx; rw [if_pos rfl] at hx; exact hx)
      exact ⟨up _ _ (q.1) (by first | decide | (unfold kA; omega)), up _ _ (q.2.1) (by first | decide | (unfold kA; omega)), up _ _ (q.2.2) (by first | decide | (unfold kA; omega))⟩
    · rw [va_up_ne _ _ e] at hx
      have q := s4 x hx
      exact ⟨up _ _ (q.1) (by first | decide | (unfold kA; omega)), up _ _ (q.2.1) (by first | decide | (unfold kA; omega)), up _ _ (q.2.2) (by first | decide | (unfold kA; omega))⟩
  · intro x hx
    by_cases e : x = k
    · subst e
      have q := n5 (by unfold va_up at hx; rw [if_pos rfl] at hx; exact hx)
      exact up _ _ (q) (by first | decide | (unfold kA; omega))
    · rw [va_up_ne _ _ e] at hx
      have q := s5 x hx
      exact up _ _ (q) (by first | decide | (unfold kA; omega))
  · intro x hx
    by_cases e : x = k
    · subst e
      have q := n6 (by unfold va_up at hx; rw [if_pos rfl] at hx; exact hx)
      exact ⟨up _ _ (q.1) (by first | decide | (unfold kA; omega)), up _ _ (q.2.1) (by first | decide | (unfold kA; omega)), up _ _ (q.2.2.1) (by first | decide | (unfold kA; omega)), up _ _ (q.2.2.2.1) (by first | decide | (unfold kA; omega)), up _ _ (q.2.2.2.2.1) (by first | decide | (unfold kA; omega)), up _ _ (q.2.2.2.2.2.1) (by first | decide | (unfold kA; omega)), up _ _ (q.2.2.2.2.2.2.1) (by first | decide | (unfold kA; omega)), up _ _ (q.2.2.2.2.2.2.2.1) (by first | decide | (unfold kA; omega)), up _ _ (q.2.2.2.2.2.2.2.2.1) (by first | decide | (unfold kA; omega)), up _ _ (q.2.2.2.2.2.2.2.2.2.1) (by first | decide | (unfold kA; omega)), up _ _ (q.2.2.2.2.2.2.2.2.2.2) (by first | decide | (unfold kA; omega))⟩
    · rw [va_up_ne _ _ e] at hx
      have q := s6 x hx
      rw [hT x e]
      exact ⟨up _ _ (q.1) (by first | decide | (unfold kA; omega)), up _ _ (q.2.1) (by first | decide | (unfold kA; omega)), up _ _ (q.2.2.1) (by first | decide | (unfold kA; omega)), up _ _ (q.2.2.2.1) (by first | decide | (unfold kA; omega)), up _ _ (q.2.2.2.2.1) (by first | decide | (unfold kA; omega)), up _ _ (q.2.2.2.2.2.1) (by first | decide | (unfold kA; omega)), up _ _ (q.2.2.2.2.2.2.1) (by first | decide | (unfold kA; omega)), up _ _ (q.2.2.2.2.2.2.2.1) (by first | decide | (unfold kA; omega)), up _ _ (q.2.2.2.2.2.2.2.2.1) (by first | decide | (unfold kA; omega)), up _ _ (q.2.2.2.2.2.2.2.2.2.1) (by first | decide | (unfold kA; omega)), up _ _ (q.2.2.2.2.2.2.2.2.2.2) (by first | decide | (unfold kA; omega))⟩
  · intro x hx
    by_cases e : x = k
    · subst e
      have q := n7 (by unfold va_up at hx; rw [if_pos rfl] at hx; exact hx)
      exact ⟨up _ _ (q.1) (by first | decide | (unfold kA; omega)), up _ _ (q.2.1) (by first | decide | (unfold kA; omega)), up _ _ (q.2.2.1) (by first | decide | (unfold kA; omega)), up _ _ (q.2.2.2.1) (by first | decide | (unfold kA; omega)), up _ _ (q.2.2.2.2.1) (by first | decide | (unfold kA; omega)), up _ _ (q.2.2.2.2.2.1) (by first | decide | (unfold kA; omega)), up _ _ (q.2.2.2.2.2.2.1) (by first | decide | (unfold kA; omega)), up _ _ (q.2.2.2.2.2.2.2.1) (by first | decide | (unfold kA; omega)), up _ _ (q.2.2.2.2.2.2.2.2.1) (by first | decide | (unfold kA; omega)), up _ _ (q.2.2.2.2.2.2.2.2.2.1) (by first | decide | (unfold kA; omega)), up _ _ (q.2.2.2.2.2.2.2.2.2.2.1) (by first | decide | (unfold kA; omega)), up _ _ (q.2.2.2.2.2.2.2.2.2.2.2.1) (by first | decide | (unfold kA; omega)), up _ _ (q.2.2.2.2.2.2.2.2.2.2.2.2.1) (by first | decide | (unfold kA; omega)), up _ _ (q.2.2.2.2.2.2.2.2.2.2.2.2.2.1) (by first | decide | (unfold kA; omega)), up _ _ (q.2.2.2.2.2.2.2.2.2.2.2.2.2.2.1) (by first | decide | (unfold kA; omega)), up _ _ (q.2.2.2.2.2.2.2.2.2.2.2.2.2.2.2.1) (by first | decide | (unfold kA; omega)), up _ _ (q.2.2.2.2.2.2.2.2.2.2.2.2.2.2.2.2.1) (by first | decide | (unfold kA; omega)), up _ _ (q.2.2.2.2.2.2.2.2.2.2.2.2.2.2.2.2.2.1) (by first | decide | (unfold kA; omega)), up _ _ (q.2.2.2.2.2.2.2.2.2.2.2.2.2.2.2.2.2.2.1) (by first | decide | (unfold kA; omega)), up _ _ (q.2.2.2.2.2.2.2.2.2.2.2.2.2.2.2.2.2.2.2.1) (by first | decide | (unfold kA; omega)), up _ _ (q.2.2.2.2.2.2.2.2.2.2.2.2.2.2.2.2.2.2.2.2.1) (by first | decide | (unfold kA; omega)), up _ _ (q.2.2.2.2.2.2.2.2.2.2.2.2.2.2.2.2.2.2.2.2.2.1) (by first | decide | (unfold kA; omega)), up _ _ (q.2.2.2.2.2.2.2.2.2.2.2.2.2.2.2.2.2.2.2.2.2.2.1) (by first | decide | (unfold kA; omega)), up _ _ (q.2.2.2.2.2.2.2.2.2.2.2.2.2.2.2.2.2.2.2.2.2.2.2.1) (by first | decide | (unfold kA; omega)), up _ _ (q.2.2.2.2.2.2.2.2.2.2.2.2.2.2.2.2.2.2.2.2.2.2.2.2.1) (by first | decide | (unfold kA; omega)), up _ _ (q.2.2.2.2.2.2.2.2.2.2.2.2.2.2.2.2.2.2.2.2.2.2.2.2.2.1) (by first | decide | (unfold kA; omega)), up _ _ (q.2.2.2.2.2.2.2.2.2.2.2.2.2.2.2.2.2.2.2.2.2.2.2.2.2.2.1) (by first | decide | (unfold kA; omega)), up _ _ (q.2.2.2.2.2.2.2.2.2.2.2.2.2.2.2.2.2.2.2.2.2.2.2.2.2.2.2.1) (by first | decide | (unfold kA; omega)), up _ _ (q.2.2.2.2.2.2.2.2.2.2.2.2.2.2.2.2.2.2.2.2.2.2.2.2.2.2.2.2.1) (by first | decide | (unfold kA; omega)), up _ _ (q.2.2.2.2.2.2.2.2.2.2.2.2.2.2.2.2.2.2.2.2.2.2.2.2.2.2.2.2.2.1) (by first | decide | (unfold kA; omega)), up _ _ (q.2.2.2.2.2.2.2.2.2.2.2.2.2.2.2.2.2.2.2.2.2.2.2.2.2.2.2.2.2.2.1) (by first | decide | (unfold kA; omega)), up _ _ (q.2.2.2.2.2.2.2.2.2.2.2.2.2.2.2.2.2.2.2.2.2.2.2.2.2.2.2.2.2.2.2.1) (by first | decide | (unfold kA; omega)), up _ _ (q.2.2.2.2.2.2.2.2.2.2.2.2.2.2.2.2.2.2.2.2.2.2.2.2.2.2.2.2.2.2.2.2.1) (by first | decide | (unfold kA; omega)), up _ _ (q.2.2.2.2.2.2.2.2.2.2.2.2.2.2.2.2.2.2.2.2.2.2.2.2.2.2.2.2.2.2.2.2.2.1) (by first | decide | (unfold kA; omega)), up _ _ (q.2.2.2.2.2.2.2.2.2.2.2.2.2.2.2.2.2.2.2.2.2.2.2.2.2.2.2.2.2.2.2.2.2.2.1) (by first | decide | (unfold kA; omega)), up _ _ (q.2.2.2.2.2.2.2.2.2.2.2.2.2.2.2.2.2.2.2.2.2.2.2.2.2.2.2.2.2.2.2.2.2.2.2.1) (by first | decide | (unfold kA; omega)), up _ _ (q.2.2.2.2.2.2.2.2.2.2.2.2.2.2.2.2.2.2.2.2.2.2.2.2.2.2.2.2.2.2.2.2.2.2.2.2.1) (by first | decide | (unfold kA; omega)), up _ _ (q.2.2.2.2.2.2.2.2.2.2.2.2.2.2.2.2.2.2.2.2.2.2.2.2.2.2.2.2.2.2.2.2.2.2.2.2.2.1) (by first | decide | (unfold kA; omega)), up _ _ (q.2.2.2.2.2.2.2.2.2.2.2.2.2.2.2.2.2.2.2.2.2.2.2.2.2.2.2.2.2.2.2.2.2.2.2.2.2.2) (by first | decide | (unfold kA; omega))⟩
    · rw [va_up_ne _ _ e] at hx
      have q := s7 x hx
      exact ⟨up _ _ (q.1) (by first | decide | (unfold kA; omega)), up _ _ (q.2.1) (by first | decide | (unfold kA; omega)), up _ _ (q.2.2.1) (by first | decide | (unfold kA; omega)), up _ _ (q.2.2.2.1) (by first | decide | (unfold kA; omega)), up _ _ (q.2.2.2.2.1) (by first | decide | (unfold kA; omega)), up _ _ (q.2.2.2.2.2.1) (by first | decide | (unfold kA; omega)), up _ _ (q.2.2.2.2.2.2.1) (by first | decide | (unfold kA; omega)), up _ _ (q.2.2.2.2.2.2.2.1) (by first | decide | (unfold kA; omega)), up _ _ (q.2.2.2.2.2.2.2.2.1) (by first | decide | (unfold kA; omega)), up _ _ (q.2.2.2.2.2.2.2.2.2.1) (by first | decide | (unfold kA; omega)), up _ _ (q.2.2.2.2.2.2.2.2.2.2.1) (by first | decide | (unfold kA; omega)), up _ _ (q.2.2.2.2.2.2.2.2.2.2.2.1) (by first | decide | (unfold kA; omega)), up _ _ (q.2.2.2.2.2.2.2.2.2.2.2.2.1) (by first | decide | (unfold kA; omega)), up _ _ (q.2.2.2.2.2.2.2.2.2.2.2.2.2.1) (by first | decide | (unfold kA; omega)), up _ _ (q.2.2.2.2.2.2.2.2.2.2.2.2.2.2.1) (by first | decide | (unfold kA; omega)), up _ _ (q.2.2.2.2.2.2.2.2.2.2.2.2.2.2.2.1) (by first | decide | (unfold kA; omega)), up _ _ (q.2.2.2.2.2.2.2.2.2.2.2.2.2.2.2.2.1) (by first | decide | (unfold kA; omega)), up _ _ (q.2.2.2.2.2.2.2.2.2.2.2.2.2.2.2.2.2.1) (by first | decide | (unfold kA; omega)), up _ _ (q.2.2.2.2.2.2.2.2.2.2.2.2.2.2.2.2.2.2.1) (by first | decide | (unfold kA; omega)), up _ _ (q.2.2.2.2.2.2.2.2.2.2.2.2.2.2.2.2.2.2.2.1) (by first | decide | (unfold kA; omega)), up _ _ (q.2.2.2.2.2.2.2.2.2.2.2.2.2.2.2.2.2.2.2.2.1) (by first | decide | (unfold kA; omega)), up _ _ (q.2.2.2.2.2.2.2.2.2.2.2.2.2.2.2.2.2.2.2.2.2.1) (by first | decide | (unfold kA; omega)), up _ _ (q.2.2.2.2.2.2.2.2.2.2.2.2.2.2.2.2.2.2.2.2.2.2.1) (by first | decide | (unfold kA; omega)), up _ _ (q.2.2.2.2.2.2.2.2.2.2.2.2.2.2.2.2.2.2.2.2.2.2.2.1) (by first | decide | (unfold kA; omega)), up _ _ (q.2.2.2.2.2.2.2.2.2.2.2.2.2.2.2.2.2.2.2.2.2.2.2.2.1) (by first | decide | (unfold kA; omega)), up _ _ (q.2.2.2.2.2.2.2.2.2.2.2.2.2.2.2.2.2.2.2.2.2.2.2.2.2.1) (by first | decide | (unfold kA; omega)), up _ _ (q.2.2.2.2.2.2.2.2.2.2.2.2.2.2.2.2.2.2.2.2.2.2.2.2.2.2.1) (by first | decide | (unfold kA; omega)), up _ _ (q.2.2.2.2.2.2.2.2.2.2.2.2.2.2.2.2.2.2.2.2.2.2.2.2.2.2.2.1) (by first | decide | (unfold kA; omega)), up _ _ (q.2.2.2.2.2.2.2.2.2.2.2.2.2.2.2.2.2.2.2.2.2.2.2.2.2.2.2.2.1) (by first | decide | (unfold kA; omega)), up _ _ (q.2.2.2.2.2.2.2.2.2.2.2.2.2.2.2.2.2.2.2.2.2.2.2.2.2.2.2.2.2.1) (by first | decide | (unfold kA; omega)), up _ _ (q.2.2.2.2.2.2.2.2.2.2.2.2.2.2.2.2.2.2.2.2.2.2.2.2.2.2.2.2.2.2.1) (by first | decide | (unfold kA; omega)), up _ _ (q.2.2.2.2.2.2.2.2.2.2.2.2.2.2.2.2.2.2.2.2.2.2.2.2.2.2.2.2.2.2.2.1) (by first | decide | (unfold kA; omega)), up _ _ (q.2.2.2.2.2.2.2.2.2.2.2.2.2.2.2.2.2.2.2.2.2.2.2.2.2.2.2.2.2.2.2.2.1) (by first | decide | (unfold kA; omega)), up _ _ (q.2.2.2.2.2.2.2.2.2.2.2.2.2.2.2.2.2.2.2.2.2.2.2.2.2.2.2.2.2.2.2.2.2.1) (by first | decide | (unfold kA; omega)), up _ _ (q.2.2.2.2.2.2.2.2.2.2.2.2.2.2.2.2.2.2.2.2.2.2.2.2.2.2.2.2.2.2.2.2.2.2.1) (by first | decide | (unfold kA; omega)), up _ _ (q.2.2.2.2.2.2.2.2.2.2.2.2.2.2.2.2.2.2.2.2.2.2.2.2.2.2.2.2.2.2.2.2.2.2.2.1) (by first | decide | (unfold kA; omega)), up _ _ (q.2.2.2.2.2.2.2.2.2.2.2.2.2.2.2.2.2.2.2.2.2.2.2.2.2.2.2.2.2.2.2.2.2.2.2.2.1) (by first | decide | (unfold kA; omega)), up _ _ (q.2.2.2.2.2.2.2.2.2.2.2.2.2.2.2.2.2.2.2.2.2.2.2.2.2.2.2.2.2.2.2.2.2.2.2.2.2.1) (by first | decide | (unfold kA; omega)), up _ _ (q.2.2.2.2.2.2.2.2.2.2.2.2.2.2.2.2.2.2.2.2.2.2.2.2.2.2.2.2.2.2.2.2.2.2.2.2.2.2) (by first | decide | (unfold kA; omega))⟩
theorem Wo.push {G : Gm} {σ σ' : Sg} {H H1 : Heap} {c : Nat} (h : Wo G σ H) (z : H1.size = gB G + gN G + 1) (old : ∀ q : Nat, q < gB G + gN G → H1[q]? = H[q]?) (hn : va_at (gD G) vwCl (gB G + gN G, clE (gC G) (gB G) σ' (gN G) c) H1) (ho : ∀ x, x ≠ gN G → σ'.1 x = σ.1 x ∧ σ'.2.1 x = σ.2.1 x ∧ σ'.2.2.1 x = σ.2.2.1 x ∧ σ'.2.2.2 x = σ.2.2.2 x) (hc : c = 9 ∨ 16 ≤ c) (hT : ∀ j, σ'.2.2.1 (gN G) j = 0) : Wo (gPush G c) σ' H1 := by
  refine ⟨by rw [z]; exact Nat.add_assoc _ _ _, fun x hx => ?_, fun q hq => ?_, sh_push h.2.2.2 hc (fun x hx => (ho x hx).2.2.1) hT⟩
  · show va_at (gD G) vwCl (gB G + x, clE (gC G) (gB G) σ' x (va_up (gK G) (gN G) c x)) H1
    by_cases e : x = gN G
    · rw [e]; unfold va_up; rw [if_pos rfl]; exact hn
    · have hx2 : x < gN G + 1 := hx
      have hx3 : x < gN G := by omega
      rw [va_up_ne _ _ e]
      obtain ⟨h1, h2, h3, h4⟩ := ho x e
      rw [clE_eq h1 h2 h3 h4]
      exact (h.2.1 x hx3).kept (old _ (by show gB G + x < gB G + gN G; omega))
  · show H1[q]? = (gH G)[q]?
    have hq2 : q < gB G := hq
    rw [old q (by omega)]; exact h.2.2.1 q hq2
theorem Wo.kind {G : Gm} {σ σ' : Sg} {H : Heap} {k c : Nat} (h : Wo G σ H) (hk : gK G k = 9) (he : clE (gC G) (gB G) σ' k c = σ.2.2.2 k) (ho : ∀ x, x ≠ k → σ'.1 x = σ.1 x ∧ σ'.2.1 x = σ.2.1 x ∧ σ'.2.2.1 x = σ.2.2.1 x ∧ σ'.2.2.2 x = σ.2.2.2 x) (hs : Sh (va_up (gK G) k c) (gN G) σ'.2.2.1) : Wo (gKind G k c) σ' H := by
  refine ⟨h.1, fun x hx => ?_, h.2.2.1, hs⟩
  show va_at (gD G) vwCl (gB G + x, clE (gC G) (gB G) σ' x (va_up (gK G) k c x)) H
  have hx2 : x < gN G := hx
  by_cases e : x = k
  · subst e
    unfold va_up
    rw [if_pos rfl, he]
    have := h.2.1 x hx2
    rw [hk] at this
    exact this
  · rw [va_up_ne _ _ e]
    obtain ⟨h1, h2, h3, h4⟩ := ho x e
    rw [clE_eq h1 h2 h3 h4]
    exact h.2.1 x hx2
def Mn (l : Launch) (G : Gm) (y : MethodName) (bc : ByteArray) (mL fr lo mc ms : Nat) (as : List Value) (σ : Sg) (G' : Gm) (σ' : Sg) : Prop := gS G G' ∧ Met l y (.code y bc mL none :: TB) { frames := fr, cells := mc, slots := ms, locals := lo } (PW G as σ) (va_Qv (fun (_ : Unit) => True) (fun _ t => Wo G' σ' t.heap) (fR G)) mc ms (fR G)
def z0 (σ : Sg) (k : Nat) : Sg := (va_up σ.1 k (fun _ => 0), va_up σ.2.1 k (fun _ => 0), va_up σ.2.2.1 k (fun _ => 0), σ.2.2.2)
theorem oZ {σ : Sg} {k : Nat} : ∀ x, x ≠ k → (z0 σ k).1 x = σ.1 x ∧ (z0 σ k).2.1 x = σ.2.1 x ∧ (z0 σ k).2.2.1 x = σ.2.2.1 x ∧ (z0 σ k).2.2.2 x = σ.2.2.2 x := fun x hx => ⟨va_up_ne _ _ hx, va_up_ne _ _ hx, va_up_ne _ _ hx, rfl⟩
def zE (σ : Sg) (k : Nat) (e : va_E) : Sg := wE (z0 σ k) k e
theorem oZE {σ : Sg} {k : Nat} {e : va_E} : ∀ x, x ≠ k → (zE σ k e).1 x = σ.1 x ∧ (zE σ k e).2.1 x = σ.2.1 x ∧ (zE σ k e).2.2.1 x = σ.2.2.1 x ∧ (zE σ k e).2.2.2 x = σ.2.2.2 x := fun x hx => ⟨va_up_ne _ _ hx, va_up_ne _ _ hx, va_up_ne _ _ hx, va_up_ne _ _ hx⟩
section MADE
variable {p : Program} {l : Launch} {e : Env} {R : Room} {s : State} {m : MethodId} {args : Array Value} {below : List Frame} {meth : Method} {c : Code} {H H0 : Heap} {locs : List Loc} {cells slots : Nat} {Q : State → Prop} {cc : ByteArray} {own : String} {nL : Nat} {Y : Cond} {G : Gm} {σ : Sg} {pc : Nat} {ls : Array Slot} {rest : List Value}
theorem va_S.grow {A : Nat → Prop} {H0 H H1 : Heap} {locs : List Loc} (h : va_S A H0 H locs) {n : Nat} (hn : H.size = n) (z : H1.size = n + 1) (old : ∀ q : Nat, q < n → H1[q]? = H[q]?) : va_S A H0 H1 locs := ⟨by have := h.1; omega, fun q h1 h2 => by have := h.1; rw [old q (by omega)]; exact h.2.1 q h1 h2, h.2.2⟩
theorem wnew (C : Cx p s m args c cc own nL Y G) (hW : Ws G σ H0 H locs) {CC : String} {T : u_T} {N ci idx : Nat} (hin : ∀ w ∈ u_ws CC T N, w ∈ TB) (ty : Nat → FieldType) (hty : ∀ k, k < N → parseFieldDescriptor (T k).2.2.1 = some (ty k)) (hc : vwCl[ci]? = some (CC, T, N)) (hcl : Cond.classLink own idx CC ∈ TB) (hinst : Cond.instantiable CC N ∈ TB) (hini : Cond.initialized CC ∈ TB) {fs : List Value} (hfs : ∀ j, j < N → defaultValue (ty j) = vp_V fs j) (hcells : cells + 1 ≤ R.cells) (hslots : slots + N ≤ R.slots) (hdg : decode cc pc = .ok (.new idx, 3))
    (kk : ∀ (H1 : Heap), Ws (gPush G 9) (zE σ (gN G) (.inr (ci, fs))) H0 H1 locs → W p l e R s m args below meth c H1 locs (cells + 1) (slots + N) Q (F0 m (pc + 3) ls (.ref (gB G + gN G) :: rest))) : W p l e R s m args below meth c H locs cells slots Q (F0 m pc ls rest) := by
  have hts : ∀ w ∈ Y :: TB, w.before args s = true := C.1.2.2.2.2
  have hin' : ∀ w ∈ u_ws CC T N, w ∈ Y :: TB := fun w h => List.mem_cons_of_mem _ (hin w h)
  have hKn := C.2.1.1 ci _ hc
  refine W.newcK C.1.1 C.1.2.1 C.1.2.2.2.1 (C.w hcl) (C.w hinst) (C.w hini) rfl hdg hcells hslots hKn.2.1 hW.1.1 fun H1 kC hkC e1 z1 o1 => ?_
  refine kk H1 ⟨hW.1.push z1 o1 ?_ oZE (Or.inl rfl) (fun j => by simp [zE, wE, z0, va_up]), hW.2.grow hW.1.1 z1 o1⟩
  have e9 : clE (gC G) (gB G) (zE σ (gN G) (.inr (ci, fs))) (gN G) 9 = .inr (ci, fs) := by simp [clE, obE, zE, wE, va_up]
  rw [e9]
  exact ⟨_, hc, (u_born ty hts hin' hKn hkC e1 hty).to hfs⟩
theorem wnI (C : Cx p s m args c cc own nL Y G) (hW : Ws G σ H0 H locs) (harr : Cond.arrayClass .int ∈ TB) {n : Int32} {N : Nat} (hn : ¬ n < 0) (hN : n.toNatClampNeg = N) (hbytes : N * 8 ≤ 536870912) (hcells : cells + 1 ≤ R.cells) (hslots : slots + N ≤ R.slots) (hdg : decode cc pc = .ok (.newarray .int, 2))
    (kk : ∀ (H1 : Heap), Ws (gPush G (kA 1 N)) (z0 σ (gN G)) H0 H1 locs → W p l e R s m args below meth c H1 locs (cells + 1) (slots + N) Q (F0 m (pc + 2) ls (.ref (gB G + gN G) :: rest))) : W p l e R s m args below meth c H locs cells slots Q (F0 m pc ls (.int n :: rest)) := by
  refine va_newaK C.1.1 C.1.2.1 (atype := .int) (C.w harr) rfl hdg rfl hn hN (Nat.le_trans (Nat.mul_le_mul_left N (show componentBytes .int ≤ 8 by decide)) hbytes) hcells hslots hW.1.1 fun H1 cA e1 z1 o1 hAr hNm => ?_
  have hcA : cA = gC G 1 := Option.some.inj (hNm.symm.trans (C.2.1.2 1 _ rfl).2)
  subst hcA
  refine kk H1 ⟨hW.1.push z1 o1 ?_ oZ (Or.inr (by unfold kA; omega)) (fun j => by simp [z0, va_up]), hW.2.grow hW.1.1 z1 o1⟩
  rw [clE_A (by omega)]
  show H1[_]? = some (vp_cell _ _)
  rw [e1]
  simp only [z0, va_up, if_true]
  rfl
theorem wnB (C : Cx p s m args c cc own nL Y G) (hW : Ws G σ H0 H locs) (harr : Cond.arrayClass .byte ∈ TB) {n : Int32} {N : Nat} (hn : ¬ n < 0) (hN : n.toNatClampNeg = N) (hbytes : N * 8 ≤ 536870912) (hcells : cells + 1 ≤ R.cells) (hslots : slots + N ≤ R.slots) (hdg : decode cc pc = .ok (.newarray .byte, 2))
    (kk : ∀ (H1 : Heap), Ws (gPush G (kA 0 N)) (z0 σ (gN G)) H0 H1 locs → W p l e R s m args below meth c H1 locs (cells + 1) (slots + N) Q (F0 m (pc + 2) ls (.ref (gB G + gN G) :: rest))) : W p l e R s m args below meth c H locs cells slots Q (F0 m pc ls (.int n :: rest)) := by
  refine va_newaK C.1.1 C.1.2.1 (atype := .byte) (C.w harr) rfl hdg rfl hn hN (Nat.le_trans (Nat.mul_le_mul_left N (show componentBytes .byte ≤ 8 by decide)) hbytes) hcells hslots hW.1.1 fun H1 cA e1 z1 o1 hAr hNm => ?_
  have hcA : cA = gC G 0 := Option.some.inj (hNm.symm.trans (C.2.1.2 0 _ rfl).2)
  subst hcA
  refine kk H1 ⟨hW.1.push z1 o1 ?_ oZ (Or.inr (by unfold kA; omega)) (fun j => by simp [z0, va_up]), hW.2.grow hW.1.1 z1 o1⟩
  rw [clE_A (by omega)]
  show H1[_]? = some (vp_cell _ _)
  rw [e1]
  simp only [z0, va_up, if_true]
  rfl
theorem wnJ (C : Cx p s m args c cc own nL Y G) (hW : Ws G σ H0 H locs) (harr : Cond.arrayClass .long ∈ TB) {n : Int32} {N : Nat} (hn : ¬ n < 0) (hN : n.toNatClampNeg = N) (hbytes : N * 8 ≤ 536870912) (hcells : cells + 1 ≤ R.cells) (hslots : slots + N ≤ R.slots) (hdg : decode cc pc = .ok (.newarray .long, 2))
    (kk : ∀ (H1 : Heap), Ws (gPush G (kA 2 N)) (z0 σ (gN G)) H0 H1 locs → W p l e R s m args below meth c H1 locs (cells + 1) (slots + N) Q (F0 m (pc + 2) ls (.ref (gB G + gN G) :: rest))) : W p l e R s m args below meth c H locs cells slots Q (F0 m pc ls (.int n :: rest)) := by
  refine va_newaK C.1.1 C.1.2.1 (atype := .long) (C.w harr) rfl hdg rfl hn hN (Nat.le_trans (Nat.mul_le_mul_left N (show componentBytes .long ≤ 8 by decide)) hbytes) hcells hslots hW.1.1 fun H1 cA e1 z1 o1 hAr hNm => ?_
  have hcA : cA = gC G 2 := Option.some.inj (hNm.symm.trans (C.2.1.2 2 _ rfl).2)
  subst hcA
  refine kk H1 ⟨hW.1.push z1 o1 ?_ oZ (Or.inr (by unfold kA; omega)) (fun j => by simp [z0, va_up]), hW.2.grow hW.1.1 z1 o1⟩
  rw [clE_A (by omega)]
  show H1[_]? = some (vp_cell _ _)
  rw [e1]
  simp only [z0, va_up, if_true]
  rfl
theorem wnZ (C : Cx p s m args c cc own nL Y G) (hW : Ws G σ H0 H locs) (harr : Cond.arrayClass .boolean ∈ TB) {n : Int32} {N : Nat} (hn : ¬ n < 0) (hN : n.toNatClampNeg = N) (hbytes : N * 8 ≤ 536870912) (hcells : cells + 1 ≤ R.cells) (hslots : slots + N ≤ R.slots) (hdg : decode cc pc = .ok (.newarray .boolean, 2))
    (kk : ∀ (H1 : Heap), Ws (gPush G (kA 3 N)) (z0 σ (gN G)) H0 H1 locs → W p l e R s m args below meth c H1 locs (cells + 1) (slots + N) Q (F0 m (pc + 2) ls (.ref (gB G + gN G) :: rest))) : W p l e R s m args below meth c H locs cells slots Q (F0 m pc ls (.int n :: rest)) := by
  refine va_newaK C.1.1 C.1.2.1 (atype := .boolean) (C.w harr) rfl hdg rfl hn hN (Nat.le_trans (Nat.mul_le_mul_left N (show componentBytes .boolean ≤ 8 by decide)) hbytes) hcells hslots hW.1.1 fun H1 cA e1 z1 o1 hAr hNm => ?_
  have hcA : cA = gC G 3 := Option.some.inj (hNm.symm.trans (C.2.1.2 3 _ rfl).2)
  subst hcA
  refine kk H1 ⟨hW.1.push z1 o1 ?_ oZ (Or.inr (by unfold kA; omega)) (fun j => by simp [z0, va_up]), hW.2.grow hW.1.1 z1 o1⟩
  rw [clE_A (by omega)]
  show H1[_]? = some (vp_cell _ _)
  rw [e1]
  simp only [z0, va_up, if_true]
  rfl
theorem wnQ (C : Cx p s m args c cc own nL Y G) (hW : Ws G σ H0 H locs) {idx : Nat} (hcl : Cond.classLink own idx "RightKeys$Ring" ∈ TB) {n : Int32} {N : Nat} (hn : ¬ n < 0) (hN : n.toNatClampNeg = N) (hbytes : N * 4 ≤ 536870912) (hcells : cells + 1 ≤ R.cells) (hslots : slots + N ≤ R.slots) (hdg : decode cc pc = .ok (.anewarray idx, 3))
    (kk : ∀ (H1 : Heap), Ws (gPush G (kA 4 N)) (z0 σ (gN G)) H0 H1 locs → W p l e R s m args below meth c H1 locs (cells + 1) (slots + N) Q (F0 m (pc + 3) ls (.ref (gB G + gN G) :: rest))) : W p l e R s m args below meth c H locs cells slots Q (F0 m pc ls (.int n :: rest)) := by
  subst hN
  refine W.anew C.1.1 C.1.2.1 C.1.2.2.2.1 (C.w hcl) (va_AO.use C.2.2.2.2.2.2.2) rfl hdg rfl hn hbytes hcells hslots fun cA kA9 comp h1 h2 h3 h4 => ?_
  obtain ⟨_, _, _, _, _, hf4⟩ : ∃ (k9 : Class) (c9 : ClassId), s.vm.classes[gC G 4]? = some k9 ∧ k9.kind = .array c9 (.object "RightKeys$Ring") ∧ s.vm.findClass "RightKeys$Ring" = some c9 ∧ s.vm.findClass ("[" ++ (FieldType.object "RightKeys$Ring").toString) = some (gC G 4) := (C.2.1.2 4 _ rfl).2
  have hcA : cA = gC G 4 := Option.some.inj (h1.symm.trans hf4)
  subst hcA
  have hs9 := hW.1.1
  have z1 : (H.push { cls := gC G 4, slots := Array.replicate n.toNatClampNeg .null, vm := .none }).size = gB G + gN G + 1 := by rw [Array.size_push, hs9]
  have o1 : ∀ q : Nat, q < gB G + gN G → (H.push { cls := gC G 4, slots := Array.replicate n.toNatClampNeg .null, vm := .none })[q]? = H[q]? := fun q hq => by rw [Array.getElem?_push, if_neg (by omega)]
  have goal := kk _ ⟨hW.1.push z1 o1 ?_ oZ (Or.inr (by unfold kA; omega)) (fun j => by simp [z0, va_up]), hW.2.grow hW.1.1 z1 o1⟩
  · rw [hs9]; exact goal
  · rw [clE_A (by omega)]
    show (H.push _)[gB G + gN G]? = some (vp_cell _ _)
    rw [← hs9]
    have e1 : vp_cell (gC G 4) (n.toNatClampNeg, .inr (.inr (.inr (.inr (fun j => if (z0 σ (gN G)).2.2.1 (gN G) j = 0 then none else some (gB G + (z0 σ (gN G)).2.2.1 (gN G) j)))))) = arrV (gC G 4) n.toNatClampNeg (fun _ => .null) := by
      rw [vp_cell_q]
      congr 1
      funext j
      simp [z0, va_up, va_rf]
    rw [e1, ← arrV_new]
    simp
theorem wpR (C : Cx p s m args c cc own nL Y G) (hW : Ws G σ H0 H locs) {k ci : Nat} {CC : String} {T : u_T} {N : Nat} (hin : ∀ w ∈ u_ws CC T N, w ∈ TB) (ty0 : Nat → FieldType) (hty : ∀ k, k < N → parseFieldDescriptor (T k).2.2.1 = some (ty0 k)) (hnm : ∀ a, a < N → ∀ b, b < N → a ≠ b → (T a).2.1 ≠ (T b).2.1) (hc : vwCl[ci]? = some (CC, T, N)) (hk : gK G k = 9) {fs : List Value} (hE : σ.2.2.2 k = .inr (ci, fs)) (j : Nat) (hj : j < N) {idx : Nat} (hl : Cond.fieldLink own idx (T j).1 (T j).2.1 (T j).2.2.1 ∈ TB) (hfin : (T j).2.2.2 = false) {ty : FieldType} {v : Value} (hd : parseFieldDescriptor (T j).2.2.1 = some ty) (hn : narrow ty v = v) (hfit : fits ty v = true) (hlen : j < fs.length) (hdg : decode cc pc = .ok (.putfield idx, 3))
    (kk : ∀ (H1 : Heap) (locs1 : List Loc), Ws G (wE σ k (.inr (ci, fs.set j v))) H0 H1 locs1 → (wE σ k (.inr (ci, fs.set j v))).2.2.2 k = .inr (ci, fs.set j v) → W p l e R s m args below meth c H1 locs1 cells slots Q (F0 m (pc + 3) ls rest)) : W p l e R s m args below meth c H locs cells slots Q (F0 m pc ls (v :: .ref (gB G + k) :: rest)) :=
  wpf C hW hin ty0 hty hnm hc (hW.lt hk) (by rw [hk]; exact hE) j hj hl hfin hd hn hfit hlen (wE σ k (.inr (ci, fs.set j v))) (by rw [hk]; simp [clE, obE, wE, va_up]) oE hW.1.2.2.2 hdg (fun H1 locs1 h => kk H1 locs1 h (by simp [wE, va_up]))
theorem wpF (C : Cx p s m args c cc own nL Y G) (hW : Ws G σ H0 H locs) (hin2 : meth.name = "<init>") {k ci : Nat} {T : u_T} {N : Nat} (hin : ∀ w ∈ u_ws own T N, w ∈ TB) (ty0 : Nat → FieldType) (hty : ∀ k, k < N → parseFieldDescriptor (T k).2.2.1 = some (ty0 k)) (hnm : ∀ a, a < N → ∀ b, b < N → a ≠ b → (T a).2.1 ≠ (T b).2.1) (hc : vwCl[ci]? = some (own, T, N)) (hk : gK G k = 9) {fs : List Value} (hE : σ.2.2.2 k = .inr (ci, fs)) (j : Nat) (hj : j < N) {idx : Nat} (hl : Cond.fieldLink own idx (T j).1 (T j).2.1 (T j).2.2.1 ∈ TB) (hfin : (T j).2.2.2 = true) (hdecl : (T j).1 = own) {ty : FieldType} {v : Value} (hd : parseFieldDescriptor (T j).2.2.1 = some ty) (hn : narrow ty v = v) (hfit : fits ty v = true) (hlen : j < fs.length) (hdg : decode cc pc = .ok (.putfield idx, 3))
    (kk : ∀ (H1 : Heap) (locs1 : List Loc), Ws G (wE σ k (.inr (ci, fs.set j v))) H0 H1 locs1 → (wE σ k (.inr (ci, fs.set j v))).2.2.2 k = .inr (ci, fs.set j v) → W p l e R s m args below meth c H1 locs1 cells slots Q (F0 m (pc + 3) ls rest)) : W p l e R s m args below meth c H locs cells slots Q (F0 m pc ls (v :: .ref (gB G + k) :: rest)) := by
  have hts : ∀ w ∈ Y :: TB, w.before args s = true := C.1.2.2.2.2
  have hin' : ∀ w ∈ u_ws own T N, w ∈ Y :: TB := fun w h => List.mem_cons_of_mem _ (hin w h)
  have hK := C.2.1
  have hown := C.1.2.2.2.1
  have hap := va_apart (own := own) hts hin' ty0 hty hnm hK hc
  obtain ⟨r, h1, cell, q1, q2, q3, q4⟩ : va_at (gD G) vwCl (gB G + k, .inr (ci, fs)) H := by
    have := hW.1.2.1 k (hW.lt hk); rw [hk] at this; rw [← hE]; exact this
  have hr : r = (own, T, N) := Option.some.inj (h1.symm.trans hc)
  subst hr
  obtain ⟨hS, hfc, kC, hkC, hkind⟩ := hK.1 ci _ hc
  obtain ⟨cf, kf, fi, f, hi, hsl⟩ := hS j hj
  have hlay := hts _ (hin' _ (u_in_lay hj))
  unfold u_lay at hlay
  rw [if_pos hfin] at hlay
  have hst := (u_facts hfc hkC (u_lays hts hin' hj) hi).1
  have hcf : m.cls = cf := by
    obtain ⟨_, _, c', _, _, _, -, -, hf', -, -, -, hown2, -⟩ := Cond.laysFinal_spec hlay
    have e1 : c' = cf := by have := hi.symm.trans hf'; simp at this; exact this.1.symm
    rw [hdecl] at hown2
    rw [← e1]; exact Option.some.inj (hown.symm.trans hown2)
  have h6 := u_fits hfc hkC hkind (Or.inr hlay) hi hd hn hfit
  refine W.putFinK C.1.1 C.1.2.1 hown (C.w hl) hi hst hcf hin2 (by rw [q2]; exact h6) q1 q3 (by rw [hsl]; exact k2_hasslot (q4 j hj)) rfl rfl hdg fun H' e1 e2 e3 => ?_
  rw [hsl] at e1 ⊢
  refine kk H' _ ⟨hW.1.upd e2 e3 ?_ oE hW.1.2.2.2, hW.2.put e2 e3 (Nat.le_add_right _ _)⟩ (by simp [wE, va_up])
  have e9 : clE (gC G) (gB G) (wE σ k (.inr (ci, fs.set j v))) k (gK G k) = .inr (ci, fs.set j v) := by rw [hk]; simp [clE, obE, wE, va_up]
  rw [e9]
  exact ⟨_, hc, t_OB.to (V := updV (vp_V fs) j v) ⟨_, e1, q2, q3, t_set q4 hap hj v⟩ (fun i _ => vp_updV_set hlen v i)⟩
theorem wgR (C : Cx p s m args c cc own nL Y G) (hW : Ws G σ H0 H locs) {k ci : Nat} {CC : String} {T : u_T} {N : Nat} (hin : ∀ w ∈ u_ws CC T N, w ∈ TB) (hc : vwCl[ci]? = some (CC, T, N)) (hk : gK G k = 9) {fs : List Value} (hE : σ.2.2.2 k = .inr (ci, fs)) (j : Nat) (hj : j < N) {idx : Nat} (hl : Cond.fieldLink own idx (T j).1 (T j).2.1 (T j).2.2.1 ∈ TB) {v : Value} (hv : fs[j]? = some v) (hdg : decode cc pc = .ok (.getfield idx, 3))
    (kk : W p l e R s m args below meth c H locs cells slots Q (F0 m (pc + 3) ls (v :: rest))) : W p l e R s m args below meth c H locs cells slots Q (F0 m pc ls (.ref (gB G + k) :: rest)) := wgf C hW hin hc (hW.lt hk) (by rw [hk]; exact hE) j hj hl hv hdg kk
theorem rn {G0 : Gm} {mc ms : Nat} {Gf : Gm} {σf : Sg} (hQ : Q = MQ below (va_Qv (fun (_ : Unit) => True) (fun _ t => Wo Gf σf t.heap) (fR G0)) args s mc ms (fR G0)) (C : Cx p s m args c cc own nL Y G) (hr : meth.sig.returnType = none) (hlk : meth.locks = false) (hG : gS G0 G) (hW : Ws G σ s.heap H locs) (hf : some (G, σ) = some (Gf, σf)) (hdg : decode cc pc = .ok (.return_, 1)) : W p l e R s m args below meth c H locs mc ms Q (F0 m pc ls []) := by
  cases hf
  subst hQ
  obtain ⟨N, kd, rfl⟩ := hG
  exact W.vret C.1.1 C.1.2.1 hr (fun t ht _ => ⟨⟨(), rfl, trivial, by show Wo _ _ t.heap; rw [ht]; exact hW.1⟩, hW.2.F ht⟩) hW.2.2.2 hdg hlk
def KI (y : MethodName) (bc : ByteArray) (mL n : Nat) : Prop := (Cond.instanceMethod y ∈ TB ∧ Cond.initialized y.cls ∈ TB ∧ Cond.code y bc mL none ∈ TB) ∧ y.name = "<init>" ∧ (y.cls ≠ "java/lang/invoke/MethodHandle" ∧ y.cls ≠ "java/lang/invoke/VarHandle" ∧ (parseMethodDescriptor y.desc).map (fun d => d.parameters.length) = some n)
theorem cIn (C : Cx p s m args c cc own nL Y G) (hW : Ws G σ H0 H locs) {y : MethodName} {bc : ByteArray} {mL fr lo mc ms k n idx : Nat} {As : List Value} {G' : Gm} {σ' : Sg} (hM : Mn l G y bc mL fr lo mc ms (.ref (gB G + k) :: As) σ G' σ') (ki : KI y bc mL n) (hl : Cond.methodLink own idx y ∈ TB) (hR : fr + 1 ≤ R.frames ∧ 8 + (mL + 11) + lo ≤ R.locals) (hc : cells + mc ≤ R.cells ∧ slots + ms ≤ R.slots) (hn : As.length = n) (hsz : ls.size = nL) {st0 : List Value} (hst : st0 = As.reverse ++ .ref (gB G + k) :: rest) (hcat : (rest.map fun v => v.category).sum ≤ 8) (hdg : decode cc pc = .ok (.invokespecial idx, 3))
    (kk : ∀ (H1 : Heap) (locs1 : List Loc), gS G G' → Ws G' σ' H0 H1 locs1 → W p l e R s m args below meth c H1 locs1 (cells + mc) (slots + ms) Q (F0 m (pc + 3) ls rest)) : W p l e R s m args below meth c H locs cells slots Q (F0 m pc ls st0) := by
  subst hst
  obtain ⟨hg, hM⟩ := hM
  have hg2 := hg
  obtain ⟨N9, kd9, rfl⟩ := hg
  exact va_callv (va_runI C.1 hM ⟨callB_of n C.1.2.2.2.2 (gdS ki.1.2.2) rfl rfl rfl (C.w ki.1.2.1) (C.w hl) ki.2.2 hR, ki.2.1, C.w ki.1.1⟩ (prS C hW) rfl hn hsz rfl (lv_room hcat) hdg hc) hW.2 (fun q _ h => h) (fun q h => h) (fun u t H1 locs1 ht hvm hw hB hz1 hk1 hS => kk H1 locs1 hg2 ⟨by rw [← ht]; exact hB, hS⟩)
theorem cIN (C : Cx p s m args c cc own nL Y G) (hW : Ws G σ H0 H locs) {y : MethodName} {bc : ByteArray} {mL fr lo mc ms k n idx : Nat} {As : List Value} {G' : Gm} {σ' : Sg} (hM : Mn l G y bc mL fr lo mc ms (.ref (gB G + k) :: As) σ G' σ') (ki : KI y bc mL n) (hl : (own, idx, y, "RightKeys") ∈ nwL) (hR : fr + 1 ≤ R.frames ∧ 8 + (mL + 11) + lo ≤ R.locals) (hc : cells + mc ≤ R.cells ∧ slots + ms ≤ R.slots) (hn : As.length = n) (hsz : ls.size = nL) {st0 : List Value} (hst : st0 = As.reverse ++ .ref (gB G + k) :: rest) (hcat : (rest.map fun v => v.category).sum ≤ 8) (hdg : decode cc pc = .ok (.invokespecial idx, 3))
    (kk : ∀ (H1 : Heap) (locs1 : List Loc), gS G G' → Ws G' σ' H0 H1 locs1 → W p l e R s m args below meth c H1 locs1 (cells + mc) (slots + ms) Q (F0 m (pc + 3) ls rest)) : W p l e R s m args below meth c H locs cells slots Q (F0 m pc ls st0) := by
  subst hst
  obtain ⟨hg, hM⟩ := hM
  have hg2 := hg
  obtain ⟨N9, kd9, rfl⟩ := hg
  exact va_callv (va_runIN C.1 hM ⟨va_cnB n C.1.2.2.2.2 (gdS ki.1.2.2) rfl rfl rfl (C.2.2.1 _ hl) (C.w ki.1.2.1) ki.2.2 hR, ki.2.1, C.w ki.1.1⟩ (prS C hW) rfl hn hsz rfl (lv_room hcat) hdg hc) hW.2 (fun q _ h => h) (fun q h => h) (fun u t H1 locs1 ht hvm hw hB hz1 hk1 hS => kk H1 locs1 hg2 ⟨by rw [← ht]; exact hB, hS⟩)
theorem wsQ (C : Cx p s m args c cc own nL Y G) (hW : Ws G σ H0 H locs) {k n v : Nat} (hk : gK G k = kA 4 n) (hv : gK G v = 3) (hv0 : v ≠ 0) {i : Int32} (hi : vp_in i n) (hdg : decode cc pc = .ok (.aastore, 1))
    (kk : ∀ (H1 : Heap) (locs1 : List Loc), Ws G (wT σ k i.toNatClampNeg v) H0 H1 locs1 → W p l e R s m args below meth c H1 locs1 cells slots Q (F0 m (pc + 1) ls rest)) : W p l e R s m args below meth c H locs cells slots Q (F0 m pc ls (.ref (gB G + v) :: .int i :: .ref (gB G + k) :: rest)) := by
  have hlt : i.toNatClampNeg < n := Nat.not_le.mp fun q => hi (Or.inr q)
  have h0 : ¬ i < 0 := fun q => hi (Or.inl q)
  have ha : H[gB G + k]? = some (vp_cell (gC G 4) (n, .inr (.inr (.inr (.inr (fun j => if σ.2.2.1 k j = 0 then none else some (gB G + σ.2.2.1 k j))))))) := by
    have := hW.1.2.1 k (hW.ltA hk); rw [hk, clE_A (by omega)] at this; exact this
  obtain ⟨r, h1, cell, q1, q2, q3, q4⟩ : va_at (gD G) vwCl (gB G + v, obE (gB G) σ v 3) H := by
    have := hW.1.2.1 v (hW.lt hv); rw [hv] at this; exact this
  obtain ⟨kA9, comp, g1, g2, g3, g4⟩ := (C.2.1.2 4 _ rfl).2
  have hr : r = (RX2, TX2, 20) := Option.some.inj (h1.symm.trans rfl)
  subst hr
  obtain ⟨-, hfc, kC, hkC, hkind⟩ := C.2.1.1 2 _ rfl
  have hce : gD G |>.1 2 |> fun x => x = comp := Option.some.inj (hfc.symm.trans g3)
  refine W.aast C.1.1 C.1.2.1 (v := gB G + v) ha (fun _ h => by cases h) (fun h => by cases h) g1 g2 rfl (kcomp := kC) (by rw [← hce]; exact hkC) ⟨h0, by show _ < (arrV _ _ _).slots.size; rw [arrV_size]; exact hlt⟩ q1 (fun _ h => by rw [q3] at h; cases h) (by rw [q2]; exact hkC) (by rw [q2, ← hce]; exact va_asg _ _) rfl rfl hdg fun H1 e1 z oq => ?_
  have hs9 : Sh (gK G) (gN G) (wT σ k i.toNatClampNeg v).2.2.1 := by
    obtain ⟨a0, hR, s0, s1, s2, s3, s4, s5, s6, s7⟩ := hW.1.2.2.2
    have hne : ∀ x y, gK G x < 16 → (wT σ k i.toNatClampNeg v).2.2.1 x y = σ.2.2.1 x y := fun x y hx => by
      show va_up σ.2.2.1 k _ x y = _
      rw [va_up_ne _ _ (fun q => by rw [q, hk] at hx; unfold kA at hx; omega)]
    refine ⟨a0, fun x n' hx y hy => ?_, s0, fun x hx => ?_, fun x hx => ?_, s3, s4, s5, fun x hx => ?_, s7⟩
    · have e2 : (wT σ k i.toNatClampNeg v).2.2.1 x y = if x = k ∧ y = i.toNatClampNeg then v else σ.2.2.1 x y := up2 _ _ _ _ _ _
      rw [e2] at hy ⊢
      split
      · exact hv
      · rename_i hn9
        rw [if_neg hn9] at hy
        exact hR x n' hx y hy
    · rw [hne x 2 (by rw [hx]; decide)]; exact s1 x hx
    · rw [hne x 0 (by rw [hx]; decide)]; exact s2 x hx
    · rw [hne x 3 (by rw [hx]; decide), hne x 4 (by rw [hx]; decide)]; exact s6 x hx
  refine kk H1 _ ⟨hW.1.upd z oq ?_ oT hs9, hW.2.put z oq (Nat.le_add_right _ _)⟩
  rw [hk, clE_A (by omega)]
  show H1[_]? = some (vp_cell _ _)
  rw [e1, vp_cell_q, vp_cell_q, arrV_store]
  congr 2
  funext q
  by_cases hq : q = i.toNatClampNeg
  · subst hq; simp [updV, wT, va_up, va_rf, hv0]
  · simp [updV, wT, va_up, hq]
end MADE
