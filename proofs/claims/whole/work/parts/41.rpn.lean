/-! terms of a law, as both systems keep them: numbers, variables, and signs behind their two sides -/
def rop (k : Nat) (a b : Int32) : Int32 := if k = 2 then a + b else if k = 3 then a - b else if k = 4 then a * b else a / b
def rpn (v : Nat → Int32) : List (Nat × Nat) → List Int32 → Option (List Int32)
  | [], st => some st
  | (k, x) :: r, st => if k = 0 then rpn v r (nI x :: st) else if k = 1 then rpn v r (v x :: st) else match st with
    | b :: a :: st' => if k = 5 ∧ b = 0 then none else rpn v r (rop k a b :: st')
    | _ => none
/-- no more than D on the pile, none taken that isn't there -/
def rwf (D : Nat) : List (Nat × Nat) → Nat → Nat → Prop
  | [], d, d' => d = d'
  | (k, x) :: r, d, d' => x ≤ 9999 ∧ ((k = 0 ∧ d < D ∧ rwf D r (d + 1) d') ∨ (k = 1 ∧ x < 9 ∧ d < D ∧ rwf D r (d + 1) d') ∨ (2 ≤ k ∧ k ≤ 5 ∧ x = 0 ∧ 2 ≤ d ∧ d ≤ D ∧ rwf D r (d - 1) d'))
/-- the pile as a row: the last laid lies highest -/
def SM (f : Nat → Int32) : List Int32 → Prop
  | [] => True
  | x :: st => f st.length = x ∧ SM f st
theorem SM_u {f : Nat → Int32} {n : Nat} {y : Int32} : ∀ {st : List Int32}, st.length ≤ n → SM f st → SM (upd f n y) st
  | [], _, _ => trivial
  | x :: st, hn, h => by
    have hl : st.length + 1 ≤ n := hn
    exact ⟨by rw [upd_n (by omega)]; exact h.1, SM_u (by omega) h.2⟩
def segC (c : Nat → Int32) : Nat → List (Nat × Nat) → Prop
  | _, [] => True
  | p, (k, x) :: r => c p = nI (k + 16 * x) ∧ segC c (p + 1) r
theorem dc_k {k x : Nat} (hk : k < 16) (hx : x ≤ 9999) : nI (k + 16 * x) &&& (15 : Int32) = nI k := by
  rw [pk_andN (by omega) 4 (by decide)]
  congr 1
  omega
theorem dc_x {k x : Nat} (hk : k < 16) (hx : x ≤ 9999) : nI (k + 16 * x) >>> ((4 : Int32) &&& 31) = nI x := by
  rw [pk_shrN (by omega) _ 4 (by decide)]
  congr 1
  omega
theorem ne_nI {a b : Nat} (ha : a < 2 ^ 31) (hb : b < 2 ^ 31) (h : a ≠ b) : ¬ nI a = nI b := fun q => h ((nI_eq ha hb).mp q)
theorem le_nI {a b : Nat} (ha : a < 2 ^ 31) (hb : b < 2 ^ 31) (h : b < a) : ¬ nI a ≤ nI b := fun q => by have := (nI_leI ha hb).mp q; omega
theorem nI_s (a : Nat) : nI a + (1 : Int32) = nI (a + 1) := nI_1 a
theorem nI_p {a : Nat} (h : 1 ≤ a) : nI a - (1 : Int32) = nI (a - 1) := pk_sub h
theorem nI_m1 {a : Nat} (h : 1 ≤ a) : nI a + (-1 : Int32) = nI (a - 1) := by
  obtain ⟨b, rfl⟩ : ∃ b, a = b + 1 := ⟨a - 1, by omega⟩
  exact pk_m1 b
theorem nI_m2 {a : Nat} (h : 2 ≤ a) : nI a + (-2 : Int32) = nI (a - 2) := by
  obtain ⟨b, rfl⟩ : ∃ b, a = b + 2 := ⟨a - 2, by omega⟩
  show nI (b + 2) + (-2 : Int32) = nI b
  rw [← nI_add, Int32.add_assoc, show nI 2 + (-2 : Int32) = 0 by decide, Int32.add_zero]
noncomputable def BC (L : Nat) (p1 : Int32) : Int32 × Int32 × Sg → Option ((Int32 × Int32 × Sg) ⊕ ((Sg) ⊕ ((Int32 × Sg) ⊕ ((Sg) ⊕ ((Sg) ⊕ (Sg)))))) := fun st => bX0_valueOf_9 L p1 st.1 st.2.1 st.2.2
section RUNC
variable {L : Nat} {p1 : Int32} {σ : Sg} {p size d k x : Nat}
theorem bc_in (hs : σ.1 L 1 = nI size) (hp : p < size) (hz : size ≤ 408) : ¬ (σ.1 L 1) ≤ nI p := by rw [hs]; exact le_nI (by omega) (by omega) hp
/-- a number, or a variable, is laid on the pile -/
theorem bc_push (hs : σ.1 L 1 = nI size) (hp : p < size) (hz : size ≤ 408) (hd : d < 24) (hx : x ≤ 9999) (hc : σ.1 (L + 1) p = nI (k + 16 * x)) (hk : k = 0 ∨ k = 1 ∧ x < 9) : BC L p1 (nI p, nI d, σ) = some (.inl (nI (p + 1), nI (d + 1), wI σ (L + 4) d (if k = 0 then nI x else σ.1 (L + 3) x))) := by
  have h24 : ¬ (24 : Int32) ≤ nI d := le_nI (a := 24) (by omega) (by omega) (by omega)
  have hv : vin (nI d) 24 := vin_nI hd (by omega)
  unfold BC bX0_valueOf_9
  dsimp only
  rw [if_neg (bc_in hs hp hz), if_pos (vin_nI (by omega) (by omega)), nI_clamp (n := p) (by omega), hc, dc_k (by omega) hx, dc_x (by omega) hx, nI_s]
  rcases hk with rfl | ⟨rfl, hx9⟩
  · rw [if_pos (show nI 0 = 0 from rfl)]
    unfold jX0_valueOf_52
    rw [if_neg h24, if_neg (show ¬ nI 0 = 1 by decide)]
    unfold jX0_valueOf_78
    rw [if_pos (show nI 0 = 0 from rfl)]
    unfold jX0_valueOf_100
    rw [if_pos hv, nI_clamp (n := d) (by omega), nI_s]
    rfl
  · rw [if_neg (show ¬ nI 1 = 0 by decide), if_pos (show nI 1 = 1 from rfl)]
    unfold jX0_valueOf_52
    rw [if_neg h24, if_pos (show nI 1 = 1 from rfl), if_neg (nI_pos (by omega)), if_pos (show nI x < 9 from nI_lt (b := 9) hx9 (by omega))]
    unfold jX0_valueOf_78
    rw [if_neg (show ¬ nI 1 = 0 by decide), if_pos (vin_nI hx9 (by omega))]
    unfold jX0_valueOf_100
    rw [if_pos hv, nI_clamp (n := d) (by omega), nI_clamp (n := x) (by omega), nI_s]
    rfl
/-- a sign takes two and lays one -/
theorem bc_op (hs : σ.1 L 1 = nI size) (hp : p < size) (hz : size ≤ 408) (hd : 2 ≤ d) (hd2 : d ≤ 24) (hc : σ.1 (L + 1) p = nI k) (hk : 2 ≤ k) (hk5 : k ≤ 5) (h0 : ¬ (k = 5 ∧ σ.1 (L + 4) (d - 1) = 0)) : BC L p1 (nI p, nI d, σ) = some (.inl (nI (p + 1), nI (d - 1), wI σ (L + 4) (d - 2) (rop k (σ.1 (L + 4) (d - 2)) (σ.1 (L + 4) (d - 1))))) := by
  have e15 : nI k &&& (15 : Int32) = nI k := by rw [show nI k = nI (k + 16 * 0) from rfl]; exact dc_k (x := 0) (by omega) (by omega)
  have hge : (2 : Int32) ≤ nI d := nI_le (a := 2) hd (by omega)
  have n0 : ¬ nI k = 0 := ne_nI (b := 0) (by omega) (by omega) (by omega)
  have n1 : ¬ nI k = 1 := ne_nI (b := 1) (by omega) (by omega) (by omega)
  have n7 : ¬ nI k = 7 := ne_nI (b := 7) (by omega) (by omega) (by omega)
  have n6 : ¬ nI k = 6 := ne_nI (b := 6) (by omega) (by omega) (by omega)
  have J : jX0_valueOf_198 L p1 (nI (p + 1)) (nI d) (nI k) σ = some (.inl (nI (p + 1), nI (d - 1), wI σ (L + 4) (d - 2) (rop k (σ.1 (L + 4) (d - 2)) (σ.1 (L + 4) (d - 1))))) := by
    unfold jX0_valueOf_198
    dsimp only
    rw [nI_m1 (by omega), nI_p (by omega), if_pos (vin_nI (by omega) (by omega)), if_pos (vin_nI (by omega) (by omega)), nI_clamp (n := d - 1) (by omega), nI_clamp (n := d - 1 - 1) (by omega), show d - 1 - 1 = d - 2 by omega]
    have hj : fX0_joined (nI k) (σ.1 (L + 4) (d - 2)) (σ.1 (L + 4) (d - 1)) σ = some (rop k (σ.1 (L + 4) (d - 2)) (σ.1 (L + 4) (d - 1)), σ) := by
      unfold fX0_joined rop
      rcases (show k = 2 ∨ k = 3 ∨ k = 4 ∨ k = 5 by omega) with rfl | rfl | rfl | rfl
      · rfl
      · rfl
      · rfl
      · have hb : ¬ σ.1 (L + 4) (d - 1) = 0 := fun q => h0 ⟨rfl, q⟩
        rw [if_neg (show ¬ nI 5 = 2 by decide), if_neg (show ¬ nI 5 = 3 by decide), if_neg (show ¬ nI 5 = 4 by decide), if_neg hb, if_pos hb]
        rfl
    rw [hj]
    rfl
  unfold BC bX0_valueOf_9
  dsimp only
  rw [if_neg (bc_in hs hp hz), if_pos (vin_nI (by omega) (by omega)), nI_clamp (n := p) (by omega), hc, e15, nI_s, if_neg n0, if_neg n1, if_neg n7, if_pos hge, if_neg n6]
  by_cases h5 : k = 5
  · subst h5
    rw [if_pos (show nI 5 = 5 from rfl), nI_p (by omega), if_pos (vin_nI (by omega) (by omega)), nI_clamp (n := d - 1) (by omega), if_neg (fun q => h0 ⟨rfl, q⟩)]
    exact J
  · rw [if_neg (show ¬ nI k = 5 from ne_nI (b := 5) (by omega) (by omega) h5)]
    exact J
/-- by nothing nothing is divided: the law answers 0 -/
theorem bc_div0 (hs : σ.1 L 1 = nI size) (hp : p < size) (hz : size ≤ 408) (hd : 2 ≤ d) (hd2 : d ≤ 24) (hc : σ.1 (L + 1) p = nI 5) (h0 : σ.1 (L + 4) (d - 1) = 0) : BC L p1 (nI p, nI d, σ) = some (.inr (.inr (.inr (.inr (.inl σ))))) := by
  have hge : (2 : Int32) ≤ nI d := nI_le (a := 2) hd (by omega)
  unfold BC bX0_valueOf_9
  dsimp only
  rw [if_neg (bc_in hs hp hz), if_pos (vin_nI (by omega) (by omega)), nI_clamp (n := p) (by omega), hc, show nI 5 &&& (15 : Int32) = nI 5 by decide, if_neg (show ¬ nI 5 = 0 by decide), if_neg (show ¬ nI 5 = 1 by decide), if_neg (show ¬ nI 5 = 7 by decide), if_pos hge, if_neg (show ¬ nI 5 = 6 by decide), if_pos (show nI 5 = 5 from rfl), nI_p (by omega), if_pos (vin_nI (by omega) (by omega)), nI_clamp (n := d - 1) (by omega), if_pos h0]
/-- the answer -/
theorem bc_ans (hs : σ.1 L 1 = nI size) (hp : p < size) (hz : size ≤ 408) (hc : σ.1 (L + 1) p = nI 7) : BC L p1 (nI p, nI d, σ) = some (.inr (.inr (.inl (nI d, σ)))) := by
  unfold BC bX0_valueOf_9
  dsimp only
  rw [if_neg (bc_in hs hp hz), if_pos (vin_nI (by omega) (by omega)), nI_clamp (n := p) (by omega), hc, show nI 7 &&& (15 : Int32) = nI 7 by decide, if_neg (show ¬ nI 7 = 0 by decide), if_neg (show ¬ nI 7 = 1 by decide), if_pos (show nI 7 = 7 from rfl)]
/-- a test: two are taken; if the first isn't less it leads on to another place -/
theorem bc_test {j : Nat} (hs : σ.1 L 1 = nI size) (hp : p < size) (hz : size ≤ 408) (hd : 2 ≤ d) (hd2 : d ≤ 24) (hj : p + 1 ≤ j) (hj2 : j ≤ 408) (hc : σ.1 (L + 1) p = nI (6 + 16 * j)) : BC L p1 (nI p, nI d, σ) = some (.inl (if σ.1 (L + 4) (d - 1) ≤ σ.1 (L + 4) (d - 2) then nI j else nI (p + 1), nI (d - 2), σ)) := by
  have hge : (2 : Int32) ≤ nI d := nI_le (a := 2) hd (by omega)
  have hm : imax (nI (p + 1)) (nI j) = nI j := by
    unfold imax
    by_cases h : p + 1 < j
    · rw [if_pos (nI_lt h (by omega))]
    · rw [if_neg (nI_nlt (by omega) (by omega)), show p + 1 = j by omega]
  unfold BC bX0_valueOf_9
  dsimp only
  rw [if_neg (bc_in hs hp hz), if_pos (vin_nI (by omega) (by omega)), nI_clamp (n := p) (by omega), hc, dc_k (by omega) (by omega), dc_x (by omega) (by omega), nI_s, if_neg (show ¬ nI 6 = 0 by decide), if_neg (show ¬ nI 6 = 1 by decide), if_neg (show ¬ nI 6 = 7 by decide), if_pos hge, if_pos (show nI 6 = 6 from rfl), nI_m2 hd, if_pos (vin_nI (by omega) (by omega)), nI_s, if_pos (vin_nI (by omega) (by omega)), nI_clamp (n := d - 2) (by omega), nI_clamp (n := d - 2 + 1) (by omega), show d - 2 + 1 = d - 1 by omega, hm]
  by_cases h : σ.1 (L + 4) (d - 1) ≤ σ.1 (L + 4) (d - 2)
  · rw [if_pos h, if_pos h]; rfl
  · rw [if_neg h, if_neg h]; rfl
end RUNC
