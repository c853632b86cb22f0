/-! the model's laws at a house -/
/-- what a law looks at -/
def vs (ρ : Nat → Int32) (n : Nat) (wt tp ot wh ky : Int32) : Nat → Int32 := fun j => if j = 0 then irem (ρ 84) 24 else if j = 1 then ρ 84 / 24 else if j = 2 then wt else if j = 3 then tp else if j = 4 then ot else if j = 5 then wh else if j = 6 then nI (cnt8 (stF n ρ 0)) else if j = 7 then nI (cnt8 (stF n ρ 2)) else ky
theorem rpn_c {v v' : Nat → Int32} (h : ∀ x, x < 9 → v x = v' x) {D : Nat} : ∀ {r : Rp} {d d' : Nat} {st : List Int32}, rwf D r d d' → rpn v r st = rpn v' r st
  | [], _, _, _, _ => rfl
  | (k, x) :: r, d, d', st, hw => by
    obtain ⟨-, hw⟩ := hw
    show (if k = 0 then rpn v r (nI x :: st) else if k = 1 then rpn v r (v x :: st) else _) = (if k = 0 then rpn v' r (nI x :: st) else if k = 1 then rpn v' r (v' x :: st) else _)
    rcases hw with ⟨rfl, -, c⟩ | ⟨rfl, hx, -, c⟩ | ⟨h2, h5, -, -, -, c⟩
    · rw [if_pos rfl, if_pos rfl]; exact rpn_c h c
    · rw [if_neg (by decide), if_pos rfl, if_neg (by decide), if_pos rfl, h x hx]; exact rpn_c h c
    · rw [if_neg (by omega), if_neg (by omega), if_neg (by omega), if_neg (by omega)]
      match st with
      | b :: a :: st =>
        show (if k = 5 ∧ b = 0 then none else rpn v r (rop k a b :: st)) = (if k = 5 ∧ b = 0 then none else rpn v' r (rop k a b :: st))
        rw [rpn_c h c]
      | [] => rfl
      | [_] => rfl
theorem lawV_c {v v' : Nat → Int32} (h : ∀ x, x < 9 → v x = v' x) : ∀ {bs : List (Rp × Rp × Rp)} {f : Rp}, lawW bs f → lawV v bs f = lawV v' bs f
  | [], f, hw => by
    show r1 (rpn v f []) = r1 (rpn v' f [])
    rw [rpn_c h hw]
  | (u, t, w) :: bs, f, hw => by
    obtain ⟨w1, w2, w3, w4⟩ := hw
    unfold lawV
    rw [rpn_c h w1, rpn_c h w3, lawV_c h w4]
    have ht : ∀ q, rpn v t q = rpn v' t q := fun q => rpn_c h w2
    simp only [ht]
def dfl (k : Nat) : Rp := if k = 0 then [(0, 1)] else if k = 1 then [(1, 2)] else if k = 2 then [(1, 6)] else [(0, 0)]
/-- a law stands in its side of the rows: whatever is written elsewhere leaves it -/
def lawKM (σ : Sg) (M ℓ b : Nat) (bs : List (Rp × Rp × Rp)) (f : Rp) (last : Nat) : Prop := ∀ τ : Sg, (∀ k j, M + 20 ≤ k → k ≤ M + 24 → 130 * ℓ ≤ j → j < 130 * ℓ + 130 → τ.1 k j = σ.1 k j) → (∀ k j, (k = M + 25 ∨ k = M + 26) → 420 * ℓ ≤ j → j < 420 * ℓ + 420 → τ.1 k j = σ.1 k j) → lawM τ M b bs f last
/-- the model's law k is the law of these branches -/
def LM (σ : Sg) (M ℓ k : Nat) (bs : List (Rp × Rp × Rp)) (f : Rp) : Prop := lawW bs f ∧ ((∃ b last, σ.1 (M + 18) (4 * ℓ + k) = nI b ∧ σ.1 (M + 19) (4 * ℓ + k) = nI last ∧ last ≤ 260 ∧ lawKM σ M ℓ b bs f last) ∨ (∃ b, σ.1 (M + 18) (4 * ℓ + k) = nI b ∧ σ.1 (M + 19) (4 * ℓ + k) = nI b ∧ bs = [] ∧ f = dfl k))
def plain (k : Nat) (v : Nat → Int32) : Int32 := lawV v [] (dfl k)
theorem LM.fs {S : Nat → Nat → Prop} {σ τ : Sg} {M ℓ k : Nat} {bs : List (Rp × Rp × Rp)} {f : Rp} (h : LM σ M ℓ k bs f) (hF : Fs S σ τ) (hS : ∀ x j, M + 18 ≤ x → x ≤ M + 26 → ¬ S x j) : LM τ M ℓ k bs f := by
  obtain ⟨hw, h⟩ := h
  refine ⟨hw, ?_⟩
  have e18 : τ.1 (M + 18) = σ.1 (M + 18) := hF.row (fun j => hS _ j (by omega) (by omega))
  have e19 : τ.1 (M + 19) = σ.1 (M + 19) := hF.row (fun j => hS _ j (by omega) (by omega))
  rcases h with ⟨b, last, h1, h2, h3, h4⟩ | ⟨b, h1, h2, h3⟩
  · exact Or.inl ⟨b, last, by rw [e18]; exact h1, by rw [e19]; exact h2, h3, fun υ u1 u2 => h4 υ (fun k j a1 a2 a3 a4 => (u1 k j a1 a2 a3 a4).trans (hF.1 _ _ (hS _ _ (by omega) (by omega)))) (fun k j a1 a2 a3 => (u2 k j a1 a2 a3).trans (hF.1 _ _ (hS _ _ (by omega) (by omega))))⟩
  · exact Or.inr ⟨b, by rw [e18]; exact h1, by rw [e19]; exact h2, h3⟩
theorem tells_v {M ℓ n m k : Nat} {σ : Sg} {bs : List (Rp × Rp × Rp)} {f : Rp} {pl : Int32} (h : MX σ M ℓ n m) (hk : k < 4) (hL : LM σ M ℓ k bs f) (hp : pl = plain k (σ.1 (M + 28))) : ∃ τ, Fs (SLw M) σ τ ∧ fX7_lawTells M (nI k) pl σ = some (lawV (σ.1 (M + 28)) bs f, τ) := by
  obtain ⟨hw, ⟨b, last, h1, h2, h3, h4⟩ | ⟨b, h1, h2, rfl, rfl⟩⟩ := hL
  · exact lawTells_v h.1 hk h.2.1 h1 h2 h3 (h4 σ (fun _ _ _ _ _ _ => rfl) (fun _ _ _ _ _ => rfl)) hw
  · exact ⟨σ, Fs.rf, by rw [lawTells_0 h.1 hk h.2.1 h1 h2, hp]; rfl⟩
theorem within_v (x : Int32) (lo hi : Int32) (σ : Sg) : fX7_within x lo hi σ = some (if x < lo then lo else if hi < x then hi else x, σ) := by
  unfold fX7_within
  by_cases h1 : lo ≤ x
  · rw [if_pos h1, if_neg (show ¬ x < lo from Int32.not_lt.mpr h1)]
    by_cases h2 : x ≤ hi
    · rw [if_pos h2, if_neg (show ¬ hi < x from Int32.not_lt.mpr h2)]
    · rw [if_neg h2, if_pos (Int32.not_le.mp h2)]
  · rw [if_neg h1, if_pos (Int32.not_le.mp h1)]
def clamp (lo hi x : Int32) : Int32 := if x < lo then lo else if hi < x then hi else x
section LAWM
variable {M ℓ n m : Nat} {σ : Sg}
theorem looks_v (h : MX σ M ℓ n m) (tp wh : Int32) : ∃ τ, Fs (fun k _ => k = M + 28) σ τ ∧ fX7_looks M tp wh σ = some τ ∧ ∀ j, j < 9 → τ.1 (M + 28) j = vs (σ.1 (M + 31)) n 0 tp 0 wh 0 j := by
  have z : ∀ i, i ≤ 9 → ∃ τ, Fs (fun k _ => k = M + 28) σ τ ∧ lp (fun st : Int32 × Sg => bX7_looks_2 M tp wh st.1 st.2) (0, σ) = lp (fun st : Int32 × Sg => bX7_looks_2 M tp wh st.1 st.2) (nI i, τ) ∧ ∀ j, j < i → τ.1 (M + 28) j = 0 := by
    intro i
    induction i with
    | zero => intro _; exact ⟨σ, Fs.rf, rfl, fun j hj => by omega⟩
    | succ i ih =>
      intro hi
      obtain ⟨τ, h1, h2, h3⟩ := ih (by omega)
      refine ⟨wI τ (M + 28) i 0, h1.wI rfl, ?_, fun j hj => ?_⟩
      · rw [h2]
        exact lp_l (by
          show bX7_looks_2 M tp wh (nI i) τ = _
          unfold bX7_looks_2
          rw [if_neg (show ¬ (9 : Int32) ≤ nI i from le_nI (a := 9) (by omega) (by omega) (by omega)), if_pos (vin_nI (by omega) (by omega)), nI_clamp (by omega)]
          dsimp only
          rw [nI_s])
      · rw [wI_k]
        by_cases hji : j = i
        · subst hji; rw [upd_k]
        · rw [upd_n hji]; exact h3 j (by omega)
  obtain ⟨τ, h1, h2, h3⟩ := z 9 (Nat.le_refl 9)
  have e9 : lp (fun st : Int32 × Sg => bX7_looks_2 M tp wh st.1 st.2) (0, σ) = some τ := by
    rw [h2]
    exact lp_r (by show bX7_looks_2 M tp wh (nI 9) τ = _; unfold bX7_looks_2; rw [if_pos (show (9 : Int32) ≤ nI 9 by decide)])
  have r31 : ∀ υ, Fs (fun k _ => k = M + 28) σ υ → υ.1 (M + 31) = σ.1 (M + 31) := fun υ hF => hF.row (fun j (q : M + 31 = M + 28) => by omega)
  have hm : ∀ υ, Fs (fun k _ => k = M + 28) σ υ → MX υ M ℓ n m := fun υ hF => h.fs hF (fun (q : M = M + 28) => by omega) (fun (q : M + 9 = M + 28) => by omega) (fun (q : M + 14 = M + 28) => by omega)
  unfold fX7_looks
  rw [e9]
  dsimp only [Option.bind_some]
  rw [r31 τ h1]
  have F9 : Fs (fun k _ => k = M + 28) σ (wI τ (M + 28) 0 (irem (σ.1 (M + 31) 84) 24)) := h1.wI rfl
  rw [r31 _ F9]
  have F12 := F9.wI (k := M + 28) (i := 1) (v := σ.1 (M + 31) 84 / 24) rfl
  have F14 := F12.wI (k := M + 28) (i := 3) (v := tp) rfl
  have F16 := F14.wI (k := M + 28) (i := 5) (v := wh) rfl
  rw [soBits_v (hm _ F16) 0, r31 _ F16]
  dsimp only [Option.bind_some]
  rw [bits_v]
  dsimp only [Option.bind_some]
  have F28 := F16.wI (k := M + 28) (i := 6) (v := nI (cnt8 (stF n (σ.1 (M + 31)) 0))) rfl
  rw [soBits_v (hm _ F28) 2, r31 _ F28]
  dsimp only [Option.bind_some]
  rw [bits_v]
  dsimp only [Option.bind_some]
  have F40 := F28.wI (k := M + 28) (i := 7) (v := nI (cnt8 (stF n (σ.1 (M + 31)) 2))) rfl
  refine ⟨_, F40, rfl, fun j hj => ?_⟩
  simp only [wI_k]
  unfold vs
  rcases (show j = 0 ∨ j = 1 ∨ j = 2 ∨ j = 3 ∨ j = 4 ∨ j = 5 ∨ j = 6 ∨ j = 7 ∨ j = 8 by omega) with rfl | rfl | rfl | rfl | rfl | rfl | rfl | rfl | rfl <;> simp [upd, h3]
end LAWM
