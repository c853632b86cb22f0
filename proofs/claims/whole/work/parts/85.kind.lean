/-! kinds of tokens -/
def wch (j : Nat) : Nat := (schr 0 j).toNatClampNeg
theorem wch_s {j : Nat} (hj : j < 160) : schr 0 j = nI (wch j) ∧ wch j < 128 := by
  have h : ∀ j : Fin 160, schr 0 j.1 = nI (wch j.1) ∧ wch j.1 < 128 := by decide +kernel
  exact h ⟨j, hj⟩
def sch (j : Nat) : Nat := (schr 1 j).toNatClampNeg
theorem sch_s {j : Nat} (hj : j < 9) : schr 1 j = nI (sch j) ∧ sch j < 128 := by
  have h : ∀ j : Fin 9, schr 1 j.1 = nI (sch j.1) ∧ sch j.1 < 128 := by decide +kernel
  exact h ⟨j, hj⟩
theorem slen1 : slen 1 = 9 := by decide
/-- the first that holds -/
def fnG (p : Nat → Bool) (e : Nat) : Nat → Nat → Nat
  | 0, _ => e
  | d + 1, k => if p k = true then k else fnG p e d (k + 1)
theorem fnG_s (p : Nat → Bool) (e : Nat) : ∀ d k, (fnG p e d k = e ∧ ∀ x, k ≤ x → x < k + d → p x = false) ∨ (k ≤ fnG p e d k ∧ fnG p e d k < k + d ∧ p (fnG p e d k) = true)
  | 0, k => Or.inl ⟨rfl, fun x h1 h2 => by omega⟩
  | d + 1, k => by
    rw [show fnG p e (d + 1) k = if p k = true then k else fnG p e d (k + 1) from rfl]
    by_cases q : p k = true
    · rw [if_pos q]; exact Or.inr ⟨Nat.le_refl _, by omega, q⟩
    · rw [if_neg q]
      rcases fnG_s p e d (k + 1) with ⟨h1, h2⟩ | ⟨h1, h2, h3⟩
      · refine Or.inl ⟨h1, fun x a1 a2 => ?_⟩
        by_cases z : x = k
        · rw [z]; simpa using q
        · exact h2 x (by omega) (by omega)
      · exact Or.inr ⟨by omega, by omega, h3⟩
theorem fn_run {σ : Sg} {f : Int32 × Sg → Option ((Int32 × Sg) ⊕ ((Int32 × Sg) ⊕ Sg))} (p : Nat → Bool) (e D : Nat) (hD : e ≤ D) (hs : ∀ k, k < e → f (nI k, σ) = if p k = true then some (.inr (.inl (nI k, σ))) else some (.inl (nI (k + 1), σ))) (hx : f (nI e, σ) = some (.inr (.inr σ))) : ∀ d k, k + d = e → lp f (nI k, σ) = some (if fnG p D d k < e then .inl (nI (fnG p D d k), σ) else .inr σ)
  | 0, k, hk => by
    have : k = e := by omega
    subst this
    rw [lp_r hx, if_neg (show ¬ fnG p D 0 k < k from by show ¬ D < k; omega)]
  | d + 1, k, hk => by
    rw [show fnG p D (d + 1) k = if p k = true then k else fnG p D d (k + 1) from rfl]
    have st := hs k (by omega)
    by_cases q : p k = true
    · rw [if_pos q] at st ⊢
      rw [lp_r st, if_pos (by omega)]
    · rw [if_neg q] at st ⊢
      rw [lp_l st]
      exact fn_run p e D hD hs hx d (k + 1) (by omega)
/-- a sign of a word, or a blank behind it -/
def pcC (C : Nat → Nat) (i e j : Nat) : Nat := if i + j < e then C (i + j) else 32
def wmB (C : Nat → Nat) (i e k : Nat) : Bool := decide (∀ j : Fin 8, wch (k * 8 + j.1) = pcC C i e j.1)
def kdC (C : Nat → Nat) (L i : Nat) : Nat := if ltC (C i) = true then (if enE C L i - i ≤ 8 then fnG (wmB C i (enE C L i)) 20 20 0 else 32) else if dgC (C i) = true then (if enE C L i - i ≤ 4 then 21 else 32) else 22 + fnG (fun j => decide (sch j = C i)) 10 9 0
theorem kdC_le (C : Nat → Nat) (L i : Nat) : kdC C L i < 31 ∨ kdC C L i = 32 := by
  unfold kdC
  split
  · split
    · rcases fnG_s (wmB C i (enE C L i)) 20 20 0 with ⟨h, -⟩ | ⟨-, h, -⟩ <;> omega
    · exact Or.inr rfl
  · split
    · split
      · exact Or.inl (by omega)
      · exact Or.inr rfl
    · rcases fnG_s (fun j => decide (sch j = C i)) 10 9 0 with ⟨h, -⟩ | ⟨-, h, -⟩ <;> omega
section KIND
variable {M L : Nat} {σ τ : Sg} {C : Nat → Nat}
theorem c_isWord (h : TC σ L C) {i e k : Nat} (hi : i ≤ L) (he : e ≤ L) (hk : k < 20) : fX4_isWord 1 (nI i) (nI e) (nI k * 8) σ = some (nI (b2n (wmB C i e k)), σ) := by
  have hL := h.1
  rw [show nI k * 8 = nI (k * 8) from pk_mul k 8]
  have st : ∀ j, j < 8 → bX4_isWord_3 1 (nI i) (nI e) (nI (k * 8)) (nI j) σ = if wch (k * 8 + j) = pcC C i e j then some (Sum.inl (nI (j + 1), σ)) else some (Sum.inr (Sum.inl σ)) := by
    intro j hj
    obtain ⟨w1, w2⟩ := wch_s (j := k * 8 + j) (by omega)
    unfold bX4_isWord_3 jX4_isWord_29 pcC
    rw [if_neg (show ¬ (8 : Int32) ≤ nI j from le_nI (a := 8) (by omega) (by omega) hj), nI_add, nI_add]
    by_cases q : i + j < e
    · rw [if_neg (le_nI (by omega) (by omega) q), if_pos q]
      simp (disch := omega) only [vif, nI_clamp]
      rw [w1, nI_s]
      have hx := (h.2 (i + j) (by omega)).eq (k := wch (k * 8 + j)) w2
      by_cases z : wch (k * 8 + j) = C (i + j)
      · rw [if_pos (hx.mpr z.symm).symm, if_pos z]
      · rw [if_neg (fun y => z (hx.mp y.symm).symm), if_neg z]
    · rw [if_pos (nI_le (by omega) (by omega)), if_neg q]
      simp (disch := omega) only [vif, nI_clamp]
      rw [w1, nI_s]
      have hx : nI (wch (k * 8 + j)) = (32 : Int32) ↔ wch (k * 8 + j) = 32 := nI_eq (b := 32) (by omega) (by omega)
      by_cases z : wch (k * 8 + j) = 32
      · rw [if_pos (hx.mpr z), if_pos z]
      · rw [if_neg (fun y => z (hx.mp y)), if_neg z]
  have hh := lp_invG (f := fun st : Int32 × Sg => bX4_isWord_3 1 (nI i) (nI e) (nI (k * 8)) st.1 st.2) 8 (fun j s => s = (nI j, σ) ∧ ∀ x, x < j → wch (k * 8 + x) = pcC C i e x) (fun b => (b = Sum.inr σ ∧ wmB C i e k = true) ∨ (b = Sum.inl σ ∧ wmB C i e k = false)) (fun j s hj hs => ?_) (fun s hs => ?_) (s := (nI 0, σ)) ⟨rfl, fun x hx => by omega⟩
  · obtain ⟨b, h1, h2⟩ := hh
    unfold fX4_isWord
    rw [show (0 : Int32) = nI 0 from rfl, h1]
    rcases h2 with ⟨rfl, h2⟩ | ⟨rfl, h2⟩
    · rw [h2]; rfl
    · rw [h2]; rfl
  · obtain ⟨rfl, ha⟩ := hs
    have st := st j hj
    by_cases q : wch (k * 8 + j) = pcC C i e j
    · rw [if_pos q] at st
      refine Or.inl ⟨(nI (j + 1), σ), st, rfl, fun x hx => ?_⟩
      by_cases z : x = j
      · rw [z]; exact q
      · exact ha x (by omega)
    · rw [if_neg q] at st
      exact Or.inr ⟨Sum.inl σ, st, Or.inr ⟨rfl, decide_eq_false (fun z => q (z ⟨j, hj⟩))⟩⟩
  · obtain ⟨rfl, ha⟩ := hs
    refine ⟨Sum.inr σ, ?_, Or.inl ⟨rfl, decide_eq_true (fun j => ha j.1 j.2)⟩⟩
    show bX4_isWord_3 1 (nI i) (nI e) (nI (k * 8)) (nI 8) σ = _
    unfold bX4_isWord_3
    rw [if_pos (by decide)]
theorem c_wordOf (h : TC σ L C) {i e : Nat} (hi : i ≤ L) (he : e ≤ L) : fX4_wordOf 1 (nI i) (nI e) σ = some (nI (fnG (wmB C i e) 20 20 0), σ) := by
  have st : ∀ k, k < 20 → (fun st : Int32 × Sg => bX4_wordOf_2 1 (nI i) (nI e) st.1 st.2) (nI k, σ) = if wmB C i e k = true then some (.inr (.inl (nI k, σ))) else some (.inl (nI (k + 1), σ)) := by
    intro k hk
    show bX4_wordOf_2 1 (nI i) (nI e) (nI k) σ = _
    unfold bX4_wordOf_2
    rw [if_neg (show ¬ (20 : Int32) ≤ nI k from le_nI (a := 20) (by omega) (by omega) hk), c_isWord h hi he hk, Option.bind_some]
    dsimp only
    rw [nI_s]
    cases wmB C i e k
    · rw [if_pos (show nI (b2n false) = 0 by decide), if_neg (show ¬ false = true by decide)]
    · rw [if_neg (show ¬ nI (b2n true) = 0 by decide), if_pos rfl]
  have r := fn_run (σ := σ) (f := fun st : Int32 × Sg => bX4_wordOf_2 1 (nI i) (nI e) st.1 st.2) (wmB C i e) 20 20 (Nat.le_refl _) st (by
    show bX4_wordOf_2 1 (nI i) (nI e) (nI 20) σ = _
    unfold bX4_wordOf_2
    rw [if_pos (by decide)]) 20 0 (by omega)
  unfold fX4_wordOf
  rw [show (0 : Int32) = nI 0 from rfl, r]
  rcases fnG_s (wmB C i e) 20 20 0 with ⟨q, -⟩ | ⟨-, q, -⟩
  · rw [q, if_neg (by omega)]; rfl
  · rw [if_pos (by omega)]; rfl
theorem c_kindOf (h : TC σ L C) {i : Nat} (hi : i < L) : fX4_kindOf 1 (nI i) (nI (enE C L i)) σ = some (nI (kdC C L i), σ) := by
  have hL := h.1
  obtain ⟨g1, g2⟩ := enE_in (C := C) hi
  have hs : lp (fun st : Int32 × Sg => bX4_kindOf_55 1 (nI i) (nI (enE C L i)) st.1 st.2) (nI 0, σ) = some (if fnG (fun j => decide (sch j = C i)) 10 9 0 < 9 then .inl (nI (fnG (fun j => decide (sch j = C i)) 10 9 0), σ) else .inr σ) := by
    refine fn_run (σ := σ) (f := fun st : Int32 × Sg => bX4_kindOf_55 1 (nI i) (nI (enE C L i)) st.1 st.2) (fun j => decide (sch j = C i)) 9 10 (by omega) (fun k hk => ?_) ?_ 9 0 (by omega)
    · show bX4_kindOf_55 1 (nI i) (nI (enE C L i)) (nI k) σ = _
      obtain ⟨w1, w2⟩ := sch_s hk
      unfold bX4_kindOf_55
      rw [slen1, if_neg (show ¬ Int32.ofNat 9 ≤ nI k from le_nI (a := 9) (by omega) (by omega) hk)]
      simp (disch := omega) only [vif, nI_clamp]
      rw [w1, nI_s]
      have hx := (h.2 i hi).eq (k := sch k) w2
      by_cases z : sch k = C i
      · rw [if_pos (hx.mpr z.symm).symm, if_pos (decide_eq_true z)]
      · rw [if_neg (fun y => z (hx.mp y.symm).symm), if_neg (by rw [decide_eq_false z]; decide)]
    · show bX4_kindOf_55 1 (nI i) (nI (enE C L i)) (nI 9) σ = _
      unfold bX4_kindOf_55
      rw [slen1, if_pos (by decide)]
  unfold fX4_kindOf kdC
  simp (disch := omega) only [vif, nI_clamp]
  rw [c_letter (h.2 i hi), Option.bind_some]
  dsimp only
  rw [c_digit (h.2 i hi), Option.bind_some]
  dsimp only
  rw [show nI (enE C L i) - nI i = nI (enE C L i - i) from pk_sub (by omega), c_wordOf h (by omega) g2, show (0 : Int32) = nI 0 from rfl, hs]
  cases ltC (C i)
  · rw [if_pos (show nI (b2n false) = nI 0 by decide), if_neg (show ¬ false = true by decide)]
    cases dgC (C i)
    · rw [if_pos (show nI (b2n false) = nI 0 by decide), if_neg (show ¬ false = true by decide), Option.bind_some]
      rcases fnG_s (fun j => decide (sch j = C i)) 10 9 0 with ⟨q, -⟩ | ⟨-, q, -⟩
      · rw [q, if_neg (by omega)]; rfl
      · rw [if_pos (by omega)]
        show some ((22 : Int32) + nI _, σ) = _
        rw [show (22 : Int32) + nI (fnG (fun j => decide (sch j = C i)) 10 9 0) = nI (22 + fnG (fun j => decide (sch j = C i)) 10 9 0) from nI_add 22 _]
    · rw [if_neg (show ¬ nI (b2n true) = nI 0 by decide), if_pos rfl]
      by_cases q : enE C L i - i ≤ 4
      · rw [if_pos (show nI (enE C L i - i) ≤ 4 from nI_le (b := 4) q (by omega)), if_pos q]; rfl
      · rw [if_neg (show ¬ nI (enE C L i - i) ≤ 4 from le_nI (b := 4) (by omega) (by omega) (by omega)), if_neg q]; rfl
  · rw [if_neg (show ¬ nI (b2n true) = nI 0 by decide), if_pos rfl]
    by_cases q : enE C L i - i ≤ 8
    · rw [if_pos (show nI (enE C L i - i) ≤ 8 from nI_le (b := 8) q (by omega)), if_pos q]; rfl
    · rw [if_neg (show ¬ nI (enE C L i - i) ≤ 8 from le_nI (b := 8) (by omega) (by omega) (by omega)), if_neg q]; rfl
/-! the model's side -/
def TM (σ : Sg) (M L : Nat) (C : Nat → Nat) : Prop := L ≤ 2000 ∧ σ.1 M 4 = nI L ∧ ∀ i, i < L → σ.1 (M + 2) i &&& 255 = nI (C i) ∧ C i < 256
theorem m_byte (h : TM σ M L C) {i : Nat} (hi : i < 2 ^ 31) : fX7_byteAt M (nI i) σ = some (nI (if i < L then C i else 0), σ) := by
  have hL := h.1
  unfold fX7_byteAt
  rw [h.2.1]
  by_cases q : i < L
  · rw [if_neg (le_nI (by omega) (by omega) q), if_pos q]
    simp (disch := omega) only [vif, nI_clamp]
    rw [(h.2.2 i q).1]
  · rw [if_pos (nI_le (by omega) (by omega)), if_neg q]; rfl
/-- the model's word for a kind -/
def mkd (k : Nat) : Nat := if k < 20 then 20 + k else [1, 2, 4, 5, 8, 9, 10, 15, 13, 6, 7, 0, 3].getD (k - 20) 3
def msI (p : Int32) : Int32 := if p = 60 then 13 else if p = 47 then 15 else if p = 42 then 10 else if p = 45 then 9 else if p = 43 then 8 else if p = 59 then 4 else if p = 61 then 5 else if p = 40 then 6 else if p = 41 then 7 else 3
theorem m_sign (p1 p2 p3 : Int32) : fX7_sign M p1 p2 p3 σ = (fX7_token M (msI p2) p1 0 0 σ).bind (fun σ2 => some ((1 : Int32), σ2)) := by
  have e85 : ∀ x, jX7_sign_85 M p1 p2 p3 x σ = jX7_sign_95 M p1 p2 p3 (if p2 = 60 then 13 else x) σ := fun x => by unfold jX7_sign_85; split <;> rfl
  have e75 : ∀ x, jX7_sign_75 M p1 p2 p3 x σ = jX7_sign_85 M p1 p2 p3 (if p2 = 47 then 15 else x) σ := fun x => by unfold jX7_sign_75; split <;> rfl
  have e65 : ∀ x, jX7_sign_65 M p1 p2 p3 x σ = jX7_sign_75 M p1 p2 p3 (if p2 = 42 then 10 else x) σ := fun x => by unfold jX7_sign_65; split <;> rfl
  have e55 : ∀ x, jX7_sign_55 M p1 p2 p3 x σ = jX7_sign_65 M p1 p2 p3 (if p2 = 45 then 9 else x) σ := fun x => by unfold jX7_sign_55; split <;> rfl
  have e43 : ∀ x, jX7_sign_43 M p1 p2 p3 x σ = jX7_sign_55 M p1 p2 p3 (if p2 = 43 then 8 else x) σ := fun x => by unfold jX7_sign_43; split <;> rfl
  have e0 : fX7_sign M p1 p2 p3 σ = jX7_sign_43 M p1 p2 p3 (if p2 = 59 then 4 else if p2 = 61 then 5 else if p2 = 40 then 6 else if p2 = 41 then 7 else 3) σ := by
    unfold fX7_sign
    split
    · rfl
    split
    · rfl
    split
    · rfl
    split <;> rfl
  rw [e0, e43, e55, e65, e75, e85]
  rfl
theorem ms_k {c : Nat} (hc : c < 256) : msI (nI c) = nI (mkd (22 + fnG (fun j => decide (sch j = c)) 10 9 0)) := by
  have h : ∀ c : Fin 256, msI (nI c.1) = nI (mkd (22 + fnG (fun j => decide (sch j = c.1)) 10 9 0)) := by decide +kernel
  exact h ⟨c, hc⟩
/-! words by their numbers -/
theorem vl_inj {C D : Nat → Nat} {i i' : Nat} : ∀ a b, (∀ j, j < a → 97 ≤ C (i + j) ∧ C (i + j) ≤ 122) → (∀ j, j < b → 97 ≤ D (i' + j) ∧ D (i' + j) ≤ 122) → vlN 27 96 C i a = vlN 27 96 D i' b → a = b ∧ ∀ j, j < a → C (i + j) = D (i' + j)
  | 0, 0, _, _, _ => ⟨rfl, fun j hj => by omega⟩
  | 0, b + 1, _, hb, h => by
    have := hb b (by omega)
    have h : 0 = 27 * vlN 27 96 D i' b + (D (i' + b) - 96) := h
    omega
  | a + 1, 0, ha, _, h => by
    have := ha a (by omega)
    have h : 27 * vlN 27 96 C i a + (C (i + a) - 96) = 0 := h
    omega
  | a + 1, b + 1, ha, hb, h => by
    have h1 := ha a (by omega)
    have h2 := hb b (by omega)
    have h : 27 * vlN 27 96 C i a + (C (i + a) - 96) = 27 * vlN 27 96 D i' b + (D (i' + b) - 96) := h
    obtain ⟨e1, e2⟩ := vl_inj a b (fun j hj => ha j (by omega)) (fun j hj => hb j (by omega)) (by omega)
    subst e1
    refine ⟨rfl, fun j hj => ?_⟩
    by_cases q : j = a
    · subst q; omega
    · exact e2 j (by omega)
theorem vl_lt {C : Nat → Nat} {i : Nat} : ∀ k, (∀ j, j < k → C (i + j) ≤ 122) → vlN 27 96 C i k < 27 ^ k
  | 0, _ => by show 0 < 1; omega
  | k + 1, h => by
    have h1 := vl_lt k (fun j hj => h j (by omega))
    have h2 := h k (by omega)
    show 27 * vlN 27 96 C i k + (C (i + k) - 96) < 27 ^ (k + 1)
    rw [Nat.pow_succ]
    omega
def wln (k : Nat) : Nat := [5, 5, 4, 4, 7, 4, 4, 4, 2, 4, 4, 4, 3, 6, 6, 5, 5, 6, 7, 4].getD k 0
theorem wln_s {k : Nat} (hk : k < 20) : wln k ≤ 8 ∧ ∀ j, j < 8 → (j < wln k → 97 ≤ wch (k * 8 + j) ∧ wch (k * 8 + j) ≤ 122) ∧ (wln k ≤ j → wch (k * 8 + j) = 32) := by
  have h : ∀ k : Fin 20, wln k.1 ≤ 8 ∧ ∀ j : Fin 8, (j.1 < wln k.1 → 97 ≤ wch (k.1 * 8 + j.1) ∧ wch (k.1 * 8 + j.1) ≤ 122) ∧ (wln k.1 ≤ j.1 → wch (k.1 * 8 + j.1) = 32) := by decide +kernel
  exact ⟨(h ⟨k, hk⟩).1, fun j hj => (h ⟨k, hk⟩).2 ⟨j, hj⟩⟩
def wvN (k : Nat) : Nat := vlN 27 96 wch (k * 8) (wln k)
theorem wm_v {i e k : Nat} (hk : k < 20) (hie : i ≤ e) (h8 : e - i ≤ 8) (hl : ∀ j, i ≤ j → j < e → ltC (C j) = true) : wmB C i e k = true ↔ vlN 27 96 C i (e - i) = wvN k := by
  obtain ⟨w1, w2⟩ := wln_s hk
  have hc : ∀ j, j < e - i → 97 ≤ C (i + j) ∧ C (i + j) ≤ 122 := fun j hj => of_decide_eq_true (hl (i + j) (by omega) (by omega))
  constructor
  · intro q
    have q0 : ∀ j : Fin 8, wch (k * 8 + j.1) = pcC C i e j.1 := of_decide_eq_true q
    have q : ∀ j, j < 8 → wch (k * 8 + j) = pcC C i e j := fun j hj => q0 ⟨j, hj⟩
    have el : wln k = e - i := by
      rcases Nat.lt_trichotomy (wln k) (e - i) with z | z | z
      · have a1 := q (wln k) (by omega)
        have a2 := (w2 (wln k) (by omega)).2 (Nat.le_refl _)
        unfold pcC at a1
        rw [if_pos (by omega)] at a1
        have := hc (wln k) z
        omega
      · exact z
      · have a1 := q (e - i) (by omega)
        have a2 := (w2 (e - i) (by omega)).1 z
        unfold pcC at a1
        rw [if_neg (by omega)] at a1
        omega
    unfold wvN
    rw [el]
    have : ∀ n, n ≤ e - i → vlN 27 96 C i n = vlN 27 96 wch (k * 8) n := by
      intro n
      induction n with
      | zero => intro _; rfl
      | succ n ih =>
        intro hn
        have a1 := q n (by omega)
        unfold pcC at a1
        rw [if_pos (by omega)] at a1
        show 27 * vlN 27 96 C i n + (C (i + n) - 96) = 27 * vlN 27 96 wch (k * 8) n + (wch (k * 8 + n) - 96)
        rw [ih (by omega), a1]
    exact this _ (Nat.le_refl _)
  · intro q
    obtain ⟨e1, e2⟩ := vl_inj (e - i) (wln k) hc (fun j hj => (w2 j (by omega)).1 hj) q
    refine decide_eq_true (fun ⟨j, hj⟩ => ?_)
    show wch (k * 8 + j) = pcC C i e j
    unfold pcC
    by_cases z : i + j < e
    · rw [if_pos z]; exact (e2 j (by omega)).symm
    · rw [if_neg z]; exact (w2 j hj).2 (by omega)
theorem wv_u {k k' : Nat} (hk : k < 20) (hk' : k' < 20) (h : wvN k = wvN k') : k = k' := by
  have hh : ∀ k k' : Fin 20, wvN k.1 = wvN k'.1 → k = k' := by decide +kernel
  have := hh ⟨k, hk⟩ ⟨k', hk'⟩ h
  exact congrArg Fin.val this
end KIND
