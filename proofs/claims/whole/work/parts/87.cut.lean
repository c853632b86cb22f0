section CUT
variable {M L : Nat} {σ τ : Sg} {C : Nat → Nat} {kw : Nat → Int64}
/-- the model's row of a token -/
def mEn (σ : Sg) (M : Nat) (C : Nat → Nat) (L j : Nat) : Prop := σ.1 (M + 3) j = nI (mkd (kdT C L j)) ∧ σ.1 (M + 4) j = nI (poT C L j) ∧ (kdT C L j = 21 → σ.1 (M + 5) j = nI (vlT C L (poT C L j))) ∧ (kdT C L j = 20 → σ.2.1 (M + 6) j = lN (vlT C L (poT C L j)))
def toS (M s : Nat) (k p v : Int32) (nm : Int64) (σ : Sg) : Sg := wI (wJ (wI (wI (wI σ (M + 3) s k) (M + 4) s p) (M + 5) s v) (M + 6) s nm) M 10 (nI (s + 1))
theorem m_token {s : Nat} (hs : s < 403) (h3 : σ.1 M 10 = nI s) (k p v : Int32) (nm : Int64) : fX7_token M k p v nm σ = some (toS M s k p v nm σ) := by
  have e1 : (wI σ (M + 3) s k).1 M 10 = nI s := by rw [wI_n (by omega), h3]
  have e2 : (wI (wI σ (M + 3) s k) (M + 4) s p).1 M 10 = nI s := by rw [wI_n (by omega), e1]
  have e3 : (wI (wI (wI σ (M + 3) s k) (M + 4) s p) (M + 5) s v).1 M 10 = nI s := by rw [wI_n (by omega), e2]
  have e4 : (wJ (wI (wI (wI σ (M + 3) s k) (M + 4) s p) (M + 5) s v) (M + 6) s nm).1 M 10 = nI s := e3
  unfold fX7_token toS
  rw [h3]
  simp (disch := omega) only [vif, nI_clamp]
  rw [e1]
  simp (disch := omega) only [vif, nI_clamp]
  rw [e2]
  simp (disch := omega) only [vif, nI_clamp]
  rw [e3]
  simp (disch := omega) only [vif, nI_clamp]
  rw [e4, nI_s]
def SU (M : Nat) : Nat → Nat → Prop := fun k j => k = M + 3 ∨ k = M + 4 ∨ k = M + 5 ∨ k = M ∧ j = 10
theorem to_fj {s : Nat} {k p v : Int32} {nm : Int64} : FJ (SU M) (fun k => k = M + 6) σ (toS M s k p v nm σ) := by
  refine FJ.wI (FJ.wJ (FJ.wI (FJ.wI (FJ.wI FJ.rf ?_) ?_) ?_) ?_) ?_
  · unfold SU; omega
  · unfold SU; omega
  · unfold SU; omega
  · rfl
  · unfold SU; omega
theorem to_3 {s : Nat} {k p v : Int32} {nm : Int64} (x : Nat) : (toS M s k p v nm σ).1 (M + 3) x = if x = s then k else σ.1 (M + 3) x := by
  unfold toS
  rw [wI_n (by omega)]
  show (wI (wI (wI σ (M + 3) s k) (M + 4) s p) (M + 5) s v).1 (M + 3) x = _
  rw [wI_n (by omega), wI_n (by omega), wI_k]; rfl
theorem to_4 {s : Nat} {k p v : Int32} {nm : Int64} (x : Nat) : (toS M s k p v nm σ).1 (M + 4) x = if x = s then p else σ.1 (M + 4) x := by
  unfold toS
  rw [wI_n (by omega)]
  show (wI (wI (wI σ (M + 3) s k) (M + 4) s p) (M + 5) s v).1 (M + 4) x = _
  rw [wI_n (by omega), wI_k, wI_n (by omega)]; rfl
theorem to_5 {s : Nat} {k p v : Int32} {nm : Int64} (x : Nat) : (toS M s k p v nm σ).1 (M + 5) x = if x = s then v else σ.1 (M + 5) x := by
  unfold toS
  rw [wI_n (by omega)]
  show (wI (wI (wI σ (M + 3) s k) (M + 4) s p) (M + 5) s v).1 (M + 5) x = _
  rw [wI_k, wI_n (by omega), wI_n (by omega)]; rfl
theorem to_6 {s : Nat} {k p v : Int32} {nm : Int64} (x : Nat) : (toS M s k p v nm σ).2.1 (M + 6) x = if x = s then nm else σ.2.1 (M + 6) x := by
  unfold toS
  show (wJ (wI (wI (wI σ (M + 3) s k) (M + 4) s p) (M + 5) s v) (M + 6) s nm).2.1 (M + 6) x = _
  rw [wJ_k]; rfl
theorem to_en {s j : Nat} {k p v : Int32} {nm : Int64} (h : mEn σ M C L j) (hj : j < s) : mEn (toS M s k p v nm σ) M C L j := by
  unfold mEn
  rw [to_3, to_4, to_5, to_6, if_neg (by omega), if_neg (by omega), if_neg (by omega), if_neg (by omega)]
  exact h
theorem to_new {s : Nat} {k p v : Int32} {nm : Int64} (h1 : k = nI (mkd (kdT C L s))) (h2 : p = nI (poT C L s)) (h3 : kdT C L s = 21 → v = nI (vlT C L (poT C L s))) (h4 : kdT C L s = 20 → nm = lN (vlT C L (poT C L s))) : mEn (toS M s k p v nm σ) M C L s := by
  unfold mEn
  rw [to_3, to_4, to_5, to_6, if_pos rfl, if_pos rfl, if_pos rfl, if_pos rfl]
  exact ⟨h1, h2, h3, h4⟩
theorem TM.fj {S : Nat → Nat → Prop} {J : Nat → Prop} (h : TM σ M L C) (hF : FJ S J σ τ) (hS : ∀ j, ¬ S (M + 2) j) (h4 : ¬ S M 4) : TM τ M L C := ⟨h.1, (hF.1 M 4 h4).trans h.2.1, fun i hi => by rw [hF.1 (M + 2) i (hS i)]; exact h.2.2 i hi⟩
theorem byteC (h : TM σ M L C) {i : Nat} : (if i < L then C i else 0) < 256 := by
  split
  · rename_i q; exact (h.2.2 i q).2
  · omega
/-- letters, by the model -/
theorem m_let (h : TM σ M L C) {i e : Nat} (hi : i < L) (he : e ≤ L) (hie : i ≤ e) (hl : ∀ j, i ≤ j → j < e → ltC (C j) = true) (hx : e = L ∨ ltC (C e) = false) : ∀ d n, i + n + d = e → lp (fun st : Int32 × Int64 × Sg => bX7_cut_85 M (nI i) st.1 st.2.1 st.2.2) (nI n, lN (vlN 27 96 C i (min n 8)), σ) = some (nI (e - i), lN (vlN 27 96 C i (min (e - i) 8)), σ)
  | 0, n, hn => by
    have hL := h.1
    refine lp_r ?_
    show bX7_cut_85 M (nI i) (nI n) _ σ = _
    unfold bX7_cut_85
    rw [nI_add, m_byte h (by omega), Option.bind_some]
    dsimp only
    rw [m_letter (byteC h), Option.bind_some]
    dsimp only
    have : ltC (if i + n < L then C (i + n) else 0) = false := by
      rw [show i + n = e by omega]
      rcases hx with q | q
      · rw [if_neg (by omega)]; rfl
      · split
        · exact q
        · rfl
    rw [this, if_pos (show nI (b2n false) = 0 by decide), show n = e - i by omega]
  | d + 1, n, hn => by
    have hL := h.1
    have hc := hl (i + n) (by omega) (by omega)
    have hc' : 97 ≤ C (i + n) ∧ C (i + n) ≤ 122 := of_decide_eq_true hc
    have st : (fun st : Int32 × Int64 × Sg => bX7_cut_85 M (nI i) st.1 st.2.1 st.2.2) (nI n, lN (vlN 27 96 C i (min n 8)), σ) = some (Sum.inl (nI (n + 1), lN (vlN 27 96 C i (min (n + 1) 8)), σ)) := by
      show bX7_cut_85 M (nI i) (nI n) (lN (vlN 27 96 C i (min n 8))) σ = _
      unfold bX7_cut_85 jX7_cut_118 fX7_appends
      rw [nI_add, m_byte h (by omega), Option.bind_some]
      dsimp only
      rw [m_letter (byteC h), Option.bind_some]
      dsimp only
      rw [if_pos (show i + n < L by omega), hc, if_neg (show ¬ nI (b2n true) = 0 by decide), m_byte h (by omega), Option.bind_some]
      dsimp only
      rw [if_pos (show i + n < L by omega), nI_s]
      by_cases q : n < 8
      · rw [if_neg (show ¬ (8 : Int32) ≤ nI n from le_nI (a := 8) (by omega) (by omega) q), if_neg (show ¬ nI (C (i + n)) = 0 from ne_nI (b := 0) (by omega) (by omega) (by omega)), Option.bind_some]
        dsimp only
        rw [show nI (C (i + n)) - 97 = nI (C (i + n) - 97) from pk_sub (b := 97) (by omega), nI_s, nI_l (by omega), show (27 : Int64) * lN (vlN 27 96 C i (min n 8)) = lN (27 * vlN 27 96 C i (min n 8)) from lN_m 27 _, lN_a, show min n 8 = n by omega, show min (n + 1) 8 = n + 1 by omega]
        rw [show vlN 27 96 C i (n + 1) = 27 * vlN 27 96 C i n + (C (i + n) - 96) from rfl, show C (i + n) - 97 + 1 = C (i + n) - 96 by omega]
      · rw [if_pos (show (8 : Int32) ≤ nI n from nI_le (a := 8) (by omega) (by omega)), show min n 8 = 8 by omega, show min (n + 1) 8 = 8 by omega]
    exact (lp_l st).trans (m_let h hi he hie hl hx d (n + 1) (by omega))
/-- digits, by the model -/
theorem m_dig (h : TM σ M L C) {i e : Nat} (hi : i < L) (he : e ≤ L) (hie : i ≤ e) (hl : ∀ j, i ≤ j → j < e → dgC (C j) = true) (hx : e = L ∨ dgC (C e) = false) : ∀ d n, i + n + d = e → lp (fun st : Int32 × Int32 × Sg => bX7_cut_208 M (nI i) st.1 st.2.1 st.2.2) (nI n, nI (vlN 10 48 C i (min n 4)), σ) = some (nI (e - i), nI (vlN 10 48 C i (min (e - i) 4)), σ)
  | 0, n, hn => by
    have hL := h.1
    refine lp_r ?_
    show bX7_cut_208 M (nI i) (nI n) _ σ = _
    unfold bX7_cut_208
    rw [nI_add, m_byte h (by omega), Option.bind_some]
    dsimp only
    rw [m_digit (byteC h), Option.bind_some]
    dsimp only
    have : dgC (if i + n < L then C (i + n) else 0) = false := by
      rw [show i + n = e by omega]
      rcases hx with q | q
      · rw [if_neg (by omega)]; rfl
      · split
        · exact q
        · rfl
    rw [this, if_pos (show nI (b2n false) = 0 by decide), show n = e - i by omega]
  | d + 1, n, hn => by
    have hL := h.1
    have hc := hl (i + n) (by omega) (by omega)
    have hc' : 48 ≤ C (i + n) ∧ C (i + n) ≤ 57 := of_decide_eq_true hc
    have st : (fun st : Int32 × Int32 × Sg => bX7_cut_208 M (nI i) st.1 st.2.1 st.2.2) (nI n, nI (vlN 10 48 C i (min n 4)), σ) = some (Sum.inl (nI (n + 1), nI (vlN 10 48 C i (min (n + 1) 4)), σ)) := by
      show bX7_cut_208 M (nI i) (nI n) (nI (vlN 10 48 C i (min n 4))) σ = _
      unfold bX7_cut_208 jX7_cut_244
      rw [nI_add, m_byte h (by omega), Option.bind_some]
      dsimp only
      rw [m_digit (byteC h), Option.bind_some]
      dsimp only
      rw [if_pos (show i + n < L by omega), hc, if_neg (show ¬ nI (b2n true) = 0 by decide), m_byte h (by omega), Option.bind_some]
      dsimp only
      rw [if_pos (show i + n < L by omega), nI_s]
      by_cases q : n < 4
      · rw [if_neg (show ¬ (4 : Int32) ≤ nI n from le_nI (a := 4) (by omega) (by omega) q), show (10 : Int32) * nI (vlN 10 48 C i (min n 4)) = nI (10 * vlN 10 48 C i (min n 4)) from pk_mul 10 _, nI_add, show nI (10 * vlN 10 48 C i (min n 4) + C (i + n)) - 48 = nI (10 * vlN 10 48 C i (min n 4) + C (i + n) - 48) from pk_sub (b := 48) (by omega), show min n 4 = n by omega, show min (n + 1) 4 = n + 1 by omega]
        rw [show vlN 10 48 C i (n + 1) = 10 * vlN 10 48 C i n + (C (i + n) - 48) from rfl, show 10 * vlN 10 48 C i n + C (i + n) - 48 = 10 * vlN 10 48 C i n + (C (i + n) - 48) by omega]
      · rw [if_pos (show (4 : Int32) ≤ nI n from nI_le (a := 4) (by omega) (by omega)), show min n 4 = 4 by omega, show min (n + 1) 4 = 4 by omega]
    exact (lp_l st).trans (m_dig h hi he hie hl hx d (n + 1) (by omega))
/-- the last that holds -/
def lsG (p : Nat → Bool) : Nat → Nat
  | 0 => 1
  | k + 1 => if p k = true then 20 + k else lsG p k
theorem lsG_s (p : Nat → Bool) : ∀ k, (lsG p k = 1 ∧ ∀ x, x < k → p x = false) ∨ ∃ x, x < k ∧ p x = true ∧ lsG p k = 20 + x
  | 0 => Or.inl ⟨rfl, fun x hx => by omega⟩
  | k + 1 => by
    rw [show lsG p (k + 1) = if p k = true then 20 + k else lsG p k from rfl]
    by_cases q : p k = true
    · rw [if_pos q]; exact Or.inr ⟨k, by omega, q, rfl⟩
    · rw [if_neg q]
      rcases lsG_s p k with ⟨h1, h2⟩ | ⟨x, h1, h2, h3⟩
      · refine Or.inl ⟨h1, fun x hx => ?_⟩
        by_cases z : x = k
        · rw [z]; simpa using q
        · exact h2 x (by omega)
      · exact Or.inr ⟨x, by omega, h2, h3⟩
theorem lg0 (x y : Int64) : lg_cmp x y = 0 ↔ x = y := by
  unfold lg_cmp
  by_cases q : x > y
  · rw [if_pos q]
    constructor
    · intro z; exact absurd z (by decide)
    · intro z; rw [z] at q; exact absurd q (Int64.lt_irrefl)
  · rw [if_neg q]
    by_cases z : x = y
    · rw [if_pos z]; exact ⟨fun _ => z, fun _ => rfl⟩
    · rw [if_neg z]; exact ⟨fun w => absurd w (by decide), fun w => absurd w z⟩
theorem lN_ij {a b : Nat} (ha : a < 2 ^ 63) (hb : b < 2 ^ 63) : lN a = lN b ↔ a = b := by
  constructor
  · intro h
    have := congrArg Int64.toInt h
    unfold lN at this
    rw [Int64.toInt_ofNat_of_lt ha, Int64.toInt_ofNat_of_lt hb] at this
    omega
  · intro h; rw [h]
theorem wvN_lt {k : Nat} (hk : k < 20) : wvN k < 2 ^ 63 := by
  obtain ⟨w1, w2⟩ := wln_s hk
  have := vl_lt (C := wch) (i := k * 8) (wln k) (fun j hj => ((w2 j (by omega)).1 hj).2)
  have h2 : 27 ^ wln k ≤ 27 ^ 8 := Nat.pow_le_pow_right (by omega) w1
  have h3 : 27 ^ 8 < 2 ^ 63 := by decide
  unfold wvN
  omega
theorem m_keys (hkw : ∀ k, k < 20 → σ.2.1 (M + 7) k = lN (wvN k)) {v : Nat} (hv : v < 2 ^ 63) (x1 x3 : Int32) : lp (fun st : Int32 × Int32 × Sg => bX7_cut_146 M x1 x3 (lN v) st.1 st.2.1 st.2.2) (1, 0, σ) = some (nI (lsG (fun k => decide (wvN k = v)) 20), σ) := by
  refine lpn (f := fun st : Int32 × Int32 × Sg => bX7_cut_146 M x1 x3 (lN v) st.1 st.2.1 st.2.2) (fun k => (nI (lsG (fun k => decide (wvN k = v)) k), nI k, σ)) 20 (fun k hk => ?_) ?_ 0 (by omega)
  · show bX7_cut_146 M x1 x3 (lN v) (nI (lsG (fun k => decide (wvN k = v)) k)) (nI k) σ = some (Sum.inl (nI (lsG (fun k => decide (wvN k = v)) (k + 1)), nI (k + 1), σ))
    rw [show lsG (fun k => decide (wvN k = v)) (k + 1) = if decide (wvN k = v) = true then 20 + k else lsG (fun k => decide (wvN k = v)) k from rfl]
    unfold bX7_cut_146 jX7_cut_173
    rw [if_neg (show ¬ (20 : Int32) ≤ nI k from le_nI (a := 20) (by omega) (by omega) hk)]
    simp (disch := omega) only [vif, nI_clamp]
    rw [hkw k hk, nI_s, show (20 : Int32) + nI k = nI (20 + k) from nI_add 20 k]
    by_cases q : wvN k = v
    · rw [if_pos ((lg0 _ _).mpr (by rw [q])), if_pos (decide_eq_true q)]
    · rw [if_neg (fun z => q ((lN_ij (wvN_lt hk) hv).mp ((lg0 _ _).mp z))), if_neg (by rw [decide_eq_false q]; decide)]
  · show bX7_cut_146 M x1 x3 (lN v) _ (nI 20) σ = _
    unfold bX7_cut_146
    rw [if_pos (by decide)]
theorem ls_fn {i e : Nat} (hie : i ≤ e) (h8 : e - i ≤ 8) (hl : ∀ j, i ≤ j → j < e → ltC (C j) = true) : lsG (fun k => decide (wvN k = vlN 27 96 C i (e - i))) 20 = mkd (fnG (wmB C i e) 20 20 0) := by
  have wv : ∀ k, k < 20 → (wmB C i e k = true ↔ vlN 27 96 C i (e - i) = wvN k) := fun k hk => wm_v hk hie h8 hl
  rcases fnG_s (wmB C i e) 20 20 0 with ⟨q1, q2⟩ | ⟨-, q2, q3⟩
  · rw [q1]
    rcases lsG_s (fun k => decide (wvN k = vlN 27 96 C i (e - i))) 20 with ⟨z1, -⟩ | ⟨x, z1, z2, -⟩
    · rw [z1]; rfl
    · have a1 := q2 x (by omega) (by omega)
      have a2 := (wv x z1).mpr (of_decide_eq_true z2).symm
      rw [a1] at a2; cases a2
  · generalize fnG (wmB C i e) 20 20 0 = y at q2 q3
    have a1 := (wv y (by omega)).mp q3
    rcases lsG_s (fun k => decide (wvN k = vlN 27 96 C i (e - i))) 20 with ⟨-, z2⟩ | ⟨x, z1, z2, z3⟩
    · have := z2 y (by omega)
      have : decide (wvN y = vlN 27 96 C i (e - i)) = false := this
      rw [decide_eq_true a1.symm] at this; cases this
    · have a2 : wvN x = vlN 27 96 C i (e - i) := of_decide_eq_true z2
      have : x = y := wv_u z1 (by omega) (by omega)
      rw [z3, this]
      unfold mkd
      rw [if_pos (by omega)]
end CUT
