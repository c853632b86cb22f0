section CUT2
variable {M L : Nat} {σ τ : Sg} {C : Nat → Nat} {kw : Nat → Int64}
theorem cut_un (h : TM τ M L C) {i s : Nat} (hi : i < L) (hs : s ≤ 400) (h3 : τ.1 M 10 = nI s) : bX7_cut_7 M (nI i) τ = if blC (C i) = true then some (Sum.inl (nI (i + 1), τ)) else if ltC (C i) = true then ((lp (fun st : Int32 × Int64 × Sg => bX7_cut_85 M (nI i) st.1 st.2.1 st.2.2) ((0 : Int32), (0 : Int64), τ)).bind (fun q96 => if q96.1 ≤ (8 : Int32) then (jX7_cut_135 M (nI i) q96.1 q96.2.1 (1 : Int32) q96.2.2) else (jX7_cut_135 M (nI i) q96.1 q96.2.1 (3 : Int32) q96.2.2))) else if dgC (C i) = true then ((lp (fun st : Int32 × Int32 × Sg => bX7_cut_208 M (nI i) st.1 st.2.1 st.2.2) ((0 : Int32), (0 : Int32), τ)).bind (fun q56 => if q56.1 ≤ (4 : Int32) then (jX7_cut_261 M (nI i) q56.1 q56.2.1 M (2 : Int32) q56.2.2) else (jX7_cut_261 M (nI i) q56.1 q56.2.1 M (3 : Int32) q56.2.2))) else ((fX7_token M (msI (nI (C i))) (nI i) 0 0 τ).bind (fun σ2 => some (Sum.inl (nI (i + 1), σ2)))) := by
  have hL := h.1
  have hc := (h.2.2 i hi).2
  have e9 : nI (C i) = (9 : Int32) ↔ C i = 9 := nI_eq (b := 9) (by omega) (by omega)
  have e10 : nI (C i) = (10 : Int32) ↔ C i = 10 := nI_eq (b := 10) (by omega) (by omega)
  have e13 : nI (C i) = (13 : Int32) ↔ C i = 13 := nI_eq (b := 13) (by omega) (by omega)
  have e32 : nI (C i) = (32 : Int32) ↔ C i = 32 := nI_eq (b := 32) (by omega) (by omega)
  conv => lhs; unfold bX7_cut_7 jX7_cut_67 jX7_cut_291
  rw [h3, if_neg (Int32.not_lt.mpr (show nI s ≤ 400 from nI_le (b := 400) hs (by omega))), m_byte h (by omega), Option.bind_some]
  dsimp only
  rw [if_pos hi, h.2.1, if_pos (Int32.not_le.mp (le_nI (by omega) (by omega) hi)), nI_s]
  by_cases q : C i = 9 ∨ C i = 10 ∨ C i = 13 ∨ C i = 32
  · rw [if_pos (show blC (C i) = true from decide_eq_true q)]
    by_cases q1 : C i = 9
    · rw [if_pos (e9.mpr q1)]
    · rw [if_neg (fun z => q1 (e9.mp z))]
      by_cases q2 : C i = 10
      · rw [if_pos (e10.mpr q2)]
      · rw [if_neg (fun z => q2 (e10.mp z))]
        by_cases q3 : C i = 13
        · rw [if_pos (e13.mpr q3)]
        · rw [if_neg (fun z => q3 (e13.mp z)), if_pos (e32.mpr (by omega))]
  · rw [if_neg (show ¬ blC (C i) = true from by unfold blC; rw [decide_eq_false q]; decide), if_neg (fun z => q (Or.inl (e9.mp z))), if_neg (fun z => q (Or.inr (Or.inl (e10.mp z)))), if_neg (fun z => q (Or.inr (Or.inr (Or.inl (e13.mp z))))), if_neg (fun z => q (Or.inr (Or.inr (Or.inr (e32.mp z))))), m_letter hc, Option.bind_some]
    dsimp only
    rw [m_digit hc, Option.bind_some]
    dsimp only
    rw [m_byte h (by omega), Option.bind_some]
    dsimp only
    rw [m_sign]
    cases ltC (C i)
    · rw [if_pos (show nI (b2n false) = 0 by decide), if_neg (show ¬ false = true by decide)]
      cases dgC (C i)
      · rw [if_pos (show nI (b2n false) = 0 by decide), if_neg (show ¬ false = true by decide)]
        cases fX7_token M (msI (nI (C i))) (nI i) 0 0 τ with
        | none => rfl
        | some σ2 =>
          show some (Sum.inl (nI i + 1, σ2)) = some (Sum.inl (nI (i + 1), σ2))
          rw [nI_s]
      · rw [if_neg (show ¬ nI (b2n true) = 0 by decide), if_pos rfl]
    · rw [if_neg (show ¬ nI (b2n true) = 0 by decide), if_pos rfl]
/-- one token cut -/
theorem cut_tok (h : TM τ M L C) (hkw : ∀ k, k < 20 → τ.2.1 (M + 7) k = lN (wvN k)) {i s : Nat} (hi : i < L) (hs : s ≤ 400) (h3 : τ.1 M 10 = nI s) (hb : blC (C i) = false) (hp : i = poT C L s) : ∃ υ, bX7_cut_7 M (nI i) τ = some (Sum.inl (nI (enE C L i), υ)) ∧ FJ (SU M) (fun k => k = M + 6) τ υ ∧ υ.1 M 10 = nI (s + 1) ∧ mEn υ M C L s ∧ ∀ j, j < s → mEn τ M C L j → mEn υ M C L j := by
  have hL := h.1
  have hc := (h.2.2 i hi).2
  have ek : kdC C L i = kdT C L s := by unfold kdT; rw [← hp, if_pos hi]
  obtain ⟨g1, g2⟩ := enE_in (C := C) hi
  rw [cut_un h hi hs h3, hb, if_neg (show ¬ false = true by decide)]
  have fin : ∀ (k v : Int32) (nm : Int64), k = nI (mkd (kdT C L s)) → (kdT C L s = 21 → v = nI (vlT C L (poT C L s))) → (kdT C L s = 20 → nm = lN (vlT C L (poT C L s))) → FJ (SU M) (fun k => k = M + 6) τ (toS M s k (nI i) v nm τ) ∧ (toS M s k (nI i) v nm τ).1 M 10 = nI (s + 1) ∧ mEn (toS M s k (nI i) v nm τ) M C L s ∧ ∀ j, j < s → mEn τ M C L j → mEn (toS M s k (nI i) v nm τ) M C L j := fun k v nm a1 a2 a3 => ⟨to_fj, by unfold toS; rw [wI_k, upd_k], to_new a1 (congrArg nI hp) a2 a3, fun j hj hm => to_en hm hj⟩
  cases ql : ltC (C i)
  · rw [if_neg (show ¬ false = true by decide)]
    cases qd : dgC (C i)
    · rw [if_neg (show ¬ false = true by decide), m_token (by omega) h3, Option.bind_some]
      have ee : enE C L i = i + 1 := by unfold enE; rw [ql, qd]; rfl
      have kk : kdC C L i = 22 + fnG (fun j => decide (sch j = C i)) 10 9 0 := by unfold kdC; rw [ql, qd]; rfl
      rw [ee]
      exact ⟨_, rfl, fin _ _ _ (by rw [ms_k hc, ← kk, ek]) (fun z => by omega) (fun z => by omega)⟩
    · rw [if_pos rfl]
      have ee : enE C L i = rnE dgC C (L - (i + 1)) (i + 1) := by unfold enE; rw [ql, qd]; rfl
      have kk : kdC C L i = if enE C L i - i ≤ 4 then 21 else 32 := by unfold kdC; rw [ql, qd]; rfl
      have hr := rnE_in dgC C (L - (i + 1)) (i + 1)
      have hx := rnE_x dgC C (L - (i + 1)) (i + 1)
      rw [← ee] at hr hx
      generalize he : enE C L i = e at ee g1 g2 kk hr hx
      have lo := m_dig h hi g2 (by omega) (fun j a1 a2 => by
        by_cases z : j = i
        · rw [z]; exact qd
        · exact hr.2.2 j (by omega) a2) (by
        by_cases z : e = L
        · exact Or.inl z
        · exact Or.inr (hx (by omega))) (e - i) 0 (by omega)
      have lo : lp (fun st : Int32 × Int32 × Sg => bX7_cut_208 M (nI i) st.1 st.2.1 st.2.2) (0, 0, τ) = _ := lo
      rw [lo, Option.bind_some]
      dsimp only
      unfold jX7_cut_261 jX7_cut_291
      rw [m_token (by omega) h3, m_token (by omega) h3, Option.bind_some, Option.bind_some, nI_add, show i + (e - i) = e by omega]
      by_cases z : e - i ≤ 4
      · rw [if_pos z] at kk
        rw [if_pos (show nI (e - i) ≤ 4 from nI_le (b := 4) z (by omega))]
        refine ⟨_, rfl, fin _ _ _ (by rw [← ek, kk]; rfl) (fun _ => ?_) (fun y => by omega)⟩
        unfold vlT
        rw [← hp, if_neg (by rw [ql]; decide), he, show min (e - i) 4 = min (e - i) 8 by omega]
      · rw [if_neg z] at kk
        rw [if_neg (show ¬ nI (e - i) ≤ 4 from le_nI (b := 4) (by omega) (by omega) (by omega))]
        exact ⟨_, rfl, fin _ _ _ (by rw [← ek, kk]; rfl) (fun y => by omega) (fun y => by omega)⟩
  · rw [if_pos rfl]
    have ee : enE C L i = rnE ltC C (L - (i + 1)) (i + 1) := by unfold enE; rw [ql]; rfl
    have kk : kdC C L i = if enE C L i - i ≤ 8 then fnG (wmB C i (enE C L i)) 20 20 0 else 32 := by unfold kdC; rw [ql]; rfl
    have hr := rnE_in ltC C (L - (i + 1)) (i + 1)
    have hx := rnE_x ltC C (L - (i + 1)) (i + 1)
    rw [← ee] at hr hx
    generalize he : enE C L i = e at ee g1 g2 kk hr hx
    have hl : ∀ j, i ≤ j → j < e → ltC (C j) = true := fun j a1 a2 => by
      by_cases z : j = i
      · rw [z]; exact ql
      · exact hr.2.2 j (by omega) a2
    have lo := m_let h hi g2 (by omega) hl (by
      by_cases z : e = L
      · exact Or.inl z
      · exact Or.inr (hx (by omega))) (e - i) 0 (by omega)
    have lo : lp (fun st : Int32 × Int64 × Sg => bX7_cut_85 M (nI i) st.1 st.2.1 st.2.2) (0, 0, τ) = _ := lo
    rw [lo, Option.bind_some]
    dsimp only
    unfold jX7_cut_135 jX7_cut_179 jX7_cut_291
    by_cases z : e - i ≤ 8
    · rw [if_pos z] at kk
      rw [if_pos (show nI (e - i) ≤ 8 from nI_le (b := 8) z (by omega)), if_neg (Int32.not_lt.mpr (show nI (e - i) ≤ 8 from nI_le (b := 8) z (by omega))), show min (e - i) 8 = e - i by omega]
      have vl := vl_lt (C := C) (i := i) (e - i) (fun j hj => (of_decide_eq_true (hl (i + j) (by omega) (by omega)) : 97 ≤ C (i + j) ∧ C (i + j) ≤ 122).2)
      have h2 : 27 ^ (e - i) ≤ 27 ^ 8 := Nat.pow_le_pow_right (by omega) z
      have h4 : 27 ^ 8 < 2 ^ 63 := by decide
      rw [m_keys hkw (by omega), Option.bind_some]
      dsimp only
      rw [m_token (by omega) h3, Option.bind_some, nI_add, show i + (e - i) = e by omega]
      refine ⟨_, rfl, fin _ _ _ (by rw [ls_fn (by omega) z hl, ← kk, ek]) (fun y => ?_) (fun _ => ?_)⟩
      · rw [← ek] at y; have := kd_int y; rw [ql] at this; cases this.1
      · unfold vlT
        rw [← hp, if_pos ql, he, show min (e - i) 8 = e - i by omega]
    · rw [if_neg z] at kk
      rw [if_neg (show ¬ nI (e - i) ≤ 8 from le_nI (b := 8) (by omega) (by omega) (by omega)), if_pos (Int32.not_le.mp (show ¬ nI (e - i) ≤ 8 from le_nI (b := 8) (by omega) (by omega) (by omega))), m_token (by omega) h3, Option.bind_some, nI_add, show i + (e - i) = e by omega]
      exact ⟨_, rfl, fin _ _ _ (by rw [← ek, kk]; rfl) (fun y => by omega) (fun y => by omega)⟩
def TKm (σ : Sg) (M : Nat) (C : Nat → Nat) (L : Nat) : Prop := ∀ j, j ≤ 400 → (∀ j', j' < j → kdT C L j' < 31) → mEn σ M C L j
theorem m_cut (h : TM σ M L C) (hkw : ∀ k, k < 20 → σ.2.1 (M + 7) k = lN (wvN k)) : ∃ τ, fX7_cut M σ = some τ ∧ FJ (SU M) (fun k => k = M + 6) σ τ ∧ TKm τ M C L := by
  have hL := h.1
  have loop : ∀ (d i s : Nat) (τ : Sg), i ≤ L → L - i ≤ d → FJ (SU M) (fun k => k = M + 6) σ τ → τ.1 M 10 = nI s → s ≤ 401 → skp C L i = poT C L s → (∀ j, j < s → mEn τ M C L j) → ∃ υ z o, lp (fun st : Int32 × Sg => bX7_cut_7 M st.1 st.2) (nI i, τ) = some o ∧ FJ (SU M) (fun k => k = M + 6) σ υ ∧ z ≤ 401 ∧ υ.1 M 10 = nI z ∧ (∀ j, j < z → mEn υ M C L j) ∧ ((o = Sum.inr υ ∧ z = 401) ∨ (o = Sum.inl υ ∧ poT C L z = L ∧ z ≤ 400)) := by
    intro d
    have stop401 : ∀ (i : Nat) (τ : Sg), τ.1 M 10 = nI 401 → bX7_cut_7 M (nI i) τ = some (Sum.inr (Sum.inr τ)) := fun i τ h3 => by
      unfold bX7_cut_7
      rw [h3, if_pos (by decide)]
    have stopL : ∀ (s : Nat) (τ : Sg), FJ (SU M) (fun k => k = M + 6) σ τ → s ≤ 400 → τ.1 M 10 = nI s → bX7_cut_7 M (nI L) τ = some (Sum.inr (Sum.inl τ)) := fun s τ hF hs h3 => by
      have hT : TM τ M L C := h.fj hF (fun j q => by unfold SU at q; omega) (fun q => by unfold SU at q; omega)
      unfold bX7_cut_7
      rw [h3, if_neg (Int32.not_lt.mpr (show nI s ≤ 400 from nI_le (b := 400) hs (by omega))), m_byte hT (by omega), Option.bind_some]
      dsimp only
      rw [hT.2.1, if_neg (Int32.not_lt.mpr (Int32.le_refl _))]
    induction d with
    | zero =>
      intro i s τ hi hd hF h3 hs hp he
      have : i = L := by omega
      subst this
      by_cases qs : s = 401
      · subst qs
        exact ⟨τ, 401, _, lp_r (stop401 i τ h3), hF, hs, h3, he, Or.inl ⟨rfl, rfl⟩⟩
      · exact ⟨τ, s, _, lp_r (stopL s τ hF (by omega) h3), hF, hs, h3, he, Or.inr ⟨rfl, by rw [← hp, skp_L], by omega⟩⟩
    | succ d ih =>
      intro i s τ hi hd hF h3 hs hp he
      by_cases qs : s = 401
      · subst qs
        exact ⟨τ, 401, _, lp_r (stop401 i τ h3), hF, hs, h3, he, Or.inl ⟨rfl, rfl⟩⟩
      · by_cases qi : i = L
        · subst qi
          exact ⟨τ, s, _, lp_r (stopL s τ hF (by omega) h3), hF, hs, h3, he, Or.inr ⟨rfl, by rw [← hp, skp_L], by omega⟩⟩
        · have hiL : i < L := by omega
          have hT : TM τ M L C := h.fj hF (fun j q => by unfold SU at q; omega) (fun q => by unfold SU at q; omega)
          cases qb : blC (C i)
          · have ep : i = poT C L s := by rw [← hp, skp_n hiL qb]
            obtain ⟨g1, g2⟩ := enE_in (C := C) hiL
            obtain ⟨υ, u1, u2, u3, u4, u5⟩ := cut_tok hT (fun k hk => by rw [hF.2.1 (M + 7) (by omega)]; exact hkw k hk) hiL (by omega) h3 qb ep
            obtain ⟨ω, z, o, o1, o2⟩ := ih (enE C L i) (s + 1) υ g2 (by omega) (hF.tr u2) u3 (by omega) (by
                rw [show poT C L (s + 1) = if poT C L s < L then skp C L (enE C L (poT C L s)) else L from rfl, ← ep, if_pos hiL]) (fun j hj => by
                by_cases z : j = s
                · rw [z]; exact u4
                · exact u5 j (by omega) (he j (by omega)))
            exact ⟨ω, z, o, (lp_l u1).trans o1, o2⟩
          · have un := cut_un hT hiL (by omega) h3
            rw [qb, if_pos rfl] at un
            obtain ⟨ω, z, o, o1, o2⟩ := ih (i + 1) s τ (by omega) (by omega) hF h3 hs (by rw [skp_b hiL qb]; exact hp) he
            exact ⟨ω, z, o, (lp_l un).trans o1, o2⟩
  obtain ⟨υ, z, o, o1, o2, o3, o4, o5, o6⟩ := loop L 0 0 (wI σ M 10 0) (by omega) (by omega) (FJ.rf.wI (by unfold SU; omega)) (by rw [wI_k, upd_k]; rfl) (by omega) rfl (fun j hj => by omega)
  have o1 : lp (fun st : Int32 × Sg => bX7_cut_7 M st.1 st.2) (0, wI σ M 10 0) = some o := o1
  unfold fX7_cut
  dsimp only
  rw [o1, Option.bind_some]
  rcases o6 with ⟨rfl, rfl⟩ | ⟨rfl, q1, q2⟩
  · exact ⟨υ, rfl, o2, fun j hj _ => o5 j (by omega)⟩
  · have e4 : υ.1 M 4 = nI L := (o2.1 _ _ (by unfold SU; omega)).trans h.2.1
    refine ⟨toS M z 0 (nI L) 0 0 υ, ?_, o2.tr to_fj, fun j hj hall => ?_⟩
    · show (fX7_token M 0 (υ.1 M 4) 0 0 υ).bind _ = _
      rw [e4, m_token (by omega) o4]; rfl
    · have ek : kdT C L z = 31 := by unfold kdT; rw [if_neg (by omega)]
      by_cases y : j < z
      · exact to_en (o5 j y) y
      · by_cases y2 : j = z
        · subst y2
          exact to_new (by rw [ek]; rfl) (by rw [q1]) (fun w => by omega) (fun w => by omega)
        · have := hall z (by omega); omega
end CUT2
