/-! ints but in S, longs but in J as they were -/
def FJ (S : Nat → Nat → Prop) (J : Nat → Prop) (σ τ : Sg) : Prop := (∀ k j, ¬ S k j → τ.1 k j = σ.1 k j) ∧ (∀ k, ¬ J k → τ.2.1 k = σ.2.1 k) ∧ τ.2.2 = σ.2.2
theorem FJ.rf {S : Nat → Nat → Prop} {J : Nat → Prop} {σ : Sg} : FJ S J σ σ := ⟨fun _ _ _ => rfl, fun _ _ => rfl, rfl⟩
theorem FJ.tr {S : Nat → Nat → Prop} {J : Nat → Prop} {σ τ υ : Sg} (h : FJ S J σ τ) (h2 : FJ S J τ υ) : FJ S J σ υ := ⟨fun k j hk => (h2.1 k j hk).trans (h.1 k j hk), fun k hk => (h2.2.1 k hk).trans (h.2.1 k hk), h2.2.2.trans h.2.2⟩
theorem FJ.mo {S S' : Nat → Nat → Prop} {J J' : Nat → Prop} {σ τ : Sg} (h : FJ S J σ τ) (hs : ∀ k j, S k j → S' k j) (hj : ∀ k, J k → J' k) : FJ S' J' σ τ := ⟨fun k j hk => h.1 k j (fun q => hk (hs k j q)), fun k hk => h.2.1 k (fun q => hk (hj k q)), h.2.2⟩
theorem FJ.wI {S : Nat → Nat → Prop} {J : Nat → Prop} {σ τ : Sg} (h : FJ S J σ τ) {k i : Nat} {v : Int32} (hk : S k i) : FJ S J σ (wI τ k i v) := ⟨fun x y hx => by rw [wI_a, if_neg (fun q => hx (by rw [q.1, q.2]; exact hk))]; exact h.1 x y hx, h.2⟩
theorem wJ_k {σ : Sg} {k i : Nat} {v : Int64} : (wJ σ k i v).2.1 k = vp_updL (σ.2.1 k) i v := by simp [wJ, va_up]
theorem wJ_n {σ : Sg} {k i x : Nat} {v : Int64} (h : x ≠ k) : (wJ σ k i v).2.1 x = σ.2.1 x := va_up_ne _ _ h
theorem FJ.wJ {S : Nat → Nat → Prop} {J : Nat → Prop} {σ τ : Sg} (h : FJ S J σ τ) {k i : Nat} {v : Int64} (hk : J k) : FJ S J σ (wJ τ k i v) := ⟨h.1, fun x hx => by rw [wJ_n (fun q => hx (by rw [q]; exact hk))]; exact h.2.1 x hx, h.2.2⟩
theorem Fs.fj {S : Nat → Nat → Prop} {J : Nat → Prop} {σ τ : Sg} (h : Fs S σ τ) : FJ S J σ τ := ⟨h.1, fun _ _ => by rw [h.2], by rw [h.2]⟩
/-! the tokens of a text -/
def skp (C : Nat → Nat) (L i : Nat) : Nat := rnE blC C (L - i) i
def poT (C : Nat → Nat) (L : Nat) : Nat → Nat
  | 0 => skp C L 0
  | j + 1 => if poT C L j < L then skp C L (enE C L (poT C L j)) else L
def kdT (C : Nat → Nat) (L j : Nat) : Nat := if poT C L j < L then kdC C L (poT C L j) else 31
def vlT (C : Nat → Nat) (L p : Nat) : Nat := if ltC (C p) = true then vlN 27 96 C p (min (enE C L p - p) 8) else vlN 10 48 C p (min (enE C L p - p) 8)
section SCAN
variable {M L : Nat} {σ τ : Sg} {C : Nat → Nat}
theorem skp_in {i : Nat} (hi : i ≤ L) : i ≤ skp C L i ∧ skp C L i ≤ L := by
  have := rnE_in blC C (L - i) i
  unfold skp
  omega
theorem skp_b {i : Nat} (hi : i < L) (h : blC (C i) = true) : skp C L (i + 1) = skp C L i := by
  unfold skp
  rw [show L - i = (L - (i + 1)) + 1 by omega]
  show _ = if blC (C i) = true then rnE blC C (L - (i + 1)) (i + 1) else i
  rw [if_pos h]
theorem skp_n {i : Nat} (hi : i < L) (h : blC (C i) = false) : skp C L i = i := by
  unfold skp
  rw [show L - i = (L - (i + 1)) + 1 by omega]
  show (if blC (C i) = true then rnE blC C (L - (i + 1)) (i + 1) else i) = i
  rw [if_neg (by rw [h]; decide)]
theorem skp_L : skp C L L = L := by have := skp_in (C := C) (Nat.le_refl L); omega
theorem poT_le : ∀ j, poT C L j ≤ L
  | 0 => (skp_in (Nat.zero_le _)).2
  | j + 1 => by
    unfold poT
    split
    · rename_i q; exact (skp_in (enE_in q).2).2
    · exact Nat.le_refl _
theorem kd_let {p : Nat} (h : kdC C L p = 20) : ltC (C p) = true := by
  cases q : ltC (C p)
  · unfold kdC at h
    rw [q, if_neg (by decide)] at h
    split at h
    · split at h <;> omega
    · omega
  · rfl
theorem kd_int {p : Nat} (h : kdC C L p = 21) : ltC (C p) = false ∧ dgC (C p) = true ∧ enE C L p - p ≤ 4 := by
  unfold kdC at h
  cases q : ltC (C p)
  · rw [q, if_neg (by decide)] at h
    cases q2 : dgC (C p)
    · rw [q2, if_neg (by decide)] at h; omega
    · rw [q2, if_pos rfl] at h
      split at h
      · exact ⟨rfl, rfl, by assumption⟩
      · omega
  · rw [q, if_pos rfl] at h
    split at h
    · rcases fnG_s (wmB C p (enE C L p)) 20 20 0 with ⟨z, -⟩ | ⟨-, z, -⟩ <;> omega
    · omega
/-- the class's row of a token -/
def cEn (σ : Sg) (C : Nat → Nat) (L j : Nat) : Prop := σ.1 28 j = nI (kdT C L j) ∧ σ.1 29 j = nI (poT C L j) ∧ (kdT C L j = 20 ∨ kdT C L j = 21 → σ.2.1 30 j = lN (vlT C L (poT C L j)))
theorem c_putT {s : Nat} (hs : s < 402) (h3 : σ.1 27 3 = nI s) (k p : Int32) (v : Int64) : fX4_put 27 k p v σ = some (wI (wJ (wI (wI σ 28 s k) 29 s p) 30 s v) 27 3 (nI (s + 1))) := by
  have e1 : (wI σ 28 s k).1 27 3 = nI s := by rw [wI_n (by omega), h3]
  have e2 : (wI (wI σ 28 s k) 29 s p).1 27 3 = nI s := by rw [wI_n (by omega), e1]
  have e3 : (wJ (wI (wI σ 28 s k) 29 s p) 30 s v).1 27 3 = nI s := e2
  unfold fX4_put
  rw [h3, if_neg (show ¬ (402 : Int32) ≤ nI s from le_nI (a := 402) (by omega) (by omega) hs)]
  simp (disch := omega) only [vif, nI_clamp]
  rw [e1]
  simp (disch := omega) only [vif, nI_clamp]
  rw [e2]
  simp (disch := omega) only [vif, nI_clamp]
  rw [e3, nI_s]
def ST : Nat → Nat → Prop := fun k j => k = 28 ∨ k = 29 ∨ k = 27 ∧ j = 3
theorem put_fj {s : Nat} {k p : Int32} {v : Int64} : FJ ST (fun k => k = 30) σ (wI (wJ (wI (wI σ 28 s k) 29 s p) 30 s v) 27 3 (nI (s + 1))) := by
  refine FJ.wI (FJ.wJ (FJ.wI (FJ.wI FJ.rf ?_) ?_) ?_) ?_
  · unfold ST; omega
  · unfold ST; omega
  · rfl
  · unfold ST; omega
theorem put_en {s j : Nat} {k p : Int32} {v : Int64} (h : cEn σ C L j) (hj : j < s) : cEn (wI (wJ (wI (wI σ 28 s k) 29 s p) 30 s v) 27 3 (nI (s + 1))) C L j := by
  obtain ⟨h1, h2, h3⟩ := h
  refine ⟨?_, ?_, fun q => ?_⟩
  · rw [wI_n (by omega)]
    show (wI (wI σ 28 s k) 29 s p).1 28 j = _
    rw [wI_n (by omega), wI_k, upd_n (by omega)]; exact h1
  · rw [wI_n (by omega)]
    show (wI (wI σ 28 s k) 29 s p).1 29 j = _
    rw [wI_k, upd_n (by omega), wI_n (by omega)]; exact h2
  · show (wJ (wI (wI σ 28 s k) 29 s p) 30 s v).2.1 30 j = _
    rw [wJ_k, pk_uLn (by omega)]; exact h3 q
theorem put_new {s : Nat} {v : Int64} (hv : kdT C L s = 20 ∨ kdT C L s = 21 → v = lN (vlT C L (poT C L s))) : cEn (wI (wJ (wI (wI σ 28 s (nI (kdT C L s))) 29 s (nI (poT C L s))) 30 s v) 27 3 (nI (s + 1))) C L s := by
  refine ⟨?_, ?_, fun q => ?_⟩
  · rw [wI_n (by omega)]
    show (wI (wI σ 28 s (nI (kdT C L s))) 29 s (nI (poT C L s))).1 28 s = _
    rw [wI_n (by omega), wI_k, upd_k]
  · rw [wI_n (by omega)]
    show (wI (wI σ 28 s (nI (kdT C L s))) 29 s (nI (poT C L s))).1 29 s = _
    rw [wI_k, upd_k]
  · show (wJ (wI (wI σ 28 s (nI (kdT C L s))) 29 s (nI (poT C L s))) 30 s v).2.1 30 s = _
    rw [wJ_k, pk_uLs]; exact hv q
theorem TC.fj {S : Nat → Nat → Prop} {J : Nat → Prop} (h : TC σ L C) (hF : FJ S J σ τ) (hS : ∀ j, ¬ S 1 j) : TC τ L C := ⟨h.1, fun i hi => by rw [hF.1 1 i (hS i)]; exact h.2 i hi⟩
/-- the class's tokens, as far as one can come -/
def TKc (σ : Sg) (C : Nat → Nat) (L : Nat) : Prop := ∃ z, z ≤ 402 ∧ σ.1 27 3 = nI z ∧ ∀ j, j ≤ 400 → (∀ j', j' < j → kdT C L j' < 31) → j < z ∧ cEn σ C L j
theorem c_scan (h : TC σ L C) : ∃ τ, fX4_scan 27 1 (nI L) σ = some τ ∧ FJ ST (fun k => k = 30) σ τ ∧ TKc τ C L := by
  have hL := h.1
  have loop : ∀ (d i s : Nat) (τ : Sg), i ≤ L → L - i ≤ d → FJ ST (fun k => k = 30) σ τ → τ.1 27 3 = nI s → s ≤ 401 → skp C L i = poT C L s → (∀ j, j < s → kdT C L j < 31 ∧ cEn τ C L j) → ∃ υ z, lp (fun st : Int32 × Sg => bX4_scan_7 27 1 (nI L) st.1 st.2) (nI i, τ) = some υ ∧ FJ ST (fun k => k = 30) σ υ ∧ z ≤ 401 ∧ υ.1 27 3 = nI z ∧ (∀ j, j < z → cEn υ C L j) ∧ (((∀ j, j < z → kdT C L j < 31) ∧ (z = 401 ∨ poT C L z = L)) ∨ (1 ≤ z ∧ kdT C L (z - 1) = 32 ∧ ∀ j, j < z - 1 → kdT C L j < 31)) := by
    intro d
    induction d with
    | zero =>
      intro i s τ hi hd hF h3 hs hp he
      have : i = L := by omega
      subst this
      refine ⟨τ, s, lp_r ?_, hF, hs, h3, fun j hj => (he j hj).2, Or.inl ⟨fun j hj => (he j hj).1, Or.inr ?_⟩⟩
      · show bX4_scan_7 27 1 (nI i) (nI i) τ = _
        unfold bX4_scan_7
        rw [if_pos (Int32.le_refl _)]
      · rw [← hp, skp_L]
    | succ d ih =>
      intro i s τ hi hd hF h3 hs hp he
      by_cases qi : i = L
      · subst qi
        refine ⟨τ, s, lp_r ?_, hF, hs, h3, fun j hj => (he j hj).2, Or.inl ⟨fun j hj => (he j hj).1, Or.inr ?_⟩⟩
        · show bX4_scan_7 27 1 (nI i) (nI i) τ = _
          unfold bX4_scan_7
          rw [if_pos (Int32.le_refl _)]
        · rw [← hp, skp_L]
      · have hiL : i < L := by omega
        have hT : TC τ L C := h.fj hF (fun j q => by unfold ST at q; omega)
        by_cases qs : s = 401
        · subst qs
          refine ⟨τ, 401, lp_r ?_, hF, hs, h3, fun j hj => (he j hj).2, Or.inl ⟨fun j hj => (he j hj).1, Or.inl rfl⟩⟩
          show bX4_scan_7 27 1 (nI L) (nI i) τ = _
          unfold bX4_scan_7
          rw [if_neg (le_nI (by omega) (by omega) hiL), h3, if_pos (by decide)]
        · have un : bX4_scan_7 27 1 (nI L) (nI i) τ = ((fX4_isBlank (τ.1 1 i) τ).bind (fun q7 => if q7.1 = 0 then ((fX4_runEnd 1 (nI i) (nI L) q7.2).bind (fun q12 => (fX4_kindOf 1 (nI i) q12.1 q12.2).bind (fun q17 => (fX4_valueOf 1 (nI i) q12.1 q17.2).bind (fun q22 => (fX4_put 27 q17.1 (nI i) q22.1 q22.2).bind (fun σ24 => if vin ((σ24.1 27 3) - (1 : Int32)) 402 then (if (σ24.1 28 ((((σ24.1 27 3) - (1 : Int32))).toNatClampNeg)) = (32 : Int32) then (some (Sum.inl (nI L, σ24))) else (some (Sum.inl (q12.1, σ24)))) else none))))) else (some (Sum.inl (nI i + 1, q7.2))))) := by
            conv => lhs; unfold bX4_scan_7 jX4_scan_86
            rw [if_neg (le_nI (by omega) (by omega) hiL), h3, if_neg (Int32.not_lt.mpr (show nI s ≤ 400 from nI_le (b := 400) (by omega) (by omega)))]
            simp (disch := omega) only [vif, nI_clamp]
          rw [c_blank (hT.2 i hiL), Option.bind_some] at un
          dsimp only at un
          cases qb : blC (C i)
          · rw [qb, if_pos (show nI (b2n false) = 0 by decide)] at un
            have ep : i = poT C L s := by rw [← hp, skp_n hiL qb]
            have ek : kdC C L i = kdT C L s := by unfold kdT; rw [← ep, if_pos hiL]
            obtain ⟨g1, g2⟩ := enE_in (C := C) hiL
            obtain ⟨v, v1, v2, v3⟩ := c_valueOf hT hiL
            have hv : kdT C L s = 20 ∨ kdT C L s = 21 → v = lN (vlT C L (poT C L s)) := fun q => by
              rw [← ek] at q
              rw [← ep]
              unfold vlT
              rcases q with q | q
              · have := kd_let q
                rw [if_pos this]; exact v2 this
              · have := kd_int q
                rw [if_neg (by rw [this.1]; decide)]; exact v3 this.1 this.2.1
            rw [c_runEnd hT hiL, Option.bind_some] at un
            dsimp only at un
            rw [c_kindOf hT hiL, Option.bind_some] at un
            dsimp only at un
            rw [v1, Option.bind_some] at un
            dsimp only at un
            rw [c_putT (by omega) h3, Option.bind_some, ek] at un
            have ei : nI i = nI (poT C L s) := congrArg nI ep
            generalize hυ : wI (wJ (wI (wI τ 28 s (nI (kdT C L s))) 29 s (nI i)) 30 s v) 27 3 (nI (s + 1)) = υ at un
            have hF2 : FJ ST (fun k => k = 30) σ υ := by rw [← hυ]; exact hF.tr put_fj
            have en : ∀ j, j < s + 1 → cEn υ C L j := fun j hj => by
              rw [← hυ]
              by_cases z : j = s
              · rw [z, ei]; exact put_new hv
              · exact put_en (he j (by omega)).2 (by omega)
            have e3 : υ.1 27 3 = nI (s + 1) := by rw [← hυ, wI_k, upd_k]
            rw [e3, nI_p (by omega), show s + 1 - 1 = s by omega] at un
            simp (disch := omega) only [vif, nI_clamp] at un
            rw [(en s (by omega)).1] at un
            rcases kdC_le C L i with q | q
            · rw [if_neg (show ¬ nI (kdT C L s) = 32 from ne_nI (b := 32) (by omega) (by omega) (by omega))] at un
              obtain ⟨ω, z, o1, o2⟩ := ih (enE C L i) (s + 1) υ g2 (by omega) hF2 e3 (by omega) (by
                rw [show poT C L (s + 1) = if poT C L s < L then skp C L (enE C L (poT C L s)) else L from rfl, ← ep, if_pos hiL]) (fun j hj => by
                refine ⟨?_, en j hj⟩
                by_cases z : j = s
                · rw [z]; omega
                · exact (he j (by omega)).1)
              exact ⟨ω, z, (lp_l un).trans o1, o2⟩
            · rw [if_pos (show nI (kdT C L s) = 32 from by rw [← ek, q]; rfl)] at un
              refine ⟨υ, s + 1, (lp_l un).trans (lp_r ?_), hF2, by omega, e3, en, Or.inr ⟨by omega, by rw [show s + 1 - 1 = s by omega, ← ek, q], fun j hj => (he j (by omega)).1⟩⟩
              show bX4_scan_7 27 1 (nI L) (nI L) υ = _
              unfold bX4_scan_7
              rw [if_pos (Int32.le_refl _)]
          · rw [qb, if_neg (show ¬ nI (b2n true) = 0 by decide), nI_s] at un
            obtain ⟨ω, z, o1, o2⟩ := ih (i + 1) s τ (by omega) (by omega) hF h3 hs (by rw [skp_b hiL qb]; exact hp) he
            exact ⟨ω, z, (lp_l un).trans o1, o2⟩
  obtain ⟨υ, z, o1, o2, o3, o4, o5, o6⟩ := loop L 0 0 (wI σ 27 3 0) (by omega) (by omega) (FJ.rf.wI (by unfold ST; omega)) (by rw [wI_k, upd_k]; rfl) (by omega) rfl (fun j hj => by omega)
  have o1 : lp (fun st : Int32 × Sg => bX4_scan_7 27 1 (nI L) st.1 st.2) (0, wI σ 27 3 0) = some υ := o1
  have put : ((∀ j, j < z → kdT C L j < 31) ∧ (z = 401 ∨ poT C L z = L)) → ∃ τ, fX4_put 27 31 (nI L) 0 υ = some τ ∧ FJ ST (fun k => k = 30) σ τ ∧ TKc τ C L := by
    rintro ⟨a1, a2⟩
    refine ⟨_, c_putT (by omega) o4 _ _ _, o2.tr put_fj, z + 1, by omega, by rw [wI_k, upd_k], fun j hj hall => ?_⟩
    by_cases q : j < z
    · exact ⟨by omega, put_en (o5 j q) q⟩
    · by_cases q2 : j = z
      · subst q2
        have ep : poT C L j = L := by rcases a2 with y | y <;> omega
        have ek : kdT C L j = 31 := by unfold kdT; rw [if_neg (by omega)]
        refine ⟨by omega, ?_⟩
        have := put_new (σ := υ) (C := C) (L := L) (s := j) (v := 0) (fun y => by omega)
        rw [ek, ep] at this
        exact this
      · have := hall z (by omega)
        have ep : poT C L z = L := by rcases a2 with y | y <;> omega
        unfold kdT at this
        rw [if_neg (by omega)] at this
        omega
  unfold fX4_scan jX4_scan_113
  dsimp only
  rw [o1, Option.bind_some, o4]
  by_cases qz : z = 0
  · subst qz
    rw [if_pos (by decide)]
    rcases o6 with o6 | ⟨y, -⟩
    · obtain ⟨τ, t1, t2, t3⟩ := put o6
      exact ⟨τ, by rw [t1]; rfl, t2, t3⟩
    · omega
  · rw [if_neg (show ¬ nI z = 0 from ne_nI (b := 0) (by omega) (by omega) qz), nI_p (by omega)]
    simp (disch := omega) only [vif, nI_clamp]
    rw [(o5 (z - 1) (by omega)).1]
    rcases o6 with o6 | ⟨y1, y2, y3⟩
    · have := o6.1 (z - 1) (by omega)
      rw [if_neg (show ¬ nI (kdT C L (z - 1)) = 32 from ne_nI (b := 32) (by omega) (by omega) (by omega))]
      obtain ⟨τ, t1, t2, t3⟩ := put o6
      exact ⟨τ, by rw [t1]; rfl, t2, t3⟩
    · rw [if_pos (show nI (kdT C L (z - 1)) = 32 from by rw [y2]; rfl)]
      refine ⟨υ, rfl, o2, z, by omega, o4, fun j hj hall => ?_⟩
      by_cases q : j < z
      · exact ⟨q, o5 j q⟩
      · have := hall (z - 1) (by omega); omega
end SCAN
