section CEXPR2
variable {t L p s g D0 : Nat} {σ τ υ : Sg} {C : Nat → Nat}
theorem RX.pre {r : Int32} {o : Ex} (hF : Fs (SB t) σ τ) (h : RX τ υ t C L s r o) (h8 : ∀ j, j < s → τ.1 (t + 8) j = σ.1 (t + 8) j) (h3 : τ.1 26 3 = σ.1 26 3) : RX σ υ t C L s r o := by
  obtain ⟨h1, h2⟩ := h
  refine ⟨hF.tr h1, ?_⟩
  cases o with
  | error e => exact h2
  | ok e => exact ⟨h2.1, h2.2.1, h2.2.2.1, fun j hj => (h2.2.2.2.1 j hj).trans (h8 j hj), h2.2.2.2.2.trans h3⟩
/-- a step and its token -/
theorem c_step (ht : t = 2 ∨ t = 14) (h : CS σ t C L p s) {k x kk : Nat} (hk : k < 16) (hx : x ≤ 9999) (hkk : kdT C L p = kk) (hk31 : kk < 31) : ∃ r τ, ((fX0_put (t + 7) (nI k) (nI x) σ).bind (fun q54 => (fX1_take 26 (nI kk) q54.2).bind (fun q59 => some (q59.1, q59.2)))) = some (r, τ) ∧ RX σ τ t C L s r (if p < 400 then .ok (p + 1, [(k, x)]) else .error (2, p)) := by
  have hp := h.2.2.2.1
  have hs := h.2.2.2.2.2.2
  by_cases q : s < 408
  · obtain ⟨τ1, a1, a2, a3, a4, a5, a6⟩ := c_put0 ht h hk hx q
    rw [a1, Option.bind_some]
    dsimp only
    by_cases q2 : p < 400
    · have h1 : CS τ1 t C L p (s + 1) ∨ s = p + 8 := by
        by_cases z : s = p + 8
        · exact Or.inr z
        · exact Or.inl (h.mv a2 (fun k j b1 b2 z => by unfold SB at z; omega) ((a6 1).trans h.2.1) hp h.2.2.2.2.1 a5 (by omega))
      -- the token is taken whatever the steps
      have tk : fX1_take 26 (nI kk) τ1 = some (1, wI τ1 26 1 (nI (p + 1))) := by
        have hT : TKc τ1 C L := h.1.fs a2 (fun k j b1 b2 z => by unfold SB at z; omega)
        obtain ⟨z, z1, z2, z3⟩ := hT
        obtain ⟨w1, w2⟩ := z3 p hp h.2.2.2.2.1
        unfold fX1_take fX1_kindHere
        rw [show 26 + 1 = 27 from rfl, z2, a6 1, h.2.1, if_neg (le_nI (by omega) (by omega) w1)]
        simp (disch := omega) only [vif, nI_clamp]
        rw [Option.bind_some]
        dsimp only
        rw [show 27 + 1 = 28 from rfl, w2.1, if_pos (by rw [hkk]), a6 1, h.2.1, if_pos (Int32.not_le.mp (show ¬ (400 : Int32) ≤ nI p from le_nI (a := 400) (by omega) (by omega) q2)), nI_s]
      have fF : Fs (SB t) σ (wI τ1 26 1 (nI (p + 1))) := a2.wI (by unfold SB; omega)
      rw [tk, Option.bind_some, if_pos q2]
      refine ⟨1, _, rfl, fF, rfl, h.mv fF (fun k j b1 b2 z => by unfold SB at z; omega) (by rw [wI_k, upd_k]) (by omega) (fun j hj => ?_) (by rw [wI_n (by omega)]; exact a5) (by show s + 1 ≤ p + 1 + 8; omega), ⟨?_, trivial⟩, fun j hj => ?_, ?_⟩
      · by_cases z : j = p
        · rw [z, hkk]; exact hk31
        · exact h.2.2.2.2.1 j (by omega)
      · rw [wI_n (by omega)]; exact a3
      · rw [wI_n (by omega)]; exact a4 j (by omega)
      · rw [wI_k, upd_n (by omega)]; exact a6 3
    · rw [if_neg q2]
      have hp4 : p = 400 := by omega
      have tk : ∃ τ, fX1_take 26 (nI kk) τ1 = some (0, τ) ∧ Fs (SB t) τ1 τ ∧ τ.1 26 3 = nI 2 ∧ τ.1 26 4 = nI (poT C L p) := by
        have hT : TKc τ1 C L := h.1.fs a2 (fun k j b1 b2 z => by unfold SB at z; omega)
        obtain ⟨z, z1, z2, z3⟩ := hT
        obtain ⟨w1, w2⟩ := z3 p hp h.2.2.2.2.1
        have x1 : (wI τ1 26 3 2).1 27 3 = nI z := by rw [wI_n (by omega), z2]
        have x2 : (wI τ1 26 3 2).1 26 1 = nI p := by rw [wI_k, upd_n (by omega), a6 1, h.2.1]
        have x3 : (wI τ1 26 3 2).1 29 p = nI (poT C L p) := by rw [wI_n (by omega), w2.2.1]
        refine ⟨wI (wI τ1 26 3 2) 26 4 (nI (poT C L p)), ?_, (Fs.rf.wI (by unfold SB; omega)).wI (by unfold SB; omega), by rw [wI_k, upd_n (by omega), wI_k, upd_k]; rfl, by rw [wI_k, upd_k]⟩
        unfold fX1_take fX1_kindHere fX1_stop
        rw [show 26 + 1 = 27 from rfl, z2, a6 1, h.2.1, if_neg (le_nI (by omega) (by omega) w1)]
        simp (disch := omega) only [vif, nI_clamp]
        rw [Option.bind_some]
        dsimp only
        rw [show 27 + 1 = 28 from rfl, w2.1, if_pos (by rw [hkk]), a6 1, h.2.1, if_neg (Int32.not_lt.mpr (show (400 : Int32) ≤ nI p from nI_le (a := 400) (by omega) (by omega))), x1, x2, if_neg (le_nI (by omega) (by omega) w1)]
        simp (disch := omega) only [vif, nI_clamp]
        rw [show 27 + 2 = 29 from rfl, x3]; rfl
      obtain ⟨τ, t1, t2, t3, t4⟩ := tk
      rw [t1, Option.bind_some]
      exact ⟨0, τ, rfl, a2.tr t2, rfl, t3, t4⟩
  · have hp4 : p = 400 := by omega
    rw [c_putF h _ _ q (by omega), Option.bind_some]
    dsimp only
    obtain ⟨r, τ, t1, t2, t3⟩ := c_take ht h hk31
    rw [t1, Option.bind_some, if_neg (by omega)]
    rcases t3 with ⟨-, y, -⟩ | ⟨rfl, e, y, t4, t5⟩
    · omega
    · have : e = 2 := by
        rcases y with ⟨-, -, y⟩ | ⟨y, -⟩
        · exact y
        · exact absurd hkk y
      subst this
      exact ⟨0, τ, rfl, t2, rfl, t4, t5⟩
theorem vl_10 {C : Nat → Nat} {i : Nat} : ∀ k, (∀ j, j < k → C (i + j) ≤ 57) → vlN 10 48 C i k < 10 ^ k
  | 0, _ => by show 0 < 1; omega
  | k + 1, h => by
    have h1 := vl_10 k (fun j hj => h j (by omega))
    have h2 := h k (by omega)
    show 10 * vlN 10 48 C i k + (C (i + k) - 48) < 10 ^ (k + 1)
    rw [Nat.pow_succ]
    omega
theorem vlV_le {p : Nat} (h : kdT C L p = 21) : vlV C L p ≤ 9999 := by
  unfold kdT at h
  by_cases q : poT C L p < L
  · rw [if_pos q] at h
    obtain ⟨h1, h2, h3⟩ := kd_int h
    have hr := rnE_in dgC C (L - (poT C L p + 1)) (poT C L p + 1)
    have ee : enE C L (poT C L p) = rnE dgC C (L - (poT C L p + 1)) (poT C L p + 1) := by unfold enE; rw [h1, h2]; rfl
    rw [← ee] at hr
    unfold vlV vlT
    rw [if_neg (by rw [h1]; decide)]
    have := vl_10 (C := C) (i := poT C L p) (min (enE C L (poT C L p) - poT C L p) 8) (fun j hj => by
      by_cases z : j = 0
      · subst z
        exact (of_decide_eq_true h2 : 48 ≤ C (poT C L p) ∧ C (poT C L p) ≤ 57).2
      · exact (of_decide_eq_true (hr.2.2 (poT C L p + j) (by omega) (by omega)) : 48 ≤ C (poT C L p + j) ∧ C (poT C L p + j) ≤ 57).2)
    have h4 : 10 ^ (min (enE C L (poT C L p) - poT C L p) 8) ≤ 10 ^ 4 := Nat.pow_le_pow_right (by omega) (by omega)
    have h5 : 10 ^ 4 = 10000 := by decide
    omega
  · rw [if_neg q] at h; omega
theorem c_unit (ht : t = 2 ∨ t = 14) {rs : Nat → Int32 → Sg → Option (Int32 × Sg)} {S : Nat → Ex} (hg : g ≤ 6) (hrs : 0 < g → ∀ σ p s, CS σ t C L p s → ∃ r τ, rs 26 (nI (7 - g)) σ = some (r, τ) ∧ RX σ τ t C L s r (S p)) (h : CS σ t C L p s) : ∃ r τ, fX1_readUnitB rs 26 (nI (6 - g)) σ = some (r, τ) ∧ RX σ τ t C L s r (unS (kdT C L) (vlV C L) S g p) := by
  have hp := h.2.2.2.1
  have hs := h.2.2.2.2.2.2
  have hkl := kd_lt C L p
  have stp : ∀ e : Nat, ∃ r τ, ((fX1_stop 26 (nI e) σ).bind (fun q25 => some (q25.1, q25.2))) = some (r, τ) ∧ RX σ τ t C L s r (.error (e, p)) := fun e => by
    rw [c_stop h, Option.bind_some]
    exact ⟨0, _, rfl, (Fs.rf.wI (by unfold SB; omega)).wI (by unfold SB; omega), rfl, by rw [wI_k, upd_n (by omega), wI_k, upd_k], by rw [wI_k, upd_k]⟩
  unfold fX1_readUnitB unS
  rw [c_kind h, Option.bind_some]
  dsimp only
  by_cases q1 : kdT C L p = 21
  · obtain ⟨v, v1, v2⟩ := c_value h
    have vl := vlV_le q1
    rw [if_pos (show nI (kdT C L p) = 21 by rw [q1]; rfl), if_pos q1, v1, Option.bind_some]
    dsimp only
    rw [h.2.2.1, v2 (Or.inr q1), show (lN (vlV C L p)).toInt32 = nI (vlV C L p) from lN_i _]
    obtain ⟨r, τ, r1, r2⟩ := c_step ht h (k := 0) (x := vlV C L p) (by omega) vl q1 (by omega)
    rw [q1]
    exact ⟨r, τ, r1, r2⟩
  · rw [if_neg (show ¬ nI (kdT C L p) = 21 from ne_nI (b := 21) (by omega) (by omega) q1), if_neg q1]
    have j68 : (¬ (11 ≤ kdT C L p ∧ kdT C L p ≤ 19)) → ∃ r τ, jX1_readUnitB_68 rs 26 (nI (6 - g)) (nI (kdT C L p)) σ = some (r, τ) ∧ RX σ τ t C L s r (if kdT C L p = 29 then (if g = 0 then .error (2, p) else if p < 400 then (match S (p + 1) with
    | .error e => .error e
    | .ok (q, c) => if kdT C L q = 30 then (if q < 400 then .ok (q + 1, c) else .error (2, q)) else .error (1, q)) else .error (2, p)) else .error (1, p)) := by
      intro _
      unfold jX1_readUnitB_68
      by_cases q3 : kdT C L p = 29
      · rw [if_pos (show nI (kdT C L p) = 29 by rw [q3]; rfl), if_pos q3]
        by_cases q4 : g = 0
        · rw [if_neg (Int32.not_lt.mpr (show (6 : Int32) ≤ nI (6 - g) from nI_le (a := 6) (by omega) (by omega))), if_pos q4]
          exact stp 2
        · rw [if_pos (Int32.not_le.mp (show ¬ (6 : Int32) ≤ nI (6 - g) from le_nI (a := 6) (by omega) (by omega) (by omega))), if_neg q4]
          obtain ⟨r, τ, t1, t2, t3⟩ := c_take ht h (k := 29) (by omega)
          have t1 : fX1_take 26 29 σ = some (r, τ) := t1
          rw [t1, Option.bind_some]
          dsimp only
          rcases t3 with ⟨-, t4, rfl, t5, t6⟩ | ⟨rfl, e, y, t4, t5⟩
          · rw [if_neg one0, if_pos t4, nI_s, show 6 - g + 1 = 7 - g by omega]
            obtain ⟨r2, τ2, u1, u2⟩ := hrs (by omega) τ (p + 1) s t6
            have pre := RX.pre t2 u2 (fun j hj => by rw [t5, wI_n (by omega)]) (by rw [t5, wI_k, upd_n (by omega)])
            rw [u1, Option.bind_some]
            dsimp only
            cases hq : S (p + 1) with
            | error e =>
              rw [hq] at pre
              obtain ⟨p1, p2, p3⟩ := pre
              rw [p2, if_pos rfl]
              exact ⟨0, τ2, rfl, p1, rfl, p3⟩
            | ok e =>
              obtain ⟨x, c⟩ := e
              rw [hq] at pre
              obtain ⟨p1, p2, p3, p4, p5, p6⟩ := pre
              rw [p2, if_neg one0]
              obtain ⟨r3, τ3, w1, w2, w3⟩ := c_take ht p3 (k := 30) (by omega)
              have w1 : fX1_take 26 30 τ2 = some (r3, τ3) := w1
              rw [w1, Option.bind_some]
              dsimp only
              rcases w3 with ⟨y1, y2, rfl, y4, y5⟩ | ⟨rfl, e, y, w4, w5⟩
              · rw [if_neg one0, if_pos y1, if_pos y2]
                refine ⟨1, τ3, rfl, p1.tr w2, rfl, y5, ?_, fun j hj => ?_, ?_⟩
                · rw [y4]; exact segC_c p4 (fun j a1 a2 => by rw [wI_n (by omega)])
                · rw [y4, wI_n (by omega)]; exact p5 j hj
                · rw [y4, wI_k, upd_n (by omega)]; exact p6
              · rw [if_pos rfl]
                rcases y with ⟨y1, y2, rfl⟩ | ⟨y1, rfl⟩
                · rw [if_pos y1, if_neg y2]
                  exact ⟨0, τ3, rfl, p1.tr w2, rfl, w4, w5⟩
                · rw [if_neg y1]
                  exact ⟨0, τ3, rfl, p1.tr w2, rfl, w4, w5⟩
          · rw [if_pos rfl]
            rcases y with ⟨-, y2, rfl⟩ | ⟨y1, -⟩
            · rw [if_neg y2]
              exact ⟨0, τ, rfl, t2, rfl, t4, t5⟩
            · exact absurd q3 y1
      · rw [if_neg (show ¬ nI (kdT C L p) = 29 from ne_nI (b := 29) (by omega) (by omega) q3), if_neg q3]
        exact stp 1
    by_cases q2 : 11 ≤ kdT C L p ∧ kdT C L p ≤ 19
    · rw [if_neg (Int32.not_lt.mpr (show (11 : Int32) ≤ nI (kdT C L p) from nI_le (a := 11) (by omega) (by omega))), if_neg (Int32.not_lt.mpr (show nI (kdT C L p) ≤ 19 from nI_le (b := 19) (by omega) (by omega))), if_pos q2, h.2.2.1, show nI (kdT C L p) - 11 = nI (kdT C L p - 11) from pk_sub (b := 11) (by omega)]
      exact c_step ht h (k := 1) (x := kdT C L p - 11) (by omega) (by omega) rfl (by omega)
    · rw [if_neg q2]
      by_cases q3 : kdT C L p < 11
      · rw [if_pos (Int32.not_le.mp (show ¬ (11 : Int32) ≤ nI (kdT C L p) from le_nI (a := 11) (by omega) (by omega) q3))]
        exact j68 q2
      · rw [if_neg (Int32.not_lt.mpr (show (11 : Int32) ≤ nI (kdT C L p) from nI_le (a := 11) (by omega) (by omega))), if_pos (Int32.not_le.mp (show ¬ nI (kdT C L p) ≤ 19 from le_nI (b := 19) (by omega) (by omega) (by omega)))]
        exact j68 q2
end CEXPR2
