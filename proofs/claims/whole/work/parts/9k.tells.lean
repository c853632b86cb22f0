/-! all that is told, one tell behind the other -/
def tellsS (K V : Nat → Nat) : Nat → TS → Nat → Except (Nat × Nat) TS
  | 0, X, _ => .ok X
  | d + 1, X, p => if K p = 31 then .ok X else match tellS K V X p with
    | .error e => .error e
    | .ok (q, Y) => tellsS K V d Y q
theorem mapT_ok {r : Except (Nat × Nat) Nat} {Y Z : TS} {q : Nat} (h : mapT r Y = .ok (q, Z)) : r = .ok q ∧ Z = Y := by
  cases r with
  | error e => cases h
  | ok x =>
    injection h with h
    injection h with h1 h2
    exact ⟨by rw [h1], h2.symm⟩
theorem tksS_l (K : Nat → Nat) : ∀ (l : List Nat) (p q : Nat), tksS K l p = .ok q → q = p + l.length
  | [], p, q, h => by injection h with h; exact h.symm
  | k :: r, p, q, h => by
    have h : (match tkS K k p with
      | .error e => .error e
      | .ok q => tksS K r q : Except (Nat × Nat) Nat) = .ok q := h
    cases hq : tkS K k p with
    | error e => rw [hq] at h; cases h
    | ok p1 =>
      rw [hq] at h
      have h1 := tksS_l K r p1 q h
      have h2 := tkS_l hq
      show q = p + (r.length + 1)
      omega
theorem nt_none {la : Option (Nat × Nat)} {c : Bool} {k q : Nat} (h : nt la c k q = none) : la = none ∧ c = false := by
  cases la with
  | some x => cases h
  | none =>
    cases c
    · exact ⟨rfl, rfl⟩
    · cases h
section WX
variable {L p q : Nat} {C : Nat → Nat} {X Y : TS}
theorem brS_w {u w x : Rp} (hp : p ≤ 400) (h : brS (kdT C L) (vlV C L) p = .ok (q, u, w, x)) : rwf 20 u 0 1 ∧ rwf 20 w 0 1 ∧ rwf 20 x 0 1 := by
  unfold brS at h
  cases q1 : tkS (kdT C L) 8 p with
  | error e => rw [q1] at h; cases h
  | ok p1 =>
    rw [q1] at h
    dsimp only at h
    have t1 := tkS_l q1
    have g1 := sum7 (C := C) (L := L) (p := p1) (by omega)
    cases q2 : sumG (kdT C L) (vlV C L) 7 p1 with
    | error e => rw [q2] at h; cases h
    | ok e =>
      obtain ⟨p2, u1⟩ := e
      rw [q2] at h g1
      dsimp only at h
      obtain ⟨g11, g12, g13, g14, g15⟩ := g1
      cases q3 : tkS (kdT C L) 28 p2 with
      | error e => rw [q3] at h; cases h
      | ok p3 =>
        rw [q3] at h
        dsimp only at h
        have t3 := tkS_l q3
        have g3 := sum7 (C := C) (L := L) (p := p3) (by omega)
        cases q4 : sumG (kdT C L) (vlV C L) 7 p3 with
        | error e => rw [q4] at h; cases h
        | ok e =>
          obtain ⟨p4, w1⟩ := e
          rw [q4] at h g3
          dsimp only at h
          obtain ⟨g31, g32, g33, g34, g35⟩ := g3
          cases q5 : tkS (kdT C L) 9 p4 with
          | error e => rw [q5] at h; cases h
          | ok p5 =>
            rw [q5] at h
            dsimp only at h
            have t5 := tkS_l q5
            have g5 := sum7 (C := C) (L := L) (p := p5) (by omega)
            cases q6 : sumG (kdT C L) (vlV C L) 7 p5 with
            | error e => rw [q6] at h; cases h
            | ok e =>
              obtain ⟨p6, x1⟩ := e
              rw [q6] at h g5
              dsimp only at h
              obtain ⟨g51, g52, g53, g54, g55⟩ := g5
              cases q7 : tkS (kdT C L) 10 p6 with
              | error e => rw [q7] at h; cases h
              | ok p7 =>
                rw [q7] at h
                injection h with h
                injection h with e1 e2
                injection e2 with e3 e4
                injection e4 with e5 e6
                subst e3 e5 e6
                exact ⟨g15 20 0 (by omega), g35 20 0 (by omega), g55 20 0 (by omega)⟩
theorem ifS_w : ∀ (n p : Nat) (bs : Br) (q : Nat), p ≤ 400 → ifS (kdT C L) (vlV C L) n p = .ok (q, bs) → ∀ f, rwf 20 f 0 1 → lawW bs f := by
  intro n
  induction n with
  | zero =>
    intro p bs q hp hq f hf
    unfold ifS at hq
    split at hq
    · cases hq
    · injection hq with hq
      injection hq with e1 e2
      subst e2
      exact hf
  | succ n ih =>
    intro p bs q hp hq f hf
    rw [show ifS (kdT C L) (vlV C L) (n + 1) p = if kdT C L p = 8 then (match brS (kdT C L) (vlV C L) p with
    | .error e => .error e
    | .ok (q, b) => match ifS (kdT C L) (vlV C L) n q with
      | .error e => .error e
      | .ok (q', bs) => .ok (q', b :: bs)) else .ok (p, []) from rfl] at hq
    split at hq
    · cases hb : brS (kdT C L) (vlV C L) p with
      | error e => rw [hb] at hq; cases hq
      | ok e =>
        obtain ⟨q1, u, w, x⟩ := e
        rw [hb] at hq
        dsimp only at hq
        have hbr := brS_l hp hb
        have hbw := brS_w hp hb
        cases hi : ifS (kdT C L) (vlV C L) n q1 with
        | error e => rw [hi] at hq; cases hq
        | ok e =>
          obtain ⟨q2, bs2⟩ := e
          rw [hi] at hq
          injection hq with hq
          injection hq with e1 e2
          subst e2
          exact ⟨hbw.1, hbw.2.1, hbw.2.2, ih q1 bs2 q2 hbr.2 hi f hf⟩
    · injection hq with hq
      injection hq with e1 e2
      subst e2
      exact hf
theorem lawT_w {bs : Br} {f : Rp} (hp : p ≤ 400) (h : lawT (kdT C L) (vlV C L) p = .ok (q, bs, f)) : lawW bs f := by
  unfold lawT at h
  cases q1 : tkS (kdT C L) 23 p with
  | error e => rw [q1] at h; cases h
  | ok p2 =>
    rw [q1] at h
    dsimp only at h
    have t1 := tkS_l q1
    cases q2 : ifS (kdT C L) (vlV C L) 4 p2 with
    | error e => rw [q2] at h; cases h
    | ok e =>
      obtain ⟨p3, bs'⟩ := e
      rw [q2] at h
      dsimp only at h
      have t2 := ifS_4 4 p2 bs' p3 (by omega) q2
      have g := sum7 (C := C) (L := L) (p := p3) t2.2
      cases q3 : sumG (kdT C L) (vlV C L) 7 p3 with
      | error e => rw [q3] at h; cases h
      | ok e =>
        obtain ⟨p4, f'⟩ := e
        rw [q3] at h g
        dsimp only at h
        obtain ⟨g1, g2, g3, g4, g5⟩ := g
        cases q4 : tkS (kdT C L) 22 p4 with
        | error e => rw [q4] at h; cases h
        | ok p5 =>
          rw [q4] at h
          injection h with h
          injection h with e1 e2
          injection e2 with e3 e4
          subst e3 e4
          exact ifS_w 4 p2 bs' p3 (by omega) q2 _ (g5 20 0 (by omega))
theorem lawS_w {bs : Br} {f : Rp} {k : Nat} (h : lawS (kdT C L) (vlV C L) k p = .ok (q, bs, f)) : lawW bs f ∧ p < q := by
  rw [lawS_T] at h
  cases q1 : tkS (kdT C L) (3 + k) p with
  | error e => rw [q1] at h; cases h
  | ok p1 =>
    rw [q1] at h
    have t1 := tkS_l q1
    have h : lawT (kdT C L) (vlV C L) p1 = .ok (q, bs, f) := h
    have := lawT_4 (by omega) h
    exact ⟨lawT_w (by omega) h, by omega⟩
/-- what a text is that was told so far -/
def WX (X : TS) : Prop := X.n ≤ 8 ∧ X.m ≤ 6 ∧ (∀ h, X.bo h = true → h < X.n) ∧ (∀ k, k < 4 → lawW (X.lb k) (X.lf k)) ∧ (X.la = none → (∀ h, h < X.n → X.co h ≤ 23) ∧ ∀ e, e < X.m → (∃ b, b < X.n ∧ X.dr e = nI b) ∧ ∃ b, b < X.n ∧ X.bx e = nI b)
theorem wx_tell (h : WX X) (ht : tellS (kdT C L) (vlV C L) X p = .ok (q, Y)) : WX Y ∧ p < q := by
  obtain ⟨h1, h2, h3, h4, h5⟩ := h
  unfold tellS at ht
  by_cases k0 : kdT C L p = 0
  · rw [if_pos k0] at ht
    by_cases z : X.n = 8
    · rw [if_pos z] at ht; cases ht
    · rw [if_neg z] at ht
      obtain ⟨a1, rfl⟩ := mapT_ok ht
      have a2 := tksS_l _ _ _ _ a1
      refine ⟨⟨by show X.n + 1 ≤ 8; omega, h2, fun w hw => Nat.lt_succ_of_lt (h3 w hw), h4, fun hn => ?_⟩, by rw [a2]; show p < p + 6; omega⟩
      obtain ⟨n1, c1⟩ := nt_none hn
      obtain ⟨n2, c2⟩ := nt_none n1
      obtain ⟨n3, c3⟩ := nt_none n2
      obtain ⟨n4, c4⟩ := nt_none n3
      obtain ⟨g1, g2⟩ := h5 n4
      refine ⟨fun w hw => ?_, fun e he => ?_⟩
      · have hw : w < X.n + 1 := hw
        show uN X.co X.n (vlV C L (p + 3)) w ≤ 23
        unfold uN
        have := of_decide_eq_false c2
        by_cases y : w = X.n
        · rw [if_pos y]; omega
        · rw [if_neg y]; exact g1 w (by omega)
      · obtain ⟨⟨b, b1, b2⟩, b', b3, b4⟩ := g2 e he
        exact ⟨⟨b, Nat.lt_succ_of_lt b1, b2⟩, b', Nat.lt_succ_of_lt b3, b4⟩
  · rw [if_neg k0] at ht
    by_cases k1 : kdT C L p = 1
    · rw [if_pos k1] at ht
      by_cases z : X.m = 6
      · rw [if_pos z] at ht; cases ht
      · rw [if_neg z] at ht
        obtain ⟨a1, rfl⟩ := mapT_ok ht
        have a2 := tksS_l _ _ _ _ a1
        refine ⟨⟨h1, by show X.m + 1 ≤ 6; omega, h3, h4, fun hn => ?_⟩, by rw [a2]; show p < p + 4; omega⟩
        obtain ⟨n1, c1⟩ := nt_none hn
        obtain ⟨n2, c2⟩ := nt_none n1
        obtain ⟨g1, g2⟩ := h5 n2
        refine ⟨g1, fun e he => ?_⟩
        have he : e < X.m + 1 := he
        show (∃ b, b < X.n ∧ upd X.dr X.m (hoI X.nm X.n (vlV C L (p + 1))) e = nI b) ∧ ∃ b, b < X.n ∧ upd X.bx X.m (hoI X.nm X.n (vlV C L (p + 2))) e = nI b
        by_cases y : e = X.m
        · rw [y, upd_k, upd_k]
          refine ⟨?_, ?_⟩
          · rcases hoI_f X.nm X.n (vlV C L (p + 1)) h1 with ⟨w1, w2⟩ | ⟨w, w1, w2, w3⟩
            · exact absurd w1 (of_decide_eq_false c2)
            · exact ⟨w, w1, w3⟩
          · rcases hoI_f X.nm X.n (vlV C L (p + 2)) h1 with ⟨w1, w2⟩ | ⟨w, w1, w2, w3⟩
            · exact absurd w1 (of_decide_eq_false c1)
            · exact ⟨w, w1, w3⟩
        · rw [upd_n y, upd_n y]; exact g2 e (by omega)
    · rw [if_neg k1] at ht
      by_cases k2 : kdT C L p = 2
      · rw [if_pos k2] at ht
        obtain ⟨a1, rfl⟩ := mapT_ok ht
        have a2 := tksS_l _ _ _ _ a1
        refine ⟨⟨h1, h2, fun w hw => ?_, h4, fun hn => ?_⟩, by rw [a2]; show p < p + 3; omega⟩
        · have hw : (if hoI X.nm X.n (vlV C L (p + 1)) = -1 then X.bo else fset X.bo (hoI X.nm X.n (vlV C L (p + 1))).toNatClampNeg true) w = true := hw
          show w < X.n
          rcases hoI_f X.nm X.n (vlV C L (p + 1)) h1 with ⟨w1, w2⟩ | ⟨v, w1, w2, w3⟩
          · rw [if_pos w1] at hw; exact h3 w hw
          · by_cases y : hoI X.nm X.n (vlV C L (p + 1)) = -1
            · rw [if_pos y] at hw; exact h3 w hw
            · rw [if_neg y, w3, nI_clamp (by omega)] at hw
              unfold fset at hw
              by_cases z : w = v
              · rw [z]; exact w1
              · rw [if_neg z] at hw; exact h3 w hw
        · obtain ⟨n1, c1⟩ := nt_none hn
          obtain ⟨n2, c2⟩ := nt_none n1
          exact h5 n2
      · rw [if_neg k2] at ht
        by_cases k3 : 3 ≤ kdT C L p ∧ kdT C L p ≤ 6
        · rw [if_pos k3] at ht
          cases q1 : lawS (kdT C L) (vlV C L) (kdT C L p - 3) p with
          | error e => rw [q1] at ht; cases ht
          | ok e =>
            obtain ⟨q', bs, f⟩ := e
            rw [q1] at ht
            injection ht with ht
            injection ht with e1 e2
            subst e1 e2
            obtain ⟨w1, w2⟩ := lawS_w q1
            refine ⟨⟨h1, h2, h3, fun j hj => ?_, h5⟩, w2⟩
            show lawW (if j = kdT C L p - 3 then bs else X.lb j) (if j = kdT C L p - 3 then f else X.lf j)
            by_cases y : j = kdT C L p - 3
            · rw [if_pos y, if_pos y]; exact w1
            · rw [if_neg y, if_neg y]; exact h4 j hj
        · rw [if_neg k3] at ht
          by_cases k7 : kdT C L p = 7
          · rw [if_pos k7] at ht
            obtain ⟨a1, rfl⟩ := mapT_ok ht
            have a2 := tksS_l _ _ _ _ a1
            exact ⟨⟨h1, h2, h3, h4, h5⟩, by rw [a2]; show p < p + 3; omega⟩
          · rw [if_neg k7] at ht; cases ht
theorem tellsS_s (K V : Nat → Nat) (d : Nat) (X : TS) (p : Nat) : tellsS K V (d + 1) X p = if K p = 31 then .ok X else match tellS K V X p with
    | .error e => .error e
    | .ok (q, Y) => tellsS K V d Y q := rfl
theorem wx_tells : ∀ (d : Nat) (X : TS) (p : Nat), WX X → ∀ Y, tellsS (kdT C L) (vlV C L) d X p = .ok Y → WX Y
  | 0, X, p, h, Y, ht => by injection ht with ht; rw [← ht]; exact h
  | d + 1, X, p, h, Y, ht => by
    rw [tellsS_s] at ht
    by_cases k : kdT C L p = 31
    · rw [if_pos k] at ht; injection ht with ht; rw [← ht]; exact h
    · rw [if_neg k] at ht
      cases q1 : tellS (kdT C L) (vlV C L) X p with
      | error e => rw [q1] at ht; cases ht
      | ok e =>
        obtain ⟨q, Z⟩ := e
        rw [q1] at ht
        exact wx_tells d Z q (wx_tell h q1).1 Y ht
end WX
section LOOPS
variable {M t L side : Nat} {C : Nat → Nat}
theorem c_tells (ht : t = 2 ∨ t = 14) (a1 : Nat) (p2 : Int32) (a3 : Nat) : ∀ (d i : Nat) (X : TS) (p s : Nat) (σ : Sg), CTX σ t C L X p s → WX X → i ≤ p → 401 ≤ p + d → ∃ τ, lp (fun st : Int32 × Int32 × Sg => bX1_readText_52 26 a1 p2 a3 st.1 st.2.1 st.2.2) (1, nI i, σ) = some τ ∧ FJ (SBt t) (fun k => k = t + 1) σ τ ∧ (match tellsS (kdT C L) (vlV C L) d X p with
    | .error (e, q) => τ.1 26 3 = nI e ∧ τ.1 26 4 = nI (poT C L q)
    | .ok Y => ∃ p s, CTX τ t C L Y p s) := by
  have st0 : ∀ (x : Int32) (σ : Sg), lp (fun st : Int32 × Int32 × Sg => bX1_readText_52 26 a1 p2 a3 st.1 st.2.1 st.2.2) (0, x, σ) = some σ := fun x σ => by
    refine lp_r ?_
    show bX1_readText_52 26 a1 p2 a3 0 x σ = _
    unfold bX1_readText_52
    split
    · rfl
    · rw [if_pos rfl]
  intro d
  induction d with
  | zero =>
    intro i X p s σ h hw hi hd
    have := h.1.2.2.2.1
    omega
  | succ d ih =>
    intro i X p s σ h hw hi hd
    have hp := h.1.2.2.2.1
    have hkl := kd_lt C L p
    rw [tellsS_s]
    by_cases k : kdT C L p = 31
    · rw [if_pos k]
      refine ⟨σ, ?_, FJ.rf, p, s, h⟩
      refine (lp_l (a' := (0, nI (i + 1), σ)) ?_).trans (st0 _ _)
      show bX1_readText_52 26 a1 p2 a3 1 (nI i) σ = _
      unfold bX1_readText_52 jX1_readText_85 jX1_readText_86
      rw [if_neg (Int32.not_lt.mpr (show nI i ≤ 400 from nI_le (b := 400) (by omega) (by omega))), if_neg one0, c_kind h.1, Option.bind_some]
      dsimp only
      rw [if_pos (show nI (kdT C L p) = 31 by rw [k]; rfl), nI_s]
    · rw [if_neg k]
      obtain ⟨r, τ, b1, b2, b3⟩ := c_tell ht h
      have body : bX1_readText_52 26 a1 p2 a3 1 (nI i) σ = if r = 0 then some (Sum.inl (0, nI (i + 1), τ)) else some (Sum.inl (1, nI (i + 1), τ)) := by
        unfold bX1_readText_52 jX1_readText_85 jX1_readText_86
        rw [if_neg (Int32.not_lt.mpr (show nI i ≤ 400 from nI_le (b := 400) (by omega) (by omega))), if_neg one0, c_kind h.1, Option.bind_some]
        dsimp only
        rw [if_neg (show ¬ nI (kdT C L p) = 31 from ne_nI (b := 31) (by omega) (by omega) k), b1, Option.bind_some]
        dsimp only
        rw [nI_s]
      cases q1 : tellS (kdT C L) (vlV C L) X p with
      | error e =>
        obtain ⟨e, q⟩ := e
        rw [q1] at b3
        refine ⟨τ, ?_, b2, b3.2⟩
        refine (lp_l (a' := (0, nI (i + 1), τ)) ?_).trans (st0 _ _)
        show bX1_readText_52 26 a1 p2 a3 1 (nI i) σ = _
        rw [body, b3.1, if_pos rfl]
      | ok e =>
        obtain ⟨q, Y⟩ := e
        rw [q1] at b3
        obtain ⟨b4, s', b5⟩ := b3
        obtain ⟨w1, w2⟩ := wx_tell hw q1
        obtain ⟨υ, c1, c2, c3⟩ := ih (i + 1) Y q s' τ b5 w1 (by omega) (by omega)
        refine ⟨υ, ?_, b2.tr c2, c3⟩
        refine (lp_l (a' := (1, nI (i + 1), τ)) ?_).trans c1
        show bX1_readText_52 26 a1 p2 a3 1 (nI i) σ = _
        rw [body, b4, if_neg one0]
theorem m_tells (hL : L ≤ 2000) : ∀ (d : Nat) (X : TS) (p s b : Nat) (σ : Sg), MTX σ M C L side X p s b → WX X → 401 ≤ p + d → ∃ τ, lp (bX7_read_112 M) σ = some τ ∧ FJ (SMt M side) (fun k => k = M + 8) σ τ ∧ (match tellsS (kdT C L) (vlV C L) d X p with
    | .error (e, q) => MF τ M C L e q
    | .ok Y => ∃ p s b, MTX τ M C L side Y p s b) := by
  intro d
  induction d with
  | zero =>
    intro X p s b σ h hw hd
    have := h.1.1.2.2.1
    omega
  | succ d ih =>
    intro X p s b σ h hw hd
    have hp := h.1.1.2.2.1
    rw [tellsS_s]
    have is0 : fX7_is M 0 σ = some (if kdT C L p = 31 then 1 else 0, σ) := m_is h.1.1 (k := 31) (by omega)
    by_cases k : kdT C L p = 31
    · rw [if_pos k]
      refine ⟨σ, lp_r ?_, FJ.rf, p, s, b, h⟩
      unfold bX7_read_112
      rw [h.1.1.2.2.2.2, if_pos rfl, is0, if_pos k, Option.bind_some]
      rfl
    · rw [if_neg k]
      obtain ⟨τ, b1, b2, b3⟩ := m_tell hL h k
      have body : bX7_read_112 M σ = some (Sum.inl τ) := by
        unfold bX7_read_112
        rw [h.1.1.2.2.2.2, if_pos rfl, is0, if_neg k, Option.bind_some]
        dsimp only
        rw [if_pos rfl, b1]
        rfl
      cases q1 : tellS (kdT C L) (vlV C L) X p with
      | error e =>
        obtain ⟨e, q⟩ := e
        rw [q1] at b3
        refine ⟨τ, (lp_l body).trans (lp_r ?_), b2, b3⟩
        unfold bX7_read_112
        rw [if_neg b3.n.1]
      | ok e =>
        obtain ⟨q, Y⟩ := e
        rw [q1] at b3
        obtain ⟨s', b', b5⟩ := b3
        obtain ⟨w1, w2⟩ := wx_tell hw q1
        obtain ⟨υ, c1, c2, c3⟩ := ih Y q s' b' τ b5 w1 (by omega)
        exact ⟨υ, (lp_l body).trans c1, b2.tr c2, c3⟩
end LOOPS
