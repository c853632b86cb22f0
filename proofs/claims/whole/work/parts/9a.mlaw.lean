def bsL : Br → Nat
  | [] => 0
  | (u, w, x) :: bs => u.length + w.length + x.length + bsL bs
def ifM (σ : Sg) (M : Nat) : Nat → Nat → Br → Prop
  | _, _, [] => True
  | b, s, (u, w, x) :: bs => brM σ M b s u w x ∧ ifM σ M (b + 1) (s + u.length + w.length + x.length) bs
section MLAW2
variable {M L p s b B0 S0 : Nat} {σ τ υ : Sg} {C : Nat → Nat}
theorem ifM.ag : ∀ {bs : Br} {b s : Nat}, ifM σ M b s bs → (∀ k j, M + 20 ≤ k → k ≤ M + 24 → b ≤ j → j < b + bs.length → τ.1 k j = σ.1 k j) → (∀ j, s ≤ j → j < s + bsL bs → τ.1 (M + 25) j = σ.1 (M + 25) j ∧ τ.1 (M + 26) j = σ.1 (M + 26) j) → ifM τ M b s bs
  | [], _, _, _, _, _ => trivial
  | (u, w, x) :: bs, b, s, h, h1, h2 => by
    have hl : ((u, w, x) :: bs).length = bs.length + 1 := rfl
    have hb : bsL ((u, w, x) :: bs) = u.length + w.length + x.length + bsL bs := rfl
    rw [hl] at h1
    rw [hb] at h2
    exact ⟨h.1.ag (fun k a1 a2 => h1 k b a1 a2 (by omega) (by omega)) (fun j a1 a2 => h2 j (by omega) (by omega)), ifM.ag h.2 (fun k j a1 a2 a3 a4 => h1 k j a1 a2 (by omega) (by omega)) (fun j a1 a2 => h2 j (by omega) (by omega))⟩
theorem m_ifs (p1 x2 : Int32) : ∀ (n i p s b : Nat) (τ : Sg), i + n = 4 → b ≤ B0 + 100 + i → ML τ M C L S0 B0 p s b → ∃ o τ', lp (fun st : Int32 × Sg => bX7_tellLaw_12 M p1 x2 st.1 st.2) (nI i, τ) = some o ∧ (match ifS (kdT C L) (vlV C L) n p with
    | .error (k, q) => (o = Sum.inl τ' ∨ o = Sum.inr τ') ∧ FL τ τ' M C L S0 s B0 b k q
    | .ok (q, bs) => o = Sum.inr τ' ∧ ML τ' M C L S0 B0 q (s + bsL bs) (b + bs.length) ∧ ifM τ' M b s bs ∧ Fs (SGl M S0 s B0 b) τ τ' ∧ bs.length ≤ n)
  | n, i, p, s, b, τ, hi, hb, h => by
    have is28 : fX7_is M 28 τ = some (if kdT C L p = 8 then 1 else 0, τ) := m_is h.1 (k := 8) (by omega)
    by_cases q8 : kdT C L p = 8
    · match n with
      | 0 =>
        obtain ⟨τ1, a1, a2, a3⟩ := m_fail h.1 (k := 2) (Or.inr rfl)
        have a1 : fX7_fail M 2 τ = some τ1 := a1
        refine ⟨Sum.inl τ1, τ1, lp_r ?_, ?_⟩
        · show bX7_tellLaw_12 M p1 x2 (nI i) τ = _
          unfold bX7_tellLaw_12 jX7_tellLaw_38
          rw [h.1.2.2.2.2, if_pos rfl, is28, if_pos q8, Option.bind_some]
          dsimp only
          rw [if_neg one0, if_pos (show nI i = 4 by rw [show i = 4 by omega]; rfl), a1, Option.bind_some, if_neg a3.n.2]
        · unfold ifS
          rw [if_pos q8]
          exact ⟨Or.inl rfl, a3, a2.mo (fun x j q => by unfold SGl SE; omega), b, Nat.le_refl _, by omega, (a2.1 _ _ (by omega)).trans h.2.2.2.2.2.1⟩
      | n + 1 =>
        obtain ⟨υ, a1, a2⟩ := m_br h q8 (by omega) p1 x2 (nI i)
        rw [nI_s] at a1
        have st : bX7_tellLaw_12 M p1 x2 (nI i) τ = some (Sum.inl (nI (i + 1), υ)) := by
          unfold bX7_tellLaw_12
          rw [h.1.2.2.2.2, if_pos rfl, is28, if_pos q8, Option.bind_some]
          dsimp only
          rw [if_neg one0, if_neg (show ¬ nI i = 4 from ne_nI (b := 4) (by omega) (by omega) (by omega)), a1]
        rw [show ifS (kdT C L) (vlV C L) (n + 1) p = if kdT C L p = 8 then (match brS (kdT C L) (vlV C L) p with
    | .error e => .error e
    | .ok (q, b) => match ifS (kdT C L) (vlV C L) n q with
      | .error e => .error e
      | .ok (q', bs) => .ok (q', b :: bs)) else .ok (p, []) from rfl, if_pos q8]
        cases hbr : brS (kdT C L) (vlV C L) p with
        | error e =>
          obtain ⟨k, q⟩ := e
          rw [hbr] at a2
          refine ⟨Sum.inr υ, υ, (lp_l st).trans (lp_r ?_), Or.inr rfl, a2⟩
          show bX7_tellLaw_12 M p1 x2 (nI (i + 1)) υ = _
          unfold bX7_tellLaw_12
          rw [if_neg a2.1.n.1]
        | ok e =>
          obtain ⟨q, u, w, x⟩ := e
          rw [hbr] at a2
          obtain ⟨b1, b2, b3⟩ := a2
          obtain ⟨o, ω, d1, d2⟩ := m_ifs p1 x2 n (i + 1) q (s + u.length + w.length + x.length) (b + 1) υ (by omega) (by omega) b1
          refine ⟨o, ω, (lp_l st).trans d1, ?_⟩
          dsimp only
          cases hc : ifS (kdT C L) (vlV C L) n q with
          | error e =>
            obtain ⟨k, y⟩ := e
            rw [hc] at d2
            obtain ⟨f1, f2, f3, bb, f4, f5, f6⟩ := d2
            exact ⟨f1, f2, b3.tr (f3.mo (fun x j q => SGl_mo (by omega) (by omega) q)), bb, by omega, f5, f6⟩
          | ok e =>
            obtain ⟨q', bs⟩ := e
            rw [hc] at d2
            obtain ⟨f1, f2, f3, f4, f5⟩ := d2
            refine ⟨f1, ?_, ⟨b2.ag (fun k a1 a2 => f4.1 _ _ (by unfold SGl SE; omega)) (fun j a1 a2 => ⟨f4.1 _ _ (by unfold SGl SE; omega), f4.1 _ _ (by unfold SGl SE; omega)⟩), f3⟩, b3.tr (f4.mo (fun x j q => SGl_mo (by omega) (by omega) q)), by show bs.length + 1 ≤ n + 1; omega⟩
            rw [show s + bsL ((u, w, x) :: bs) = s + u.length + w.length + x.length + bsL bs from by show s + (u.length + w.length + x.length + bsL bs) = _; omega, show b + ((u, w, x) :: bs).length = b + 1 + bs.length from by show b + (bs.length + 1) = _; omega]
            exact f2
    · refine ⟨Sum.inr τ, τ, lp_r ?_, ?_⟩
      · show bX7_tellLaw_12 M p1 x2 (nI i) τ = _
        unfold bX7_tellLaw_12
        rw [h.1.2.2.2.2, if_pos rfl, is28, if_neg q8, Option.bind_some]
        rfl
      · have e : ifS (kdT C L) (vlV C L) n p = .ok (p, []) := by
          cases n <;> (unfold ifS; rw [if_neg q8])
        rw [e]
        exact ⟨rfl, h, trivial, Fs.rf, Nat.zero_le _⟩
/-- the law from its = on -/
def lawT (K V : Nat → Nat) (p : Nat) : Except (Nat × Nat) (Nat × Br × Rp) := match tkS K 23 p with
    | .error e => .error e
    | .ok p2 => match ifS K V 4 p2 with
      | .error e => .error e
      | .ok (p3, bs) => match sumG K V 7 p3 with
        | .error e => .error e
        | .ok (p4, f) => match tkS K 22 p4 with
          | .error e => .error e
          | .ok p5 => .ok (p5, bs, f)
theorem lawS_T (K V : Nat → Nat) (k p : Nat) : lawS K V k p = match tkS K (3 + k) p with
  | .error e => .error e
  | .ok p1 => lawT K V p1 := rfl
/-- a law stands in the rows, and whatever is written behind leaves it -/
def lawK (σ : Sg) (M S0 B0 b : Nat) (bs : Br) (f : Rp) (last b' s' : Nat) : Prop := ∀ τ : Sg, (∀ k j, M + 20 ≤ k → k ≤ M + 24 → B0 ≤ j → j < b' → τ.1 k j = σ.1 k j) → (∀ j, S0 ≤ j → j < s' → τ.1 (M + 25) j = σ.1 (M + 25) j ∧ τ.1 (M + 26) j = σ.1 (M + 26) j) → lawM τ M b bs f last
theorem lawM_if {f : Rp} : ∀ {bs : Br} {b s : Nat}, ifM σ M b s bs → σ.1 (M + 20) (b + bs.length) = 0 → σ.1 (M + 23) (b + bs.length) = nI (s + bsL bs) → σ.1 (M + 24) (b + bs.length) = nI (s + bsL bs + f.length) → segM (σ.1 (M + 25)) (σ.1 (M + 26)) (s + bsL bs) f → s + bsL bs + f.length ≤ 840 → lawM σ M b bs f (b + bs.length + 1)
  | [], b, s, _, h1, h2, h3, h4, h5 => ⟨rfl, s, h1, h2, h3, h4, h5⟩
  | (u, w, x) :: bs, b, s, h, h1, h2, h3, h4, h5 => by
    have hl : b + ((u, w, x) :: bs).length = b + 1 + bs.length := by show b + (bs.length + 1) = _; omega
    have hb : s + bsL ((u, w, x) :: bs) = s + u.length + w.length + x.length + bsL bs := by show s + (u.length + w.length + x.length + bsL bs) = _; omega
    rw [hl] at h1 h2 h3 ⊢
    rw [hb] at h2 h3 h4 h5
    obtain ⟨a1, a2, a3, a4, a5, a6, a7, a8⟩ := h.1
    exact ⟨⟨s, a1, a2, a3, a4, a5, a6, a7, a8, by omega⟩, lawM_if h.2 h1 h2 h3 h4 h5⟩
theorem m_law (h : ML σ M C L S0 B0 p s b) (hb : b ≤ B0 + 100) {k side : Nat} (hk : k < 4) (hsd : side < 2) (h19 : σ.1 M 19 = nI side) : ∃ τ, fX7_tellLaw M (nI k) σ = some τ ∧ (match lawT (kdT C L) (vlV C L) p with
    | .error (e, q) => MF τ M C L e q ∧ Fs (SGl M S0 s B0 b) σ τ
    | .ok (q, bs, f) => ML τ M C L S0 B0 q (s + bsL bs + f.length) (b + bs.length + 1) ∧ τ.1 (M + 18) (4 * side + k) = nI b ∧ τ.1 (M + 19) (4 * side + k) = nI (b + bs.length + 1) ∧ lawK τ M s b b bs f (b + bs.length + 1) (b + bs.length + 1) (s + bsL bs + f.length) ∧ Fs (fun x j => SGl M S0 s B0 b x j ∨ (x = M + 18 ∨ x = M + 19) ∧ j = 4 * side + k) σ τ ∧ bs.length ≤ 4 ∧ p < q) := by
  have hB := h.2.2.2.2.2.2
  unfold fX7_tellLaw lawT
  obtain ⟨σ1, a1, a2, a3⟩ := h.mu (k := 23) (by omega)
  have a1 : fX7_must M 5 σ = some σ1 := a1
  rw [a1, Option.bind_some]
  dsimp only
  have F1 : Fs (SGl M S0 s B0 b) σ σ1 := a2.mo (fun x j q => by unfold SGl SE; omega)
  have e33 : σ1.1 M 33 = nI b := (a2.1 _ _ (by omega)).trans h.2.2.2.2.2.1
  -- the end, once a fault stands
  have tail : ∀ (σ2 : Sg) (e q : Nat) (x2 : Int32), FL σ σ2 M C L S0 s B0 b e q → ∃ τ, ((if vin (σ2.1 M 33) 260 then ((fX7_term M (wI σ2 (M + 20) (((σ2.1 M 33)).toNatClampNeg) (vp_nar .boolean (0 : Int32)))).bind (fun σ69 => (fX7_must M (4 : Int32) σ69).bind (fun σ74 => if (σ74.1 M 13) ≤ 0 then (if vin (((4 : Int32) * (σ74.1 M 19)) + nI k) 8 then (let σ80 := wI σ74 (M + 18) (((((4 : Int32) * (σ74.1 M 19)) + nI k)).toNatClampNeg) x2; if vin (((4 : Int32) * (σ80.1 M 19)) + nI k) 8 then (let σ83 := wI σ80 (M + 19) (((((4 : Int32) * (σ80.1 M 19)) + nI k)).toNatClampNeg) (σ80.1 M 33); some σ83) else none) else none) else (some σ74)))) else none) : Option Sg) = some τ ∧ MF τ M C L e q ∧ Fs (SGl M S0 s B0 b) σ τ := by
    rintro σ2 e q x2 ⟨f1, f2, b', f3, f4, f5⟩
    rw [f5]
    simp (disch := omega) only [vif, nI_clamp]
    have hF3 : Fs (fun x j => x = M + 20 ∧ j = b') σ2 (wI σ2 (M + 20) b' (vp_nar .boolean 0)) := Fs.rf.wI ⟨rfl, rfl⟩
    have g1 := f1.fs hF3 (fun j q z => by omega)
    obtain ⟨τ, t1, t2, t3⟩ := term_F g1 (b := b') (by rw [wI_n (by omega)]; exact f5) (by omega)
    have g2 := g1.fs t2 (fun j q z => by omega)
    rw [t1, Option.bind_some, must_F g2, Option.bind_some, if_neg g2.n.2]
    exact ⟨τ, rfl, g2, (f2.tr (hF3.mo (fun x j q => by unfold SGl; omega))).tr (t2.mo (fun x j q => by unfold SGl; omega))⟩
  cases q1 : tkS (kdT C L) 23 p with
  | error e =>
    obtain ⟨e, q⟩ := e
    rw [q1] at a3
    have : lp (fun st : Int32 × Sg => bX7_tellLaw_12 M (nI k) (σ1.1 M 33) st.1 st.2) (0, σ1) = some (Sum.inr σ1) := by
      refine lp_r ?_
      show bX7_tellLaw_12 M (nI k) (σ1.1 M 33) 0 σ1 = _
      unfold bX7_tellLaw_12
      rw [if_neg a3.n.1]
    rw [this, Option.bind_some]
    exact tail σ1 e q _ ⟨a3, F1, b, Nat.le_refl _, by omega, e33⟩
  | ok p2 =>
    rw [q1] at a3
    obtain ⟨e1, L1⟩ := a3
    dsimp only
    obtain ⟨o, σ2, c1, c2⟩ := m_ifs (nI k) (σ1.1 M 33) 4 0 p2 s b σ1 (by omega) (by omega) L1
    have c1 : lp (fun st : Int32 × Sg => bX7_tellLaw_12 M (nI k) (σ1.1 M 33) st.1 st.2) (0, σ1) = some o := c1
    rw [c1, Option.bind_some]
    cases q2 : ifS (kdT C L) (vlV C L) 4 p2 with
    | error e =>
      obtain ⟨e, q⟩ := e
      rw [q2] at c2
      obtain ⟨c3, d1, d2, b', d3⟩ := c2
      rcases c3 with rfl | rfl
      · exact ⟨σ2, rfl, d1, F1.tr d2⟩
      · exact tail σ2 e q _ ⟨d1, F1.tr d2, b', d3⟩
    | ok e =>
      obtain ⟨p3, bs⟩ := e
      rw [q2] at c2
      obtain ⟨rfl, L2, i2, F2, hbs⟩ := c2
      dsimp only
      have hl2 : p2 ≤ p3 := by
        have key : ∀ (n p : Nat) (bs : Br) (q : Nat), p ≤ 400 → ifS (kdT C L) (vlV C L) n p = .ok (q, bs) → p ≤ q := by
          intro n
          induction n with
          | zero =>
            intro p bs q hp hq
            unfold ifS at hq
            split at hq
            · cases hq
            · injection hq with hq
              injection hq with e1 e2
              omega
          | succ n ih =>
            intro p bs q hp hq
            rw [show ifS (kdT C L) (vlV C L) (n + 1) p = if kdT C L p = 8 then (match brS (kdT C L) (vlV C L) p with
    | .error e => .error e
    | .ok (q, b) => match ifS (kdT C L) (vlV C L) n q with
      | .error e => .error e
      | .ok (q', bs) => .ok (q', b :: bs)) else .ok (p, []) from rfl] at hq
            split at hq
            · cases hb : brS (kdT C L) (vlV C L) p with
              | error e => rw [hb] at hq; cases hq
              | ok e =>
                obtain ⟨q1, u, w, x⟩ := e
                rw [hb] at hq
                dsimp only at hq
                have hbr := brS_l hp hb
                cases hi : ifS (kdT C L) (vlV C L) n q1 with
                | error e => rw [hi] at hq; cases hq
                | ok e =>
                  obtain ⟨q2, bs2⟩ := e
                  rw [hi] at hq
                  injection hq with hq
                  injection hq with e1 e2
                  have := ih q1 bs2 q2 hbr.2 hi
                  omega
            · injection hq with hq
              injection hq with e1 e2
              omega
        exact key 4 p2 bs p3 L1.1.2.2.1 q2
      show ∃ τ, ((if vin (σ2.1 M 33) 260 then ((fX7_term M (wI σ2 (M + 20) (((σ2.1 M 33)).toNatClampNeg) (vp_nar .boolean (0 : Int32)))).bind (fun σ69 => (fX7_must M (4 : Int32) σ69).bind (fun σ74 => if (σ74.1 M 13) ≤ 0 then (if vin (((4 : Int32) * (σ74.1 M 19)) + nI k) 8 then (let σ80 := wI σ74 (M + 18) (((((4 : Int32) * (σ74.1 M 19)) + nI k)).toNatClampNeg) (σ1.1 M 33); if vin (((4 : Int32) * (σ80.1 M 19)) + nI k) 8 then (let σ83 := wI σ80 (M + 19) (((((4 : Int32) * (σ80.1 M 19)) + nI k)).toNatClampNeg) (σ80.1 M 33); some σ83) else none) else none) else (some σ74)))) else none) : Option Sg) = some τ ∧ _
      have e332 : σ2.1 M 33 = nI (b + bs.length) := L2.2.2.2.2.2.1
      rw [e332, e33]
      simp (disch := omega) only [vif, nI_clamp]
      generalize hbl : b + bs.length = bl
      rw [hbl] at L2 e332
      have hF3 : Fs (fun x j => x = M + 20 ∧ j = bl) σ2 (wI σ2 (M + 20) bl (vp_nar .boolean 0)) := Fs.rf.wI ⟨rfl, rfl⟩
      have L3 := L2.fs hF3 (fun k j q => by omega)
      have v20 : (wI σ2 (M + 20) bl (vp_nar .boolean 0)).1 (M + 20) bl = 0 := by rw [wI_k, upd_k]; rfl
      generalize wI σ2 (M + 20) bl (vp_nar .boolean 0) = σ3 at hF3 L3 v20
      unfold fX7_term jX7_term_24
      rw [L3.2.2.2.2.2.1, L3.2.2.1]
      simp (disch := omega) only [vif, nI_clamp]
      have hF4 : Fs (fun x j => x = M + 23 ∧ j = bl) σ3 (wI σ3 (M + 23) bl (nI (s + bsL bs))) := Fs.rf.wI ⟨rfl, rfl⟩
      have L4 := L3.fs hF4 (fun k j q => by omega)
      have v23 : (wI σ3 (M + 23) bl (nI (s + bsL bs))).1 (M + 23) bl = nI (s + bsL bs) := by rw [wI_k, upd_k]
      generalize wI σ3 (M + 23) bl (nI (s + bsL bs)) = σ4 at hF4 L4 v23
      rw [L4.1.2.2.2.2, if_pos rfl]
      obtain ⟨σ5, f1, f2, f3⟩ := L4.ex
      rw [f1, Option.bind_some]
      have f33 : σ5.1 M 33 = nI bl := (f2.1 _ _ (by unfold SE; omega)).trans L4.2.2.2.2.2.1
      rw [f33]
      simp (disch := omega) only [vif, nI_clamp]
      have hF6 : Fs (fun x j => x = M + 24 ∧ j = bl ∨ x = M ∧ j = 33) σ5 (wI (wI σ5 (M + 24) bl (σ5.1 M 39)) M 33 ((wI σ5 (M + 24) bl (σ5.1 M 39)).1 M 33 + 1)) := (Fs.rf.wI (by omega)).wI (by omega)
      have j33 : (wI (wI σ5 (M + 24) bl (σ5.1 M 39)) M 33 ((wI σ5 (M + 24) bl (σ5.1 M 39)).1 M 33 + 1)).1 M 33 = nI (bl + 1) := by rw [wI_k, upd_k, wI_n (by omega), f33, nI_s]
      have v24 : (wI (wI σ5 (M + 24) bl (σ5.1 M 39)) M 33 ((wI σ5 (M + 24) bl (σ5.1 M 39)).1 M 33 + 1)).1 (M + 24) bl = σ5.1 M 39 := by rw [wI_n (by omega), wI_k, upd_k]
      generalize wI (wI σ5 (M + 24) bl (σ5.1 M 39)) M 33 ((wI σ5 (M + 24) bl (σ5.1 M 39)).1 M 33 + 1) = σ6 at hF6 j33 v24
      rw [Option.bind_some]
      have F6 : Fs (SGl M S0 s B0 b) σ σ6 := ((((F1.tr F2).tr (hF3.mo (fun x j q => by unfold SGl; omega))).tr (hF4.mo (fun x j q => by unfold SGl; omega))).tr (f2.mo (fun x j q => Or.inl (SE_mo (by omega) q)))).tr (hF6.mo (fun x j q => by unfold SGl; omega))
      cases q3 : sumG (kdT C L) (vlV C L) 7 p3 with
      | error e =>
        obtain ⟨e, q⟩ := e
        rw [q3] at f3
        have g6 := f3.fs hF6 (fun j q z => by omega)
        rw [must_F g6, Option.bind_some, if_neg g6.n.2]
        exact ⟨σ6, rfl, g6, F6⟩
      | ok e =>
        obtain ⟨p4, f⟩ := e
        rw [q3] at f3
        obtain ⟨L5, sf⟩ := f3
        have g := sum7 (C := C) (L := L) L4.1.2.2.1
        rw [q3] at g
        obtain ⟨g1, g2, g3, -⟩ := g
        have L6 : ML σ6 M C L S0 B0 p4 (s + bsL bs + f.length) (bl + 1) := ⟨⟨L5.1.1.fs hF6 (fun k j a1 a2 => by omega), (hF6.1 _ _ (by omega)).trans L5.1.2.1, L5.1.2.2.1, L5.1.2.2.2.1, (hF6.1 _ _ (by omega)).trans L5.1.2.2.2.2⟩, (hF6.1 _ _ (by omega)).trans L5.2.1, (hF6.1 _ _ (by omega)).trans L5.2.2.1, L5.2.2.2.1, L5.2.2.2.2.1, j33, by omega, by omega, by omega⟩
        obtain ⟨σ7, k1, k2, k3⟩ := L6.mu (k := 22) (by omega)
        have k1 : fX7_must M 4 σ6 = some σ7 := k1
        rw [k1, Option.bind_some]
        have F7 := F6.tr (k2.mo (fun x j q => by unfold SGl SE; omega))
        dsimp only
        cases q4 : tkS (kdT C L) 22 p4 with
        | error e =>
          obtain ⟨e, q⟩ := e
          rw [q4] at k3
          rw [if_neg k3.n.2]
          exact ⟨σ7, rfl, k3, F7⟩
        | ok p5 =>
          rw [q4] at k3
          obtain ⟨e5, L7⟩ := k3
          have s19 : σ7.1 M 19 = nI side := (F7.1 _ _ (by unfold SGl SE; omega)).trans h19
          rw [L7.1.2.2.2.2, if_pos (by decide), s19, k4m, nI_add]
          simp (disch := omega) only [vif, nI_clamp]
          have x19 : (wI σ7 (M + 18) (4 * side + k) (nI b)).1 M 19 = nI side := by rw [wI_n (by omega), s19]
          have x33 : (wI σ7 (M + 18) (4 * side + k) (nI b)).1 M 33 = nI (bl + 1) := by rw [wI_n (by omega)]; exact L7.2.2.2.2.2.1
          rw [x19, x33, k4m, nI_add]
          simp (disch := omega) only [vif, nI_clamp]
          have hF8 : Fs (fun x j => (x = M + 18 ∨ x = M + 19) ∧ j = 4 * side + k) σ7 (wI (wI σ7 (M + 18) (4 * side + k) (nI b)) (M + 19) (4 * side + k) (nI (bl + 1))) := (Fs.rf.wI (by omega)).wI (by omega)
          have v18 : (wI (wI σ7 (M + 18) (4 * side + k) (nI b)) (M + 19) (4 * side + k) (nI (bl + 1))).1 (M + 18) (4 * side + k) = nI b := by rw [wI_n (by omega), wI_k, upd_k]
          have v19 : (wI (wI σ7 (M + 18) (4 * side + k) (nI b)) (M + 19) (4 * side + k) (nI (bl + 1))).1 (M + 19) (4 * side + k) = nI (bl + 1) := by rw [wI_k, upd_k]
          generalize wI (wI σ7 (M + 18) (4 * side + k) (nI b)) (M + 19) (4 * side + k) (nI (bl + 1)) = σ8 at hF8 v18 v19
          refine ⟨σ8, rfl, ?_, v18, ?_, ?_, (F7.mo (fun x j q => Or.inl q)).tr (hF8.mo (fun x j q => Or.inr q)), hbs, by omega⟩
          · rw [hbl]
            exact L7.fs hF8 (fun k j q => by omega)
          · rw [v19, hbl]
          · intro τ hτ1 hτ2
            have T7 : ∀ k j, M + 20 ≤ k → k ≤ M + 26 → (k ≤ M + 24 → b ≤ j ∧ j ≤ bl) → (M + 25 ≤ k → s ≤ j ∧ j < s + bsL bs + f.length) → τ.1 k j = σ6.1 k j := fun k j b1 b2 b3 b4 => by
              have e8 : τ.1 k j = σ8.1 k j := by
                by_cases z : k ≤ M + 24
                · exact hτ1 k j b1 z (b3 z).1 (by have := b3 z; omega)
                · rcases (show k = M + 25 ∨ k = M + 26 by omega) with rfl | rfl
                  · exact (hτ2 j (b4 (by omega)).1 (b4 (by omega)).2).1
                  · exact (hτ2 j (b4 (by omega)).1 (b4 (by omega)).2).2
              exact e8.trans ((hF8.1 _ _ (by omega)).trans (k2.1 _ _ (by omega)))
            have T5 : ∀ k j, M + 20 ≤ k → k ≤ M + 26 → ¬ (k = M + 24 ∧ j = bl) → (k ≤ M + 24 → b ≤ j ∧ j ≤ bl) → (M + 25 ≤ k → s ≤ j ∧ j < s + bsL bs + f.length) → τ.1 k j = σ5.1 k j := fun k j b1 b2 b0 b3 b4 => (T7 k j b1 b2 b3 b4).trans (hF6.1 _ _ (by omega))
            have T4 : ∀ k j, M + 20 ≤ k → k ≤ M + 26 → ¬ (k = M + 24 ∧ j = bl) → (k ≤ M + 24 → b ≤ j ∧ j ≤ bl) → (M + 25 ≤ k → s ≤ j ∧ j < s + bsL bs) → τ.1 k j = σ4.1 k j := fun k j b1 b2 b0 b3 b4 => (T5 k j b1 b2 b0 b3 (fun z => by have := b4 z; omega)).trans (f2.1 _ _ (fun z => by unfold SE at z; omega))
            have T3 : ∀ k j, M + 20 ≤ k → k ≤ M + 26 → ¬ ((k = M + 24 ∨ k = M + 23) ∧ j = bl) → (k ≤ M + 24 → b ≤ j ∧ j ≤ bl) → (M + 25 ≤ k → s ≤ j ∧ j < s + bsL bs) → τ.1 k j = σ3.1 k j := fun k j b1 b2 b0 b3 b4 => (T4 k j b1 b2 (by omega) b3 b4).trans (hF4.1 _ _ (by omega))
            have T2 : ∀ k j, M + 20 ≤ k → k ≤ M + 26 → (k ≤ M + 24 → b ≤ j ∧ j < bl) → (M + 25 ≤ k → s ≤ j ∧ j < s + bsL bs) → τ.1 k j = σ2.1 k j := fun k j b1 b2 b3 b4 => (T3 k j b1 b2 (by omega) (fun z => by have := b3 z; omega) b4).trans (hF3.1 _ _ (by omega))
            have r := lawM_if (σ := τ) (M := M) (f := f) (bs := bs) (b := b) (s := s) (i2.ag (fun k j b1 b2 b3 b4 => T2 k j b1 (by omega) (fun _ => by omega) (fun z => by omega)) (fun j b1 b2 => ⟨T2 _ _ (by omega) (by omega) (fun z => by omega) (fun _ => by omega), T2 _ _ (by omega) (by omega) (fun z => by omega) (fun _ => by omega)⟩)) (by rw [hbl, T3 _ _ (by omega) (by omega) (by omega) (fun _ => by omega) (fun z => by omega)]; exact v20) (by rw [hbl, T4 _ _ (by omega) (by omega) (by omega) (fun _ => by omega) (fun z => by omega)]; exact v23) (by rw [hbl, T7 _ _ (by omega) (by omega) (fun _ => by omega) (fun z => by omega), v24]; exact L5.2.2.1) (segM_c sf (fun j b1 b2 => ⟨T5 _ _ (by omega) (by omega) (by omega) (fun z => by omega) (fun _ => by omega), T5 _ _ (by omega) (by omega) (by omega) (fun z => by omega) (fun _ => by omega)⟩)) (by have := L5.2.2.2.1; have := L5.2.2.2.2.1; omega)
            exact r
end MLAW2
