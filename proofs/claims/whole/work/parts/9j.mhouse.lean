/-! a house told, by the model -/
def anN (nm : Nat → Nat) (v : Nat) : Nat → Bool
  | 0 => false
  | i + 1 => anN nm v i || decide (nm i = v)
theorem anN_s (nm : Nat → Nat) (v : Nat) : ∀ n, (anN nm v n = true ↔ ∃ h, h < n ∧ nm h = v)
  | 0 => ⟨(fun z => absurd (show false = true from z) (by decide)), (fun ⟨h, a, _⟩ => absurd a (Nat.not_lt_zero _))⟩
  | n + 1 => by
    have ih := anN_s nm v n
    rw [show anN nm v (n + 1) = (anN nm v n || decide (nm n = v)) from rfl, Bool.or_eq_true, ih, decide_eq_true_iff]
    constructor
    · rintro (⟨h, a, e⟩ | e)
      · exact ⟨h, by omega, e⟩
      · exact ⟨n, by omega, e⟩
    · rintro ⟨h, a, e⟩
      by_cases z : h = n
      · exact Or.inr (z ▸ e)
      · exact Or.inl ⟨h, by omega, e⟩
theorem anN_h (nm : Nat → Nat) (v n : Nat) (hn : n ≤ 8) : anN nm v n = decide (¬ hoI nm n v = -1) := by
  have h1 := anN_s nm v n
  rcases hoI_f nm n v hn with ⟨w1, w2⟩ | ⟨w, w1, w2, w3⟩
  · rw [decide_eq_false (fun z => z w1)]
    cases hb : anN nm v n
    · rfl
    · obtain ⟨h, a, e⟩ := h1.mp hb
      exact absurd e (w2 h a)
  · have hne : ¬ hoI nm n v = -1 := by
      rw [w3]
      intro y
      have : (0 : Int32) ≤ nI w := nI_n1 (by omega)
      rw [y] at this
      exact absurd this (by decide)
    rw [decide_eq_true hne]
    exact h1.mpr ⟨w, w1, w2⟩
theorem nt_nt (la : Option (Nat × Nat)) (c d : Bool) (k q : Nat) : nt (nt la c k q) d k q = nt la (c || d) k q := by
  cases la with
  | some x => rfl
  | none => cases c <;> cases d <;> rfl
section MHOUSE
variable {M L p s b side : Nat} {σ τ υ : Sg} {C : Nat → Nat} {X Y : TS} {la : Option (Nat × Nat)}
/-- a name told before -/
theorem m_dup (hL : L ≤ 2000) {p1 S0 B0 n : Nat} {nm : Nat → Nat} (x1 : Int32) (h : ML σ M C L S0 B0 (p1 + 1) s b) (hl : LAm σ M C L p1 la) (hn : n ≤ 8) (h20 : σ.1 M 20 = nI n) (hN : ∀ h, h < n → σ.2.1 (M + 8) h = lN (nm h) ∧ nm h < 2 ^ 63) (hk : kdT C L p1 = 20) : ∃ τ, lp (fun st : Int32 × Sg => bX7_tellHouse_30 M x1 (nI p1) st.1 st.2) (0, σ) = some τ ∧ Fs (fun k j => k = M ∧ (j = 15 ∨ j = 16)) σ τ ∧ LAm τ M C L (p1 + 1) (nt la (decide (¬ hoI nm n (vlV C L p1) = -1)) 3 p1) := by
  have hp := h.1.2.2.1
  have e6 : σ.2.1 (M + 6) p1 = lN (vlV C L p1) := (h.1.1 p1 (by omega) (fun j hj => h.1.2.2.2.1 j (by omega))).2.2.2 hk
  have key := wp_for (f := fun st : Int32 × Sg => bX7_tellHouse_30 M x1 (nI p1) st.1 st.2) (P := fun τ => Fs (fun k j => k = M ∧ (j = 15 ∨ j = 16)) σ τ ∧ LAm τ M C L (p1 + 1) (nt la (anN nm (vlV C L p1) n) 3 p1)) n (by omega) (fun i τ => Fs (fun k j => k = M ∧ (j = 15 ∨ j = 16)) σ τ ∧ LAm τ M C L (p1 + 1) (nt la (anN nm (vlV C L p1) i) 3 p1)) (fun i τ hi hI => by
    obtain ⟨hF, hA⟩ := hI
    have g := h.n15 hF (fun k j q => Or.inl q)
    show wp (bX7_tellHouse_30 M x1 (nI p1) (nI i) τ) _
    unfold bX7_tellHouse_30 jX7_tellHouse_67
    rw [(hF.1 M 20 (by omega)).trans h20, if_neg (le_nI (by omega) (by omega) hi), g.1.2.2.2.2, if_pos rfl]
    simp (disch := omega) only [vif, nI_clamp]
    rw [hF.2, (hN i hi).1, e6, nI_s]
    by_cases z : nm i = vlV C L p1
    · rw [if_pos ((lg0 _ _).mpr (by rw [z]))]
      obtain ⟨τ2, a1, a2, a3⟩ := m_wrong hL g.1 hA (k := 3) (x := p1) (p' := p1 + 1) (by omega) (by omega) (by omega) (fun k' q' e => by
        cases la with
        | some x =>
          obtain ⟨k0, q0⟩ := x
          have e : some (k0, q0) = some (k', q') := e
          injection e with e
          injection e with e1 e2
          subst e1 e2
          exact Or.inl hl.2.2.2.2
        | none =>
          have e : (if anN nm (vlV C L p1) i = true then some (3, p1) else none) = some (k', q') := e
          split at e
          · injection e with e
            injection e with e1 e2
            subst e1 e2
            exact Or.inr ⟨rfl, Nat.le_refl _⟩
          · cases e)
      have a1 : fX7_wrong M 3 (nI p1) τ = some τ2 := a1
      rw [a1, Option.bind_some]
      refine ⟨_, rfl, τ2, rfl, hF.tr a2, ?_⟩
      rw [nt_nt] at a3
      rw [show anN nm (vlV C L p1) (i + 1) = (anN nm (vlV C L p1) i || decide (nm i = vlV C L p1)) from rfl, decide_eq_true z]
      exact a3
    · rw [if_neg (fun y => z ((lN_ij (hN i hi).2 (vlV_63 hk)).mp ((lg0 _ _).mp y)))]
      refine ⟨_, rfl, τ, rfl, hF, ?_⟩
      rw [show anN nm (vlV C L p1) (i + 1) = (anN nm (vlV C L p1) i || decide (nm i = vlV C L p1)) from rfl, decide_eq_false z, Bool.or_false]
      exact hA) (fun τ hI => by
    show wp (bX7_tellHouse_30 M x1 (nI p1) (nI n) τ) _
    unfold bX7_tellHouse_30
    rw [(hI.1.1 M 20 (by omega)).trans h20, if_pos (Int32.le_refl _)]
    exact ⟨_, rfl, τ, rfl, hI⟩) (i := 0) (s := σ) (by omega) ⟨Fs.rf, by
      show LAm σ M C L (p1 + 1) (nt la false 3 p1)
      rw [nt_f]; exact hl.up (by omega)⟩
  rw [anN_h nm _ n hn] at key
  exact key
/-- the rest of a house's tell, step by step -/
noncomputable def tH4 (M : Nat) (x2 : Int32) (σ43 : Sg) : Option Sg := (fX7_must M (4 : Int32) σ43).bind (fun σ45 => if (σ45.1 M 13) ≤ 0 then (if vin x2 403 then (if vin (σ45.1 M 20) 8 then (let σ53 := wJ σ45 (M + 8) (((σ45.1 M 20)).toNatClampNeg) (σ45.2.1 (M + 6) ((x2).toNatClampNeg)); (let σ54 := wI σ53 M 20 ((σ53.1 M 20) + (1 : Int32)); if vin (σ54.1 M 19) 2 then ((let σ57 := wI σ54 (M + 9) (((σ54.1 M 19)).toNatClampNeg) ((σ54.1 (M + 9) (((σ54.1 M 19)).toNatClampNeg)) + (1 : Int32)); some σ57)) else none)) else none) else none) else (some σ45))
noncomputable def tH3 (M : Nat) (x1 x2 : Int32) (σ36 : Sg) : Option Sg := (fX7_bounded M (0 : Int32) (9 : Int32) σ36).bind (fun q => tH4 M x2 (wI q.2 (M + 12) x1.toNatClampNeg q.1))
noncomputable def tH2 (M : Nat) (x1 x2 : Int32) (σ29 : Sg) : Option Sg := (fX7_bounded M (0 : Int32) (23 : Int32) σ29).bind (fun q => tH3 M x1 x2 (wI q.2 (M + 11) x1.toNatClampNeg q.1))
noncomputable def tH1 (M : Nat) (x1 x2 : Int32) (σ21 : Sg) : Option Sg := (fX7_bounded M (0 : Int32) (23 : Int32) σ21).bind (fun q => if vin x1 16 then tH2 M x1 x2 (wI q.2 (M + 10) x1.toNatClampNeg q.1) else none)
theorem tH_e (M : Nat) (σ : Sg) : fX7_tellHouse M σ = if vin (σ.1 M 19) 2 then (fX7_must M (1 : Int32) σ).bind (fun σ6 => (lp (fun st => bX7_tellHouse_30 M (((8 : Int32) * (σ.1 M 19)) + (σ.1 (M + 9) (((σ.1 M 19)).toNatClampNeg))) (σ.1 M 11) st.1 st.2) ((0 : Int32), σ6)).bind (fun σ21 => tH1 M (((8 : Int32) * (σ.1 M 19)) + (σ.1 (M + 9) (((σ.1 M 19)).toNatClampNeg))) (σ.1 M 11) σ21)) else none := rfl
theorem tH4_F {e q : Nat} (h : MF τ M C L e q) (x2 : Int32) : tH4 M x2 τ = some τ := by
  unfold tH4
  rw [must_F h, Option.bind_some, if_neg h.n.2]
theorem SMtH {k j : Nat} {c : Nat} (hc : c = M + 10 ∨ c = M + 11 ∨ c = M + 12) (h : k = c ∧ j = 8 * side + X.n) (hn : X.n < 8) : SMt M side k j := Or.inr (Or.inr (Or.inr (Or.inl ⟨by omega, by omega, by omega⟩)))
theorem tH3_F {e q : Nat} (h : MF τ M C L e q) (hF : FJ (SMt M side) (fun k => k = M + 8) σ τ) (hn : X.n < 8) (hs : side < 2) (x2 : Int32) : ∃ υ, tH3 M (nI (8 * side + X.n)) x2 τ = some υ ∧ FJ (SMt M side) (fun k => k = M + 8) σ υ ∧ MF υ M C L e q := by
  unfold tH3
  rw [bound_F h, Option.bind_some, nI_clamp (by omega)]
  dsimp only
  have hF2 : Fs (fun x j => x = M + 12 ∧ j = 8 * side + X.n) τ (wI τ (M + 12) (8 * side + X.n) 0) := Fs.rf.wI ⟨rfl, rfl⟩
  have g := h.fs hF2 (fun j y z => by omega)
  exact ⟨_, tH4_F g x2, hF.tr (hF2.mo (fun x j q => SMtH (by omega) q hn)).fj, g⟩
theorem tH2_F {e q : Nat} (h : MF τ M C L e q) (hF : FJ (SMt M side) (fun k => k = M + 8) σ τ) (hn : X.n < 8) (hs : side < 2) (x2 : Int32) : ∃ υ, tH2 M (nI (8 * side + X.n)) x2 τ = some υ ∧ FJ (SMt M side) (fun k => k = M + 8) σ υ ∧ MF υ M C L e q := by
  unfold tH2
  rw [bound_F h, Option.bind_some, nI_clamp (by omega)]
  dsimp only
  have hF2 : Fs (fun x j => x = M + 11 ∧ j = 8 * side + X.n) τ (wI τ (M + 11) (8 * side + X.n) 0) := Fs.rf.wI ⟨rfl, rfl⟩
  have g := h.fs hF2 (fun j y z => by omega)
  exact tH3_F g (hF.tr (hF2.mo (fun x j q => SMtH (by omega) q hn)).fj) hn hs x2
theorem tH1_F {e q : Nat} (h : MF τ M C L e q) (hF : FJ (SMt M side) (fun k => k = M + 8) σ τ) (hn : X.n < 8) (hs : side < 2) (x2 : Int32) : ∃ υ, tH1 M (nI (8 * side + X.n)) x2 τ = some υ ∧ FJ (SMt M side) (fun k => k = M + 8) σ υ ∧ MF υ M C L e q := by
  unfold tH1
  rw [bound_F h, Option.bind_some]
  simp (disch := omega) only [vif, nI_clamp]
  have hF2 : Fs (fun x j => x = M + 10 ∧ j = 8 * side + X.n) τ (wI τ (M + 10) (8 * side + X.n) 0) := Fs.rf.wI ⟨rfl, rfl⟩
  have g := h.fs hF2 (fun j y z => by omega)
  exact tH2_F g (hF.tr (hF2.mo (fun x j q => SMtH (by omega) q hn)).fj) hn hs x2
/-- the house is taken -/
theorem m_h4 {la : Option (Nat × Nat)} (hla : la = (hoX (vlV C L) X p).la) (hn : X.n < 8) (hk : kdT C L (p + 1) = 20) (h1 : ML τ M C L (420 * side) (130 * side) (p + 5) s b) (h2 : LAm τ M C L (p + 5) la) (h3 : 4 * b ≤ 4 * (130 * side) + p ∧ 420 * side ≤ s) (h4 : MTY τ M side X s b) (hF : FJ (SMt M side) (fun k => k = M + 8) σ τ) (v10 : τ.1 (M + 10) (8 * side + X.n) = nI (vlV C L (p + 2))) (v11 : τ.1 (M + 11) (8 * side + X.n) = nI (vlV C L (p + 3))) (v12 : τ.1 (M + 12) (8 * side + X.n) = nI (vlV C L (p + 4))) : ∃ υ, tH4 M (nI (p + 1)) τ = some υ ∧ MR1 σ υ M C L side (mapT (tksS (kdT C L) [22] (p + 5)) (hoX (vlV C L) X p)) := by
  have hs2 := h4.1.2
  have hp := h1.1.2.2.1
  unfold tH4
  obtain ⟨τ1, a1, a2, a3⟩ := h1.mu (k := 22) (by omega)
  have a1 : fX7_must M 4 τ = some τ1 := a1
  have f1 := hF.tr (fj_M (M := M) (side := side) a2 (fun k j q => by omega))
  rw [a1, Option.bind_some]
  cases q1 : tkS (kdT C L) 22 (p + 5) with
  | error e =>
    obtain ⟨e, q⟩ := e
    rw [q1] at a3
    rw [if_neg a3.n.2]
    exact ⟨τ1, rfl, m_errT a3 f1 q1⟩
  | ok p6 =>
    rw [q1] at a3
    obtain ⟨e6, L1⟩ := a3
    have Y1 := h4.fs a2 (fun x j q => by omega)
    have A1 := h2.fs a2 (fun j y z => by omega)
    have w6 : τ1.2.1 (M + 6) (p + 1) = lN (vlV C L (p + 1)) := (L1.1.1 (p + 1) (by omega) (fun j hj => L1.1.2.2.2.1 j (by omega))).2.2.2 hk
    rw [L1.1.2.2.2.2, if_pos (by decide), Y1.2.1.2.1]
    simp (disch := omega) only [vif, nI_clamp]
    rw [show (wJ τ1 (M + 8) X.n (τ1.2.1 (M + 6) (p + 1))).1 M 20 = nI X.n from Y1.2.1.2.1, nI_s, w6]
    have w19 : (wI (wJ τ1 (M + 8) X.n (lN (vlV C L (p + 1)))) M 20 (nI (X.n + 1))).1 M 19 = nI side := by rw [wI_a, if_neg (by omega)]; exact Y1.1.1
    have w9 : (wI (wJ τ1 (M + 8) X.n (lN (vlV C L (p + 1)))) M 20 (nI (X.n + 1))).1 (M + 9) side = nI X.n := by rw [wI_a, if_neg (by omega)]; exact Y1.2.1.1
    rw [w19]
    simp (disch := omega) only [vif, nI_clamp]
    rw [w9, nI_s]
    refine ⟨_, rfl, m_okT (l := []) ?_ q1⟩
    have fw : FJ (SMt M side) (fun k => k = M + 8) σ (wI (wI (wJ τ1 (M + 8) X.n (lN (vlV C L (p + 1)))) M 20 (nI (X.n + 1))) (M + 9) side (nI (X.n + 1))) := ((f1.wJ rfl).wI (SMt0 (by omega))).wI (Or.inr (Or.inr (Or.inl ⟨by omega, rfl⟩)))
    have e1 : ∀ k j, ¬ (k = M ∧ j = 20 ∨ k = M + 9 ∧ j = side) → (wI (wI (wJ τ1 (M + 8) X.n (lN (vlV C L (p + 1)))) M 20 (nI (X.n + 1))) (M + 9) side (nI (X.n + 1))).1 k j = τ1.1 k j := fun k j hk => by
      rw [wI_a, if_neg (fun z => hk (Or.inr z)), wI_a, if_neg (fun z => hk (Or.inl z))]; rfl
    have e20 : (wI (wI (wJ τ1 (M + 8) X.n (lN (vlV C L (p + 1)))) M 20 (nI (X.n + 1))) (M + 9) side (nI (X.n + 1))).1 M 20 = nI (X.n + 1) := by rw [wI_a, if_neg (by omega), wI_a, if_pos ⟨rfl, rfl⟩]
    have e9 : (wI (wI (wJ τ1 (M + 8) X.n (lN (vlV C L (p + 1)))) M 20 (nI (X.n + 1))) (M + 9) side (nI (X.n + 1))).1 (M + 9) side = nI (X.n + 1) := by rw [wI_a, if_pos ⟨rfl, rfl⟩]
    have j8 : ∀ x, (wI (wI (wJ τ1 (M + 8) X.n (lN (vlV C L (p + 1)))) M 20 (nI (X.n + 1))) (M + 9) side (nI (X.n + 1))).2.1 (M + 8) x = if x = X.n then lN (vlV C L (p + 1)) else τ1.2.1 (M + 8) x := fun x => by
      show (wJ τ1 (M + 8) X.n (lN (vlV C L (p + 1)))).2.1 (M + 8) x = _
      rw [wJ_k]
      by_cases z : x = X.n
      · rw [if_pos z, z, pk_uLs]
      · rw [if_neg z, pk_uLn z]
    have j6 : ∀ x, (wI (wI (wJ τ1 (M + 8) X.n (lN (vlV C L (p + 1)))) M 20 (nI (X.n + 1))) (M + 9) side (nI (X.n + 1))).2.1 (M + 6) x = τ1.2.1 (M + 6) x := fun x => by
      show (wJ τ1 (M + 8) X.n (lN (vlV C L (p + 1)))).2.1 (M + 6) x = _
      rw [wJ_n (by omega)]
    generalize wI (wI (wJ τ1 (M + 8) X.n (lN (vlV C L (p + 1)))) M 20 (nI (X.n + 1))) (M + 9) side (nI (X.n + 1)) = τ2 at fw e1 e20 e9 j8 j6
    refine ⟨fw, s, b, ?_, ?_, by omega, ?_⟩
    · obtain ⟨⟨t1, t2, t3, t4, t5⟩, l2, l3, l4, l5, l6, l7⟩ := L1
      refine ⟨⟨fun j hj ha => ?_, (e1 _ _ (by omega)).trans t2, t3, t4, (e1 _ _ (by omega)).trans t5⟩, (e1 _ _ (by omega)).trans l2, (e1 _ _ (by omega)).trans l3, l4, l5, (e1 _ _ (by omega)).trans l6, l7⟩
      obtain ⟨y1, y2, y3, y4⟩ := t1 j hj ha
      exact ⟨(e1 _ _ (by omega)).trans y1, (e1 _ _ (by omega)).trans y2, fun z => (e1 _ _ (by omega)).trans (y3 z), fun z => (j6 _).trans (y4 z)⟩
    · rw [← hla]
      have A2 : LAm τ2 M C L (p + 5) la := by
        unfold LAm at A1 ⊢
        rw [e1 M 15 (by omega), e1 M 16 (by omega)]; exact A1
      exact A2.up (by omega)
    · obtain ⟨g1, g2, g3, g4, g5, g6, g7, g8, g9⟩ := Y1
      refine ⟨⟨(e1 _ _ (by omega)).trans g1.1, g1.2⟩, ⟨e9, e20, by show X.n + 1 ≤ 8; omega⟩, ⟨(e1 _ _ (by omega)).trans g3.1, g3.2⟩, fun h hh => (e1 _ _ (by omega)).trans (g4 h hh), (e1 _ _ (by omega)).trans g5, fun x hx => ?_, fun x hx => ?_, fun x hx => ?_, fun k hk => ?_⟩
      · have hx : x < X.n + 1 := hx
        rw [j8]
        show _ = lN (uN X.nm X.n (vlV C L (p + 1)) x) ∧ uN X.nm X.n (vlV C L (p + 1)) x < 2 ^ 63
        unfold uN
        by_cases z : x = X.n
        · rw [if_pos z, if_pos z]; exact ⟨rfl, vlV_63 hk⟩
        · rw [if_neg z, if_neg z]; exact g6 x (by omega)
      · rw [e1 _ _ (by omega), e1 _ _ (by omega), e1 _ _ (by omega)]
        have hx : x < X.n + 1 := hx
        show τ1.1 (M + 10) (8 * side + x) = nI (uN X.go X.n (vlV C L (p + 2)) x) ∧ τ1.1 (M + 11) (8 * side + x) = nI (uN X.co X.n (vlV C L (p + 3)) x) ∧ τ1.1 (M + 12) (8 * side + x) = nI (uN X.tp X.n (vlV C L (p + 4)) x)
        unfold uN
        by_cases z : x = X.n
        · rw [if_pos z, if_pos z, if_pos z, z, a2.1 _ _ (by omega), a2.1 _ _ (by omega), a2.1 _ _ (by omega)]; exact ⟨v10, v11, v12⟩
        · rw [if_neg z, if_neg z, if_neg z]; exact g7 x (by omega)
      · rw [e1 _ _ (by omega), e1 _ _ (by omega)]; exact g8 x hx
      · rw [e1 _ _ (by omega), e1 _ _ (by omega)]
        rcases g9 k hk with ⟨bb, last, x1, x2, x3, x4⟩ | r
        · exact Or.inl ⟨bb, last, x1, x2, x3, x4.mo (Nat.le_refl _) (Nat.le_refl _) (fun k j b1 b2 b3 => e1 _ _ (by omega)) (fun j hj => ⟨e1 _ _ (by omega), e1 _ _ (by omega)⟩)⟩
        · exact Or.inr r
/-- one number of a house -/
theorem m_hn (hL : L ≤ 2000) {p2 m c : Nat} (hm : m < 10000) (hc : c = M + 10 ∨ c = M + 11 ∨ c = M + 12) (hn : X.n < 8) (h1 : ML τ M C L (420 * side) (130 * side) p2 s b) (h2 : LAm τ M C L p2 la) (h4 : MTY τ M side X s b) (hF : FJ (SMt M side) (fun k => k = M + 8) σ τ) : ∃ r τ1, fX7_bounded M 0 (nI m) τ = some (r, τ1) ∧ FJ (SMt M side) (fun k => k = M + 8) σ (wI τ1 c (8 * side + X.n) r) ∧ (∀ k j, k ≠ M → ¬ (k = c ∧ j = 8 * side + X.n) → (wI τ1 c (8 * side + X.n) r).1 k j = τ.1 k j) ∧ (match tkS (kdT C L) 21 p2 with
    | .error (e, q) => MF (wI τ1 c (8 * side + X.n) r) M C L e q
    | .ok q => (wI τ1 c (8 * side + X.n) r).1 c (8 * side + X.n) = nI (vlV C L p2) ∧ ML (wI τ1 c (8 * side + X.n) r) M C L (420 * side) (130 * side) q s b ∧ LAm (wI τ1 c (8 * side + X.n) r) M C L q (nt la (decide (m < vlV C L p2)) 5 p2) ∧ MTY (wI τ1 c (8 * side + X.n) r) M side X s b) := by
  obtain ⟨r, τ1, b1, b2, b3⟩ := m_bound hL h1 h2 hm
  have hF3 : Fs (fun k j => k = c ∧ j = 8 * side + X.n) τ1 (wI τ1 c (8 * side + X.n) r) := Fs.rf.wI ⟨rfl, rfl⟩
  refine ⟨r, τ1, b1, (hF.tr (fj_M (M := M) (side := side) b2 (fun k j q => by omega))).tr (hF3.mo (fun x j q => SMtH hc q hn)).fj, fun k j y1 y2 => (hF3.1 _ _ y2).trans (b2.1 _ _ (by omega)), ?_⟩
  cases q2 : tkS (kdT C L) 21 p2 with
  | error e =>
    obtain ⟨e, q⟩ := e
    rw [q2] at b3
    exact b3.fs hF3 (fun j y z => by omega)
  | ok q =>
    rw [q2] at b3
    obtain ⟨c1, c2, c3⟩ := b3
    exact ⟨by rw [wI_k, upd_k, c1], c2.n15 hF3 (fun k j q => Or.inr (by omega)), c3.fs hF3 (fun j y z => by omega), (h4.fs b2 (fun x j q => by omega)).fs hF3 (fun x j q => by omega)⟩
theorem m_houseT (hL : L ≤ 2000) (h : MTX σ M C L side X p s b) (hk : kdT C L p = 0) (hn : ¬ X.n = 8) : ∃ τ, ((fX7_roomFor M (nI X.n) (8 : Int32) σ).bind (fun σ7 => if (σ7.1 M 13) = 0 then ((fX7_tellHouse M σ7).bind (fun σ12 => some σ12)) else (some σ7))) = some τ ∧ MR1 σ τ M C L side (mapT (tksS (kdT C L) [0, 20, 21, 21, 21, 22] p) (hoX (vlV C L) X p)) := by
  have hs2 := h.2.2.2.1.2
  have hn8 := h.2.2.2.2.1.2.2
  have hn' : X.n < 8 := by omega
  unfold fX7_roomFor jX7_roomFor_10
  obtain ⟨τ1, a1, a2, a3⟩ := m_on h hk (by omega)
  rw [if_neg (show ¬ nI X.n = 8 from ne_nI (b := 8) (by omega) (by omega) hn), h.1.1.2.2.2.2, if_pos rfl, a1, Option.bind_some, Option.bind_some]
  have f1 : FJ (SMt M side) (fun k => k = M + 8) σ τ1 := fj_M a2 (fun k j q => by omega)
  cases q1 : tkS (kdT C L) 0 p with
  | error e =>
    obtain ⟨e, q⟩ := e
    rw [q1] at a3
    rw [if_neg a3.n.1]
    exact ⟨τ1, rfl, m_errT a3 f1 q1⟩
  | ok p1 =>
    rw [q1] at a3
    obtain ⟨e1, T1⟩ := a3
    subst e1
    have h3 := h.2.2.1
    rw [T1.1.1.2.2.2.2, if_pos rfl, tH_e, T1.2.2.2.1.1]
    simp (disch := omega) only [vif, nI_clamp]
    rw [T1.2.2.2.2.1.1, k8m, nI_add, T1.1.1.2.1]
    have fin : ∀ x : Option Sg, (∃ τ, x = some τ ∧ MR1 σ τ M C L side (mapT (tksS (kdT C L) [20, 21, 21, 21, 22] (p + 1)) (hoX (vlV C L) X p))) → ∃ τ, (x.bind (fun σ12 => some σ12)) = some τ ∧ MR1 σ τ M C L side (mapT (tksS (kdT C L) [0, 20, 21, 21, 21, 22] p) (hoX (vlV C L) X p)) := fun x ⟨τ, y1, y2⟩ => ⟨τ, by rw [y1]; rfl, m_okT y2 q1⟩
    refine fin _ ?_
    obtain ⟨τ2, b1, b2, b3⟩ := T1.1.mu (k := 20) (by omega)
    have b1 : fX7_must M 1 τ1 = some τ2 := b1
    rw [b1, Option.bind_some]
    have f2 := f1.tr (fj_M (M := M) (side := side) b2 (fun k j q => by omega))
    have h20 : τ2.1 M 20 = nI X.n := (b2.1 _ _ (by omega)).trans T1.2.2.2.2.1.2.1
    cases q2 : tkS (kdT C L) 20 (p + 1) with
    | error e =>
      obtain ⟨e, q⟩ := e
      rw [q2] at b3
      have r : lp (fun st : Int32 × Sg => bX7_tellHouse_30 M (nI (8 * side + X.n)) (nI (p + 1)) st.1 st.2) (0, τ2) = some τ2 := by
        refine lp_r ?_
        show bX7_tellHouse_30 M (nI (8 * side + X.n)) (nI (p + 1)) 0 τ2 = _
        unfold bX7_tellHouse_30
        rw [if_neg b3.n.1]
        split <;> rfl
      rw [r, Option.bind_some]
      obtain ⟨υ, c1, c2, c3⟩ := tH1_F (X := X) b3 f2 hn' hs2 (nI (p + 1))
      exact ⟨υ, c1, m_errT c3 c2 q2⟩
    | ok p2 =>
      rw [q2] at b3
      obtain ⟨e2, L2⟩ := b3
      subst e2
      have hl2 := tkS_l q2
      have Y2 := T1.2.2.2.fs b2 (fun x j q => by omega)
      have A2 := T1.2.1.fs b2 (fun j y z => by omega)
      obtain ⟨τ3, c1, c2, c3⟩ := m_dup hL (nI (8 * side + X.n)) L2 A2 hn8 h20 Y2.2.2.2.2.2.1 hl2.2.2
      rw [c1, Option.bind_some]
      have f3 := f2.tr (fj_M (M := M) (side := side) c2 (fun k j q => by omega))
      have L3 := L2.n15 c2 (fun k j q => Or.inl q)
      have Y3 := Y2.fs c2 (fun x j q => by omega)
      unfold tH1
      obtain ⟨r4, τ4, d1, d2, d3, d4⟩ := m_hn hL (m := 23) (c := M + 10) (by omega) (Or.inl rfl) hn' L3 c3 Y3 f3
      have d1 : fX7_bounded M 0 23 τ3 = some (r4, τ4) := d1
      rw [d1, Option.bind_some]
      simp (disch := omega) only [vif, nI_clamp]
      generalize wI τ4 (M + 10) (8 * side + X.n) r4 = υ4 at d2 d3 d4
      cases q3 : tkS (kdT C L) 21 (p + 1 + 1) with
      | error e =>
        obtain ⟨e, q⟩ := e
        rw [q3] at d4
        obtain ⟨υ, i1, i2, i3⟩ := tH2_F (X := X) d4 d2 hn' hs2 (nI (p + 1))
        exact ⟨υ, i1, m_okT (m_errT i3 i2 q3) q2⟩
      | ok p3 =>
        rw [q3] at d4
        obtain ⟨v10, L4, A4, Y4⟩ := d4
        have hl3 := tkS_l q3
        obtain ⟨rfl, -, -⟩ := hl3
        unfold tH2
        obtain ⟨r5, τ5, i1, i2, i3, i4⟩ := m_hn hL (m := 23) (c := M + 11) (by omega) (Or.inr (Or.inl rfl)) hn' L4 A4 Y4 d2
        have i1 : fX7_bounded M 0 23 υ4 = some (r5, τ5) := i1
        rw [i1, Option.bind_some, nI_clamp (by omega)]
        dsimp only
        have v10' := (i3 (M + 10) (8 * side + X.n) (by omega) (by omega)).trans v10
        generalize wI τ5 (M + 11) (8 * side + X.n) r5 = υ5 at i2 i3 i4 v10'
        cases q4 : tkS (kdT C L) 21 (p + 1 + 1 + 1) with
        | error e =>
          obtain ⟨e, q⟩ := e
          rw [q4] at i4
          obtain ⟨υ, j1, j2, j3⟩ := tH3_F (X := X) i4 i2 hn' hs2 (nI (p + 1))
          exact ⟨υ, j1, m_okT (m_okT (m_errT j3 j2 q4) q3) q2⟩
        | ok p4 =>
          rw [q4] at i4
          obtain ⟨v11, L5, A5, Y5⟩ := i4
          have hl4 := tkS_l q4
          obtain ⟨rfl, -, -⟩ := hl4
          unfold tH3
          obtain ⟨r6, τ6, j1, j2, j3, j4⟩ := m_hn hL (m := 9) (c := M + 12) (by omega) (Or.inr (Or.inr rfl)) hn' L5 A5 Y5 i2
          have j1 : fX7_bounded M 0 9 υ5 = some (r6, τ6) := j1
          rw [j1, Option.bind_some, nI_clamp (by omega)]
          dsimp only
          have v10'' := (j3 (M + 10) (8 * side + X.n) (by omega) (by omega)).trans v10'
          have v11' := (j3 (M + 11) (8 * side + X.n) (by omega) (by omega)).trans v11
          generalize wI τ6 (M + 12) (8 * side + X.n) r6 = υ6 at j2 j3 j4 v10'' v11'
          cases q5 : tkS (kdT C L) 21 (p + 1 + 1 + 1 + 1) with
          | error e =>
            obtain ⟨e, q⟩ := e
            rw [q5] at j4
            exact ⟨υ6, tH4_F j4 _, m_okT (m_okT (m_okT (m_errT j4 j2 q5) q4) q3) q2⟩
          | ok p5 =>
            rw [q5] at j4
            obtain ⟨v12, L6, A6, Y6⟩ := j4
            have hl5 := tkS_l q5
            obtain ⟨rfl, -, -⟩ := hl5
            obtain ⟨υ, x1, x2⟩ := m_h4 (σ := σ) (X := X) (p := p) rfl hn' hl2.2.2 L6 A6 (by omega) Y6 j2 v10'' v11' v12
            exact ⟨υ, x1, m_okT (m_okT (m_okT (m_okT x2 q5) q4) q3) q2⟩
/-- one tell, by the model -/
theorem m_tell (hL : L ≤ 2000) (h : MTX σ M C L side X p s b) (hk31 : ¬ kdT C L p = 31) : ∃ τ, fX7_tellOne M σ = some τ ∧ MR1 σ τ M C L side (tellS (kdT C L) (vlV C L) X p) := by
  have hkl := kd_lt C L p
  have hs2 := h.2.2.2.1.2
  have hp := h.1.1.2.2.1
  have en := h.1.1.en.1
  have ee : ∀ k v : Nat, k < 33 → v < 100 → mkd k = v → (∀ j, j < 33 → mkd j = v → j = k) → (nI (mkd (kdT C L p)) = nI v ↔ kdT C L p = k) := fun k v h1 h2 h3 h4 => by
    have hm : mkd (kdT C L p) < 100 := by
      have : ∀ j : Fin 33, mkd j.1 < 100 := by decide
      exact this ⟨kdT C L p, by omega⟩
    constructor
    · intro z
      exact h4 _ (by omega) ((nI_eq (by omega) (by omega)).mp z)
    · intro z
      rw [z, h3]
  have inj : ∀ v k : Nat, v < 40 → (∀ j : Fin 33, mkd j.1 = v → j.1 = k) → ∀ j, j < 33 → mkd j = v → j = k := fun v k _ hh j hj e => hh ⟨j, hj⟩ e
  unfold fX7_tellOne tellS
  rw [h.1.1.2.1]
  simp (disch := omega) only [vif, nI_clamp]
  rw [en]
  by_cases k0 : kdT C L p = 0
  · rw [if_pos (show nI (mkd (kdT C L p)) = 20 by rw [k0]; rfl), if_pos k0, h.2.2.2.1.1]
    simp (disch := omega) only [vif, nI_clamp]
    rw [h.2.2.2.2.1.1]
    by_cases z : X.n = 8
    · rw [if_pos z]
      unfold fX7_roomFor jX7_roomFor_10
      obtain ⟨τ, a1, a2, a3⟩ := m_fail h.1.1 (k := 2) (Or.inr rfl)
      have a1 : fX7_fail M 2 σ = some τ := a1
      rw [if_pos (by rw [z]; rfl), a1, Option.bind_some, if_neg a3.n.1, Option.bind_some, if_neg a3.n.1]
      exact ⟨τ, rfl, fj_M a2 (fun k j q => by omega), a3⟩
    · rw [if_neg z]
      exact m_houseT hL h k0 z
  · rw [if_neg (show ¬ nI (mkd (kdT C L p)) = 20 from fun z => k0 ((ee 0 20 (by omega) (by omega) rfl (inj 20 0 (by omega) (by decide))).mp z)), if_neg k0]
    by_cases k1 : kdT C L p = 1
    · rw [if_pos (show nI (mkd (kdT C L p)) = 21 by rw [k1]; rfl), if_pos k1, h.2.2.2.1.1]
      simp (disch := omega) only [vif, nI_clamp]
      rw [h.2.2.2.2.2.1.1]
      by_cases z : X.m = 6
      · rw [if_pos z]
        unfold fX7_roomFor jX7_roomFor_10
        obtain ⟨τ, a1, a2, a3⟩ := m_fail h.1.1 (k := 2) (Or.inr rfl)
        have a1 : fX7_fail M 2 σ = some τ := a1
        rw [if_pos (by rw [z]; rfl), a1, Option.bind_some, if_neg a3.n.1, Option.bind_some, if_neg a3.n.1]
        exact ⟨τ, rfl, fj_M a2 (fun k j q => by omega), a3⟩
      · rw [if_neg z]
        exact m_spareT hL h k1 z
    · rw [if_neg (show ¬ nI (mkd (kdT C L p)) = 21 from fun z => k1 ((ee 1 21 (by omega) (by omega) rfl (inj 21 1 (by omega) (by decide))).mp z)), if_neg k1]
      by_cases k2 : kdT C L p = 2
      · rw [if_pos (show nI (mkd (kdT C L p)) = 22 by rw [k2]; rfl), if_pos k2]
        exact m_bothT hL h k2
      · rw [if_neg (show ¬ nI (mkd (kdT C L p)) = 22 from fun z => k2 ((ee 2 22 (by omega) (by omega) rfl (inj 22 2 (by omega) (by decide))).mp z)), if_neg k2]
        by_cases k7 : kdT C L p = 7
        · rw [if_pos (show nI (mkd (kdT C L p)) = 27 by rw [k7]; rfl), if_neg (by omega), if_pos k7]
          exact m_seedT hL h k7
        · rw [if_neg (show ¬ nI (mkd (kdT C L p)) = 27 from fun z => k7 ((ee 7 27 (by omega) (by omega) rfl (inj 27 7 (by omega) (by decide))).mp z))]
          by_cases k3 : 3 ≤ kdT C L p ∧ kdT C L p ≤ 6
          · rw [if_pos k3]
            have e : nI (mkd (kdT C L p)) = nI (20 + kdT C L p) := by unfold mkd; rw [if_pos (by omega)]
            rw [e, show nI (20 + kdT C L p) - 23 = nI (kdT C L p - 3) from (pk_sub (b := 23) (by omega)).trans (by rw [show 20 + kdT C L p - 23 = kdT C L p - 3 by omega]), if_neg (Int32.not_lt.mpr (nI_n1 (by omega))), if_pos (show nI (20 + kdT C L p) ≤ 26 from nI_le (b := 26) (by omega) (by omega))]
            unfold jX7_tellOne_247
            rw [h.1.1.2.2.2.2, if_pos (by decide)]
            exact m_lawT hL h (by omega) (by omega)
          · rw [if_neg k3, if_neg k7]
            obtain ⟨τ, a1, a2, a3⟩ := m_fail h.1.1 (k := 1) (Or.inl rfl)
            have a1 : fX7_fail M 1 σ = some τ := a1
            have j242 : ∀ x, jX7_tellOne_242 M x σ = some τ := fun x => by
              unfold jX7_tellOne_242 jX7_tellOne_247
              rw [a1, Option.bind_some, if_neg a3.n.2]
            have hcase : ∀ j : Fin 33, ¬ (j.1 = 0 ∨ j.1 = 1 ∨ j.1 = 2 ∨ j.1 = 7 ∨ 3 ≤ j.1 ∧ j.1 ≤ 6) → (nI (mkd j.1) - 23 < 0) ∨ ¬ (nI (mkd j.1) ≤ 26) := by decide
            refine ⟨τ, ?_, fj_M a2 (fun k j q => by omega), a3⟩
            by_cases z : nI (mkd (kdT C L p)) - 23 < 0
            · rw [if_pos z, j242]
            · rw [if_neg z]
              by_cases y : nI (mkd (kdT C L p)) ≤ 26
              · exact absurd y ((hcase ⟨kdT C L p, by omega⟩ (by show ¬ (kdT C L p = 0 ∨ kdT C L p = 1 ∨ kdT C L p = 2 ∨ kdT C L p = 7 ∨ 3 ≤ kdT C L p ∧ kdT C L p ≤ 6); omega)).resolve_left z)
              · rw [if_neg y, j242]
end MHOUSE
