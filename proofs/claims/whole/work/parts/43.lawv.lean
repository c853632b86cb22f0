theorem lp_l {α β : Type} {f : α → Option (α ⊕ β)} {a a' : α} (h : f a = some (.inl a')) : lp f a = lp f a' := by rw [lp_eq, h]; rfl
theorem lp_r {α β : Type} {f : α → Option (α ⊕ β)} {a : α} {b : β} (h : f a = some (.inr b)) : lp f a = some b := by rw [lp_eq, h]; rfl
noncomputable def KC (L : Nat) : ((Sg) ⊕ ((Int32 × Sg) ⊕ ((Sg) ⊕ ((Sg) ⊕ (Sg))))) → Option (Int32 × Sg) := fun o35 => Sum.elim (fun σ36 => some ((0 : Int32), σ36)) (fun o35_ => Sum.elim (fun q41 => let y38 := q41.1; let σ37 := q41.2; if y38 ≤ 0 then (some ((0 : Int32), σ37)) else (if vin (y38 - (1 : Int32)) 24 then (some ((σ37.1 (L + 4) (((y38 - (1 : Int32))).toNatClampNeg)), σ37)) else none)) (fun o35__ => Sum.elim (fun σ42 => some ((0 : Int32), σ42)) (fun o35___ => Sum.elim (fun σ43 => some ((0 : Int32), σ43)) (fun o35____ => (fun σ44 => some ((0 : Int32), σ44)) o35____) o35___) o35__) o35_) o35
theorem valueOf_eq (L k p : Nat) (σ : Sg) (hk : k < 4) (hs : σ.1 (L + 2) k = nI p) : fX0_valueOf L (nI k) σ = (lp (BC L (nI k)) (nI p, nI 0, σ)).bind (KC L) := by
  unfold fX0_valueOf
  rw [if_pos (vin_nI hk (by omega)), nI_clamp (by omega)]
  dsimp only
  rw [hs]
  rfl
theorem KC_ans {L : Nat} {τ : Sg} : KC L (.inr (.inl (nI 1, τ))) = some (τ.1 (L + 4) 0, τ) := by
  have h1 : ¬ nI 1 ≤ 0 := by decide
  have h2 : vin (nI 1 - 1) 24 := by decide
  unfold KC
  simp only [Sum.elim_inr, Sum.elim_inl, if_neg h1, if_pos h2]
  rfl
/-- a term and the answer behind it -/
theorem runA {L : Nat} {p1 : Int32} {size : Nat} (hz : size ≤ 408) {r : Rp} {p : Nat} {σ : Sg} (hg : segC (σ.1 (L + 1)) p r) (hw : rwf 20 r 0 1) (ha : σ.1 (L + 1) (p + r.length) = nI 7) (hp : p + r.length + 1 ≤ size) (hs : σ.1 L 1 = nI size) : ∃ τ, Fr (s1 (L + 4)) σ τ ∧ (lp (BC L p1) (nI p, nI 0, σ)).bind (KC L) = some (r1 (rpn (σ.1 (L + 3)) r []), τ) := by
  have h := runC (p1 := p1) hz r p [] 1 σ hg (rwf_D (by omega) hw) (by omega) hs trivial
  have h : (∀ st', rpn (σ.1 (L + 3)) r [] = some st' → st'.length = 1 ∧ ∃ τ, Fr (s1 (L + 4)) σ τ ∧ SM (τ.1 (L + 4)) st' ∧ lp (BC L p1) (nI p, nI 0, σ) = lp (BC L p1) (nI (p + r.length), nI 1, τ)) ∧ (rpn (σ.1 (L + 3)) r [] = none → ∃ τ, Fr (s1 (L + 4)) σ τ ∧ lp (BC L p1) (nI p, nI 0, σ) = some (.inr (.inr (.inr (.inl τ))))) := h
  cases hr : rpn (σ.1 (L + 3)) r [] with
  | none =>
    obtain ⟨τ, h1, h2⟩ := h.2 hr
    exact ⟨τ, h1, by rw [h2]; rfl⟩
  | some st' =>
    obtain ⟨hl, τ, h1, h2, h3⟩ := h.1 st' hr
    match st', hl, h2 with
    | [x], _, h2 =>
      refine ⟨τ, h1, ?_⟩
      have n1 : L + 1 ≠ L + 4 := by omega
      have n0 : L ≠ L + 4 := by omega
      have hb := bc_ans (L := L) (p1 := p1) (σ := τ) (p := p + r.length) (size := size) (d := 1) (by rw [h1.1 L n0]; exact hs) (by omega) hz (by rw [h1.1 (L + 1) n1]; exact ha)
      have hx : τ.1 (L + 4) 0 = x := h2.1
      rw [h3, lp_eq, hb]
      show KC L (.inr (.inl (nI 1, τ))) = _
      rw [KC_ans, hx]
      rfl
theorem lawC_v {L : Nat} {p1 : Int32} {size : Nat} (hz : size ≤ 408) {f : Rp} : ∀ (bs : List (Rp × Rp × Rp)) (p : Nat) (σ : Sg), lawC (σ.1 (L + 1)) p bs f → lawW bs f → lawE p bs f ≤ size → σ.1 L 1 = nI size → ∃ τ, Fr (s1 (L + 4)) σ τ ∧ (lp (BC L p1) (nI p, nI 0, σ)).bind (KC L) = some (lawV (σ.1 (L + 3)) bs f, τ) := by
  have mono : ∀ (bs : List (Rp × Rp × Rp)) (p : Nat), p ≤ lawE p bs f := by
    intro bs
    induction bs with
    | nil => intro p; show p ≤ p + f.length + 1; omega
    | cons q bs ih =>
      obtain ⟨u, t, w⟩ := q
      intro p
      exact Nat.le_trans (by omega) (ih (p + u.length + t.length + w.length + 2))
  intro bs
  induction bs with
  | nil =>
    intro p σ hc hw he hs
    exact runA hz hc.1 hw hc.2 he hs
  | cons q bs ih =>
    obtain ⟨u, t, w⟩ := q
    intro p σ hc hw he hs
    obtain ⟨c1, c2, c3, c4, c5, c6⟩ := hc
    obtain ⟨w1, w2, w3, w4⟩ := hw
    have he : lawE (p + u.length + t.length + w.length + 2) bs f ≤ size := he
    have hm := mono bs (p + u.length + t.length + w.length + 2)
    have n1 : L + 1 ≠ L + 4 := by omega
    have n3 : L + 3 ≠ L + 4 := by omega
    have n0 : L ≠ L + 4 := by omega
    have hu := runC (p1 := p1) hz u p [] 1 σ c1 (rwf_D (by omega) w1) (by omega) hs trivial
    show ∃ τ, Fr (s1 (L + 4)) σ τ ∧ (lp (BC L p1) (nI p, nI 0, σ)).bind (KC L) = some (lawV (σ.1 (L + 3)) ((u, t, w) :: bs) f, τ)
    unfold lawV
    cases hr : rpn (σ.1 (L + 3)) u [] with
    | none =>
      obtain ⟨τ, h1, h2⟩ := hu.2 hr
      have h2 : lp (BC L p1) (nI p, nI 0, σ) = some (.inr (.inr (.inr (.inl τ)))) := h2
      exact ⟨τ, h1, by rw [h2]; rfl⟩
    | some q1 =>
      obtain ⟨hl, τ, h1, h2, h3⟩ := hu.1 q1 hr
      have h3 : lp (BC L p1) (nI p, nI 0, σ) = lp (BC L p1) (nI (p + u.length), nI 1, τ) := h3
      match q1, hl, h2 with
      | [a], _, h2 =>
        have ht := runC (p1 := p1) hz t (p + u.length) [a] 2 τ (by rw [h1.1 _ n1]; exact c2) (rwf_D (by omega) (rwf_up 1 w2)) (by omega) (by rw [h1.1 _ n0]; exact hs) h2
        rw [h1.1 _ n3] at ht
        have ht1 : lp (BC L p1) (nI (p + u.length), nI [a].length, τ) = lp (BC L p1) (nI p, nI 0, σ) := h3.symm
        rw [ht1] at ht
        dsimp only
        cases hr2 : rpn (σ.1 (L + 3)) t [a] with
        | none =>
          obtain ⟨υ, g1, g2⟩ := ht.2 hr2
          exact ⟨υ, h1.tr g1, by rw [g2]; rfl⟩
        | some q2 =>
          obtain ⟨hl2, υ, g1, g2, g3⟩ := ht.1 q2 hr2
          have hF := h1.tr g1
          match q2, hl2, g2 with
          | [b, a'], _, g2 =>
            have hb1 : υ.1 (L + 4) 1 = b := g2.1
            have ha1 : υ.1 (L + 4) 0 = a' := g2.2.1
            have hb := bc_test (L := L) (p1 := p1) (σ := υ) (p := p + u.length + t.length) (size := size) (d := 2) (j := p + u.length + t.length + w.length + 2) (by rw [hF.1 _ n0]; exact hs) (by omega) hz (by omega) (by omega) (by omega) (by omega) (by rw [hF.1 _ n1]; exact c3)
            rw [show 2 - 1 = 1 from rfl, show 2 - 2 = 0 from rfl, hb1, ha1] at hb
            dsimp only
            by_cases hle : b ≤ a'
            · rw [if_pos hle] at hb ⊢
              have e1 : lp (BC L p1) (nI p, nI 0, σ) = lp (BC L p1) (nI (p + u.length + t.length + w.length + 2), nI 0, υ) := by rw [g3, lp_eq, hb]; rfl
              obtain ⟨ω, k1, k2⟩ := ih (p + u.length + t.length + w.length + 2) υ (by rw [hF.1 _ n1]; exact c6) w4 he (by rw [hF.1 _ n0]; exact hs)
              rw [hF.1 _ n3] at k2
              exact ⟨ω, hF.tr k1, by rw [e1]; exact k2⟩
            · rw [if_neg hle] at hb ⊢
              have e1 : lp (BC L p1) (nI p, nI 0, σ) = lp (BC L p1) (nI (p + u.length + t.length + 1), nI 0, υ) := by rw [g3, lp_eq, hb]; rfl
              obtain ⟨ω, k1, k2⟩ := runA (L := L) (p1 := p1) hz (r := w) (p := p + u.length + t.length + 1) (σ := υ) (by rw [hF.1 _ n1]; exact c4) w3 (by rw [hF.1 _ n1, show p + u.length + t.length + 1 + w.length = p + u.length + t.length + w.length + 1 by omega]; exact c5) (by omega) (by rw [hF.1 _ n0]; exact hs)
              rw [hF.1 _ n3] at k2
              exact ⟨ω, hF.tr k1, by rw [e1]; exact k2⟩
/-- LAWS.valueOf: the value of the law whose code begins at p -/
theorem valueOf_v {L k p size : Nat} {σ : Sg} {bs : List (Rp × Rp × Rp)} {f : Rp} (hk : k < 4) (hs : σ.1 (L + 2) k = nI p) (hz : size ≤ 408) (hsz : σ.1 L 1 = nI size) (hc : lawC (σ.1 (L + 1)) p bs f) (hw : lawW bs f) (he : lawE p bs f ≤ size) : ∃ τ, Fr (s1 (L + 4)) σ τ ∧ fX0_valueOf L (nI k) σ = some (lawV (σ.1 (L + 3)) bs f, τ) := by
  rw [valueOf_eq L k p σ hk hs]
  exact lawC_v hz bs p σ hc hw he hsz
