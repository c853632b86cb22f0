/-! a law in the class: the value that its code comes to -/
abbrev Rp : Type := List (Nat × Nat)
def s1 (k : Nat) : Nat → Prop := fun x => x = k
theorem SM_0 {f : Nat → Int32} {x y : Int32} {st : List Int32} (h : SM f (x :: y :: st)) : f (st.length + 1) = x ∧ f st.length = y := ⟨h.1, h.2.1⟩
theorem runC {L : Nat} {p1 : Int32} {size : Nat} (hz : size ≤ 408) : ∀ (r : Rp) (p : Nat) (st : List Int32) (d' : Nat) (σ : Sg), segC (σ.1 (L + 1)) p r → rwf 24 r st.length d' → p + r.length ≤ size → σ.1 L 1 = nI size → SM (σ.1 (L + 4)) st →
    (∀ st', rpn (σ.1 (L + 3)) r st = some st' → st'.length = d' ∧ ∃ τ, Fr (s1 (L + 4)) σ τ ∧ SM (τ.1 (L + 4)) st' ∧ lp (BC L p1) (nI p, nI st.length, σ) = lp (BC L p1) (nI (p + r.length), nI d', τ)) ∧
    (rpn (σ.1 (L + 3)) r st = none → ∃ τ, Fr (s1 (L + 4)) σ τ ∧ lp (BC L p1) (nI p, nI st.length, σ) = some (.inr (.inr (.inr (.inl τ))))) := by
  intro r
  induction r with
  | nil =>
    intro p st d' σ _ hw _ _ hm
    refine ⟨fun st' h => ?_, fun h => by cases h⟩
    cases h
    have hw : st.length = d' := hw
    exact ⟨hw, σ, Fr.rf, hm, by rw [← hw]; rfl⟩
  | cons q r ih =>
    obtain ⟨k, x⟩ := q
    intro p st d' σ hg hw hp hs hm
    obtain ⟨hc, hg⟩ : (σ.1 (L + 1)) p = nI (k + 16 * x) ∧ segC (σ.1 (L + 1)) (p + 1) r := hg
    obtain ⟨hx, hw⟩ := hw
    have hp : p + (r.length + 1) ≤ size := hp
    have push : ∀ y : Int32, (if k = 0 then nI x else σ.1 (L + 3) x) = y → (k = 0 ∨ k = 1 ∧ x < 9) → st.length < 24 → rwf 24 r (st.length + 1) d' →
        (∀ st', rpn (σ.1 (L + 3)) r (y :: st) = some st' → st'.length = d' ∧ ∃ τ, Fr (s1 (L + 4)) σ τ ∧ SM (τ.1 (L + 4)) st' ∧ lp (BC L p1) (nI p, nI st.length, σ) = lp (BC L p1) (nI (p + (r.length + 1)), nI d', τ)) ∧
        (rpn (σ.1 (L + 3)) r (y :: st) = none → ∃ τ, Fr (s1 (L + 4)) σ τ ∧ lp (BC L p1) (nI p, nI st.length, σ) = some (.inr (.inr (.inr (.inl τ))))) := by
      intro y hy hk hd hr
      have hb := bc_push (p1 := p1) (d := st.length) hs (by omega) hz hd hx hc hk
      rw [hy] at hb
      have e1 : lp (BC L p1) (nI p, nI st.length, σ) = lp (BC L p1) (nI (p + 1), nI (st.length + 1), wI σ (L + 4) st.length y) := by rw [lp_eq, hb]; rfl
      have o3 : (wI σ (L + 4) st.length y).1 (L + 3) = σ.1 (L + 3) := wI_n (by omega)
      have o1 : (wI σ (L + 4) st.length y).1 (L + 1) = σ.1 (L + 1) := wI_n (by omega)
      have o0 : (wI σ (L + 4) st.length y).1 L = σ.1 L := wI_n (by omega)
      have hF : Fr (s1 (L + 4)) σ (wI σ (L + 4) st.length y) := Fr.rf.wI rfl
      have := ih (p + 1) (y :: st) d' (wI σ (L + 4) st.length y) (by rw [o1]; exact hg) hr (by omega) (by rw [o0]; exact hs) ⟨by rw [wI_k, upd_k], by rw [wI_k]; exact SM_u (Nat.le_refl _) hm⟩
      rw [o3, show p + 1 + r.length = p + (r.length + 1) by omega] at this
      refine ⟨fun st' h => ?_, fun h => ?_⟩
      · obtain ⟨g1, τ, g2, g3, g4⟩ := this.1 st' h
        exact ⟨g1, τ, hF.tr g2, g3, e1.trans g4⟩
      · obtain ⟨τ, g2, g4⟩ := this.2 h
        exact ⟨τ, hF.tr g2, e1.trans g4⟩
    show (∀ st', rpn (σ.1 (L + 3)) ((k, x) :: r) st = some st' → st'.length = d' ∧ ∃ τ, Fr (s1 (L + 4)) σ τ ∧ SM (τ.1 (L + 4)) st' ∧ lp (BC L p1) (nI p, nI st.length, σ) = lp (BC L p1) (nI (p + (r.length + 1)), nI d', τ)) ∧ _
    rcases hw with ⟨rfl, hd, hr⟩ | ⟨rfl, hx9, hd, hr⟩ | ⟨hk2, hk5, hx0, hd2, hd24, hr⟩
    · exact push (nI x) rfl (Or.inl rfl) hd hr
    · exact push (σ.1 (L + 3) x) rfl (Or.inr ⟨rfl, hx9⟩) hd hr
    · match st, hd2, hd24, hr, hm with
      | b :: a :: st, hd2, hd24, hr, hm =>
        obtain ⟨hb1, ha1⟩ := SM_0 hm
        have hl : (b :: a :: st).length = st.length + 2 := rfl
        have k0 : ¬ k = 0 := by omega
        have k1 : ¬ k = 1 := by omega
        have er : rpn (σ.1 (L + 3)) ((k, x) :: r) (b :: a :: st) = if k = 5 ∧ b = 0 then none else rpn (σ.1 (L + 3)) r (rop k a b :: st) := by
          show (if k = 0 then _ else if k = 1 then _ else _) = _
          rw [if_neg k0, if_neg k1]
        have hcode : ∀ y, y = 0 → σ.1 (L + 1) p = nI (k + 16 * y) → σ.1 (L + 1) p = nI k := fun y hy h => by rw [h, hy]; rfl
        · have hck := hcode x hx0 hc
          rw [er]
          by_cases h5 : k = 5 ∧ b = 0
          · rw [if_pos h5]
            refine ⟨fun st' h => (by cases h), fun _ => ⟨σ, Fr.rf, ?_⟩⟩
            rw [lp_eq, bc_div0 (p1 := p1) (d := (b :: a :: st).length) hs (by omega) hz (by rw [hl]; omega) hd24 (by rw [hck, h5.1]) (by rw [hl]; exact hb1.trans h5.2)]
            rfl
          · rw [if_neg h5]
            have hbo := bc_op (p1 := p1) (d := (b :: a :: st).length) hs (by omega) hz (by rw [hl]; omega) hd24 hck hk2 hk5 (by rw [hl]; intro q; exact h5 ⟨q.1, hb1.symm.trans q.2⟩)
            rw [hl, show st.length + 2 - 1 = st.length + 1 by omega, show st.length + 2 - 2 = st.length by omega, hb1, ha1] at hbo
            have e1 : lp (BC L p1) (nI p, nI (b :: a :: st).length, σ) = lp (BC L p1) (nI (p + 1), nI (st.length + 1), wI σ (L + 4) st.length (rop k a b)) := by rw [hl, lp_eq, hbo]; rfl
            have o3 : (wI σ (L + 4) st.length (rop k a b)).1 (L + 3) = σ.1 (L + 3) := wI_n (by omega)
            have o1 : (wI σ (L + 4) st.length (rop k a b)).1 (L + 1) = σ.1 (L + 1) := wI_n (by omega)
            have o0 : (wI σ (L + 4) st.length (rop k a b)).1 L = σ.1 L := wI_n (by omega)
            have hF : Fr (s1 (L + 4)) σ (wI σ (L + 4) st.length (rop k a b)) := Fr.rf.wI rfl
            have := ih (p + 1) (rop k a b :: st) d' (wI σ (L + 4) st.length (rop k a b)) (by rw [o1]; exact hg) (by rw [hl, show st.length + 2 - 1 = st.length + 1 by omega] at hr; exact hr) (by omega) (by rw [o0]; exact hs) ⟨by rw [wI_k, upd_k], by rw [wI_k]; exact SM_u (Nat.le_refl _) hm.2.2⟩
            rw [o3, show p + 1 + r.length = p + (r.length + 1) by omega] at this
            refine ⟨fun st' h => ?_, fun h => ?_⟩
            · obtain ⟨g1, τ, g2, g3, g4⟩ := this.1 st' h
              exact ⟨g1, τ, hF.tr g2, g3, e1.trans g4⟩
            · obtain ⟨τ, g2, g4⟩ := this.2 h
              exact ⟨τ, hF.tr g2, e1.trans g4⟩

def r1 (o : Option (List Int32)) : Int32 := match o with
  | some (x :: _) => x
  | _ => 0
/-- the value of a law: tests ahead, a last term -/
def lawV (v : Nat → Int32) : List (Rp × Rp × Rp) → Rp → Int32
  | [], f => r1 (rpn v f [])
  | (u, t, w) :: bs, f => match rpn v u [] with
    | none => 0
    | some q1 => match rpn v t q1 with
      | none => 0
      | some q2 => match q2 with
        | b :: a :: _ => if b ≤ a then lawV v bs f else r1 (rpn v w [])
        | _ => 0
def lawE : Nat → List (Rp × Rp × Rp) → Rp → Nat
  | p, [], f => p + f.length + 1
  | p, (u, t, w) :: bs, f => lawE (p + u.length + t.length + w.length + 2) bs f
def lawC (c : Nat → Int32) : Nat → List (Rp × Rp × Rp) → Rp → Prop
  | p, [], f => segC c p f ∧ c (p + f.length) = nI 7
  | p, (u, t, w) :: bs, f => segC c p u ∧ segC c (p + u.length) t ∧ c (p + u.length + t.length) = nI (6 + 16 * (p + u.length + t.length + w.length + 2)) ∧ segC c (p + u.length + t.length + 1) w ∧ c (p + u.length + t.length + w.length + 1) = nI 7 ∧ lawC c (p + u.length + t.length + w.length + 2) bs f
def lawW : List (Rp × Rp × Rp) → Rp → Prop
  | [], f => rwf 20 f 0 1
  | (u, t, w) :: bs, f => rwf 20 u 0 1 ∧ rwf 20 t 0 1 ∧ rwf 20 w 0 1 ∧ lawW bs f
theorem rwf_up {D : Nat} : ∀ {r : Rp} {d d' : Nat} (e : Nat), rwf D r d d' → rwf (D + e) r (d + e) (d' + e)
  | [], d, d', e, h => by
    have h : d = d' := h
    subst h
    exact rfl
  | (k, x) :: r, d, d', e, h => by
    obtain ⟨hx, h⟩ := h
    refine ⟨hx, ?_⟩
    rcases h with ⟨a, b, c⟩ | ⟨a, a2, b, c⟩ | ⟨a, a2, a3, b, b2, c⟩
    · exact Or.inl ⟨a, by omega, by have := rwf_up e c; rw [show d + 1 + e = d + e + 1 by omega] at this; exact this⟩
    · exact Or.inr (Or.inl ⟨a, a2, by omega, by have := rwf_up e c; rw [show d + 1 + e = d + e + 1 by omega] at this; exact this⟩)
    · exact Or.inr (Or.inr ⟨a, a2, a3, by omega, by omega, by have := rwf_up e c; rw [show d - 1 + e = d + e - 1 by omega] at this; exact this⟩)
theorem rwf_D {D D' : Nat} (hD : D ≤ D') : ∀ {r : Rp} {d d' : Nat}, rwf D r d d' → rwf D' r d d'
  | [], _, _, h => h
  | (k, x) :: r, d, d', h => by
    obtain ⟨hx, h⟩ := h
    refine ⟨hx, ?_⟩
    rcases h with ⟨a, b, c⟩ | ⟨a, a2, b, c⟩ | ⟨a, a2, a3, b, b2, c⟩
    · exact Or.inl ⟨a, by omega, rwf_D hD c⟩
    · exact Or.inr (Or.inl ⟨a, a2, by omega, rwf_D hD c⟩)
    · exact Or.inr (Or.inr ⟨a, a2, a3, b, by omega, rwf_D hD c⟩)
/-- on an empty pile a term leaves one number, and on any pile the same above it -/
theorem rpn_app (v : Nat → Int32) {D : Nat} : ∀ (r : Rp) (s0 s1 : List Int32) (d' : Nat), rwf D r s0.length d' → rpn v r (s0 ++ s1) = (rpn v r s0).map (fun q => q ++ s1)
  | [], s0, s1, _, _ => rfl
  | (k, x) :: r, s0, s1, d', h => by
    obtain ⟨-, h⟩ := h
    show (if k = 0 then rpn v r (nI x :: (s0 ++ s1)) else if k = 1 then rpn v r (v x :: (s0 ++ s1)) else _) = Option.map _ (if k = 0 then rpn v r (nI x :: s0) else if k = 1 then rpn v r (v x :: s0) else _)
    rcases h with ⟨rfl, -, c⟩ | ⟨rfl, -, -, c⟩ | ⟨h2, h5, -, hd, -, c⟩
    · rw [if_pos rfl, if_pos rfl]; exact rpn_app v r (nI x :: s0) s1 d' c
    · rw [if_neg (by decide), if_pos rfl, if_neg (by decide), if_pos rfl]; exact rpn_app v r (v x :: s0) s1 d' c
    · rw [if_neg (by omega), if_neg (by omega), if_neg (by omega), if_neg (by omega)]
      match s0, hd, c with
      | b :: a :: s0, hd, c =>
        show (if k = 5 ∧ b = 0 then none else rpn v r (rop k a b :: (s0 ++ s1))) = Option.map _ (if k = 5 ∧ b = 0 then none else rpn v r (rop k a b :: s0))
        by_cases h9 : k = 5 ∧ b = 0
        · rw [if_pos h9, if_pos h9]; rfl
        · rw [if_neg h9, if_neg h9]; exact rpn_app v r (rop k a b :: s0) s1 d' (by have e : (b :: a :: s0).length - 1 = (rop k a b :: s0).length := rfl; rw [e] at c; exact c)
theorem rpn_len (v : Nat → Int32) {D : Nat} : ∀ (r : Rp) (s0 : List Int32) (d' : Nat), rwf D r s0.length d' → ∀ q, rpn v r s0 = some q → q.length = d'
  | [], s0, d', h, q, e => by cases e; exact h
  | (k, x) :: r, s0, d', h, q, e => by
    obtain ⟨-, h⟩ := h
    have e : (if k = 0 then rpn v r (nI x :: s0) else if k = 1 then rpn v r (v x :: s0) else _) = some q := e
    rcases h with ⟨rfl, -, c⟩ | ⟨rfl, -, -, c⟩ | ⟨h2, h5, -, hd, -, c⟩
    · rw [if_pos rfl] at e; exact rpn_len v r _ d' c q e
    · rw [if_neg (by decide), if_pos rfl] at e; exact rpn_len v r _ d' c q e
    · rw [if_neg (by omega), if_neg (by omega)] at e
      match s0, hd, c with
      | b :: a :: s0, hd, c =>
        have e : (if k = 5 ∧ b = 0 then none else rpn v r (rop k a b :: s0)) = some q := e
        by_cases h9 : k = 5 ∧ b = 0
        · rw [if_pos h9] at e; cases e
        · rw [if_neg h9] at e; exact rpn_len v r _ d' (by have e2 : (b :: a :: s0).length - 1 = (rop k a b :: s0).length := rfl; rw [e2] at c; exact c) q e
