/-! a law in the model -/
def Fs (S : Nat → Nat → Prop) (σ τ : Sg) : Prop := (∀ k j, ¬ S k j → τ.1 k j = σ.1 k j) ∧ τ.2 = σ.2
theorem Fs.rf {S : Nat → Nat → Prop} {σ : Sg} : Fs S σ σ := ⟨fun _ _ _ => rfl, rfl⟩
theorem Fs.tr {S : Nat → Nat → Prop} {σ τ υ : Sg} (h : Fs S σ τ) (h2 : Fs S τ υ) : Fs S σ υ := ⟨fun k j hk => (h2.1 k j hk).trans (h.1 k j hk), h2.2.trans h.2⟩
theorem Fs.mo {S S' : Nat → Nat → Prop} {σ τ : Sg} (h : Fs S σ τ) (hs : ∀ k j, S k j → S' k j) : Fs S' σ τ := ⟨fun k j hk => h.1 k j (fun q => hk (hs k j q)), h.2⟩
theorem wI_a {σ : Sg} {k i x y : Nat} {v : Int32} : (wI σ k i v).1 x y = if x = k ∧ y = i then v else σ.1 x y := by
  by_cases hx : x = k
  · subst hx
    rw [wI_k]
    by_cases hy : y = i
    · subst hy; rw [upd_k, if_pos ⟨rfl, rfl⟩]
    · rw [upd_n hy, if_neg (fun q => hy q.2)]
  · rw [wI_n hx, if_neg (fun q => hx q.1)]
theorem Fs.wI {S : Nat → Nat → Prop} {σ τ : Sg} (h : Fs S σ τ) {k i : Nat} {v : Int32} (hk : S k i) : Fs S σ (wI τ k i v) := ⟨fun x y hx => by rw [wI_a, if_neg (fun q => hx (by rw [q.1, q.2]; exact hk))]; exact h.1 x y hx, h.2⟩
theorem Fr.fs {T : Nat → Prop} {S : Nat → Nat → Prop} {σ τ : Sg} (h : Fr T σ τ) (hs : ∀ k j, T k → S k j) : Fs S σ τ := ⟨fun k j hk => by rw [h.1 k (fun q => hk (hs k j q))], h.2⟩
/-- a whole row is as it was -/
theorem Fs.row {S : Nat → Nat → Prop} {σ τ : Sg} (h : Fs S σ τ) {k : Nat} (hk : ∀ j, ¬ S k j) : τ.1 k = σ.1 k := funext fun j => h.1 k j (hk j)
def segM (c ci : Nat → Int32) : Nat → Rp → Prop
  | _, [] => True
  | p, (k, x) :: r => c p = nI k ∧ ci p = nI x ∧ segM c ci (p + 1) r
noncomputable def BM (M : Nat) (p1 p2 : Int32) : Int32 × Int32 × Sg → Option ((Int32 × Int32 × Sg) ⊕ ((Sg) ⊕ (Sg))) := fun st => bX7_termOf_5 M p1 p2 st.1 st.2.1 st.2.2
section RUNM
variable {M : Nat} {p1 : Int32} {σ : Sg} {p e d k x : Nat}
theorem bm_push (hp : p < e) (he : e ≤ 840) (hd : d < 400) (hx : x ≤ 9999) (hc : σ.1 (M + 25) p = nI k) (hi : σ.1 (M + 26) p = nI x) (hk : k = 0 ∨ k = 1 ∧ x < 9) : BM M p1 (nI e) (nI d, nI p, σ) = some (.inl (nI (d + 1), nI (p + 1), wI σ (M + 29) d (if k = 0 then nI x else σ.1 (M + 28) x))) := by
  have hv : vin (nI d) 400 := vin_nI hd (by omega)
  unfold BM bX7_termOf_5
  dsimp only
  rw [if_neg (le_nI (by omega) (by omega) hp), if_pos (vin_nI (by omega) (by omega)), nI_clamp (n := p) (by omega), hc, hi]
  rcases hk with rfl | ⟨rfl, hx9⟩
  · rw [if_neg (show ¬ (2 : Int32) ≤ nI 0 by decide), if_pos (show nI 0 = 0 from rfl)]
    unfold jX7_termOf_58
    rw [if_pos hv, nI_clamp (n := d) (by omega)]
    unfold jX7_termOf_159
    dsimp only
    rw [nI_s, nI_s]
    rfl
  · rw [if_neg (show ¬ (2 : Int32) ≤ nI 1 by decide), if_neg (show ¬ nI 1 = 0 by decide), if_pos (vin_nI hx9 (by omega)), nI_clamp (n := x) (by omega)]
    unfold jX7_termOf_58
    rw [if_pos hv, nI_clamp (n := d) (by omega)]
    unfold jX7_termOf_159
    dsimp only
    rw [nI_s, nI_s]
    rfl
theorem bm_op (hp : p < e) (he : e ≤ 840) (hd : 2 ≤ d) (hd2 : d ≤ 400) (hc : σ.1 (M + 25) p = nI k) (hk : 2 ≤ k) (hk5 : k ≤ 5) (h0 : ¬ (k = 5 ∧ σ.1 (M + 29) (d - 1) = 0)) : BM M p1 (nI e) (nI d, nI p, σ) = some (.inl (nI (d - 1), nI (p + 1), wI σ (M + 29) (d - 2) (rop k (σ.1 (M + 29) (d - 2)) (σ.1 (M + 29) (d - 1))))) := by
  have hge : (2 : Int32) ≤ nI k := nI_le (a := 2) hk (by omega)
  have J : jX7_termOf_104 M p1 (nI e) (nI (d - 1)) (nI p) (nI k) (σ.1 (M + 29) (d - 2)) (σ.1 (M + 29) (d - 1)) σ = some (.inl (nI (d - 1), nI (p + 1), wI σ (M + 29) (d - 2) (rop k (σ.1 (M + 29) (d - 2)) (σ.1 (M + 29) (d - 1))))) := by
    have J2 : ∀ y, jX7_termOf_158 M p1 (nI e) (nI (d - 1)) (nI p) (M + 29) (nI (d - 2)) y σ = some (.inl (nI (d - 1), nI (p + 1), wI σ (M + 29) (d - 2) y)) := fun y => by
      unfold jX7_termOf_158
      rw [if_pos (vin_nI (by omega) (by omega)), nI_clamp (n := d - 2) (by omega)]
      unfold jX7_termOf_159
      dsimp only
      rw [nI_s]
    unfold jX7_termOf_104 rop
    rw [nI_p (by omega), show d - 1 - 1 = d - 2 by omega]
    rcases (show k = 2 ∨ k = 3 ∨ k = 4 ∨ k = 5 by omega) with rfl | rfl | rfl | rfl
    · exact J2 _
    · exact J2 _
    · exact J2 _
    · have hb : ¬ σ.1 (M + 29) (d - 1) = 0 := fun q => h0 ⟨rfl, q⟩
      rw [if_neg (show ¬ nI 5 = 2 by decide), if_neg (show ¬ nI 5 = 3 by decide), if_neg (show ¬ nI 5 = 4 by decide), if_pos hb]
      exact J2 _
  unfold BM bX7_termOf_5
  dsimp only
  rw [if_neg (le_nI (by omega) (by omega) hp), if_pos (vin_nI (by omega) (by omega)), nI_clamp (n := p) (by omega), hc, if_pos hge, nI_m1 (by omega), nI_p (by omega), if_pos (vin_nI (by omega) (by omega)), if_pos (vin_nI (by omega) (by omega)), nI_clamp (n := d - 1 - 1) (by omega), nI_clamp (n := d - 1) (by omega), show d - 1 - 1 = d - 2 by omega]
  by_cases h5 : k = 5
  · subst h5
    rw [if_pos (show nI 5 = 5 from rfl), if_neg (fun q => h0 ⟨rfl, q⟩)]
    exact J
  · rw [if_neg (show ¬ nI k = 5 from ne_nI (b := 5) (by omega) (by omega) h5)]
    exact J
theorem bm_div0 (hp : p < e) (he : e ≤ 840) (hd : 2 ≤ d) (hd2 : d ≤ 400) (hc : σ.1 (M + 25) p = nI 5) (h0 : σ.1 (M + 29) (d - 1) = 0) : BM M p1 (nI e) (nI d, nI p, σ) = some (.inr (.inl σ)) := by
  unfold BM bX7_termOf_5
  dsimp only
  rw [if_neg (le_nI (by omega) (by omega) hp), if_pos (vin_nI (by omega) (by omega)), nI_clamp (n := p) (by omega), hc, if_pos (show (2 : Int32) ≤ nI 5 by decide), nI_m1 (by omega), nI_p (by omega), if_pos (vin_nI (by omega) (by omega)), if_pos (vin_nI (by omega) (by omega)), nI_clamp (n := d - 1) (by omega), if_pos (show nI 5 = 5 from rfl), if_pos h0]
theorem bm_end : BM M p1 (nI e) (nI d, nI e, σ) = some (.inr (.inr σ)) := by
  unfold BM bX7_termOf_5
  dsimp only
  rw [if_pos (Int32.le_refl _)]
end RUNM
theorem runM {M : Nat} {p1 : Int32} {e : Nat} (he : e ≤ 840) : ∀ (r : Rp) (p : Nat) (st : List Int32) (d' : Nat) (σ : Sg), segM (σ.1 (M + 25)) (σ.1 (M + 26)) p r → rwf 400 r st.length d' → p + r.length ≤ e → SM (σ.1 (M + 29)) st →
    (∀ st', rpn (σ.1 (M + 28)) r st = some st' → st'.length = d' ∧ ∃ τ, Fr (s1 (M + 29)) σ τ ∧ SM (τ.1 (M + 29)) st' ∧ lp (BM M p1 (nI e)) (nI st.length, nI p, σ) = lp (BM M p1 (nI e)) (nI d', nI (p + r.length), τ)) ∧
    (rpn (σ.1 (M + 28)) r st = none → ∃ τ, Fr (s1 (M + 29)) σ τ ∧ lp (BM M p1 (nI e)) (nI st.length, nI p, σ) = some (.inl τ)) := by
  intro r
  induction r with
  | nil =>
    intro p st d' σ _ hw _ hm
    refine ⟨fun st' h => ?_, fun h => by cases h⟩
    cases h
    have hw : st.length = d' := hw
    exact ⟨hw, σ, Fr.rf, hm, by rw [← hw]; rfl⟩
  | cons q r ih =>
    obtain ⟨k, x⟩ := q
    intro p st d' σ hg hw hp hm
    obtain ⟨hc, hi, hg⟩ := hg
    obtain ⟨hx, hw⟩ := hw
    have hp : p + (r.length + 1) ≤ e := hp
    have next : ∀ (n : Nat) (y : Int32) (st2 : List Int32), n = st2.length → n < 400 → SM (σ.1 (M + 29)) st2 → lp (BM M p1 (nI e)) (nI st.length, nI p, σ) = lp (BM M p1 (nI e)) (nI (n + 1), nI (p + 1), wI σ (M + 29) n y) → rwf 400 r (n + 1) d' →
        (∀ st', rpn (σ.1 (M + 28)) r (y :: st2) = some st' → st'.length = d' ∧ ∃ τ, Fr (s1 (M + 29)) σ τ ∧ SM (τ.1 (M + 29)) st' ∧ lp (BM M p1 (nI e)) (nI st.length, nI p, σ) = lp (BM M p1 (nI e)) (nI d', nI (p + (r.length + 1)), τ)) ∧
        (rpn (σ.1 (M + 28)) r (y :: st2) = none → ∃ τ, Fr (s1 (M + 29)) σ τ ∧ lp (BM M p1 (nI e)) (nI st.length, nI p, σ) = some (.inl τ)) := by
      intro n y st2 hn hd hm2 e1 hr
      subst hn
      have o8 : (wI σ (M + 29) st2.length y).1 (M + 28) = σ.1 (M + 28) := wI_n (by omega)
      have o5 : (wI σ (M + 29) st2.length y).1 (M + 25) = σ.1 (M + 25) := wI_n (by omega)
      have o6 : (wI σ (M + 29) st2.length y).1 (M + 26) = σ.1 (M + 26) := wI_n (by omega)
      have hF : Fr (s1 (M + 29)) σ (wI σ (M + 29) st2.length y) := Fr.rf.wI rfl
      have := ih (p + 1) (y :: st2) d' (wI σ (M + 29) st2.length y) (by rw [o5, o6]; exact hg) hr (by omega) ⟨by rw [wI_k, upd_k], by rw [wI_k]; exact SM_u (Nat.le_refl _) hm2⟩
      rw [o8, show p + 1 + r.length = p + (r.length + 1) by omega] at this
      refine ⟨fun st' h => ?_, fun h => ?_⟩
      · obtain ⟨g1, τ, g2, g3, g4⟩ := this.1 st' h
        exact ⟨g1, τ, hF.tr g2, g3, e1.trans g4⟩
      · obtain ⟨τ, g2, g4⟩ := this.2 h
        exact ⟨τ, hF.tr g2, e1.trans g4⟩
    show (∀ st', rpn (σ.1 (M + 28)) ((k, x) :: r) st = some st' → st'.length = d' ∧ ∃ τ, Fr (s1 (M + 29)) σ τ ∧ SM (τ.1 (M + 29)) st' ∧ lp (BM M p1 (nI e)) (nI st.length, nI p, σ) = lp (BM M p1 (nI e)) (nI d', nI (p + (r.length + 1)), τ)) ∧ _
    rcases hw with ⟨rfl, hd, hr⟩ | ⟨rfl, hx9, hd, hr⟩ | ⟨hk2, hk5, hx0, hd2, hd4, hr⟩
    · exact next st.length (nI x) st rfl hd hm (lp_l (bm_push (by omega) he hd hx hc hi (Or.inl rfl))) hr
    · exact next st.length (σ.1 (M + 28) x) st rfl hd hm (lp_l (bm_push (by omega) he hd hx hc hi (Or.inr ⟨rfl, hx9⟩))) hr
    · match st, hd2, hd4, hr, hm, next with
      | b :: a :: st, hd2, hd4, hr, hm, next =>
        obtain ⟨hb1, ha1⟩ := SM_0 hm
        have hl : (b :: a :: st).length = st.length + 2 := rfl
        have er : rpn (σ.1 (M + 28)) ((k, x) :: r) (b :: a :: st) = if k = 5 ∧ b = 0 then none else rpn (σ.1 (M + 28)) r (rop k a b :: st) := by
          show (if k = 0 then _ else if k = 1 then _ else _) = _
          rw [if_neg (show ¬ k = 0 by omega), if_neg (show ¬ k = 1 by omega)]
        rw [er]
        by_cases h5 : k = 5 ∧ b = 0
        · rw [if_pos h5]
          refine ⟨fun st' h => (by cases h), fun _ => ⟨σ, Fr.rf, ?_⟩⟩
          exact lp_r (bm_div0 (d := (b :: a :: st).length) (by omega) he (by rw [hl]; omega) hd4 (by rw [hc, h5.1]) (by rw [hl]; exact hb1.trans h5.2))
        · rw [if_neg h5]
          have hbo := bm_op (M := M) (p1 := p1) (d := (b :: a :: st).length) (p := p) (e := e) (σ := σ) (by omega) he (by rw [hl]; omega) hd4 hc hk2 hk5 (by rw [hl]; intro q; exact h5 ⟨q.1, hb1.symm.trans q.2⟩)
          rw [hl, show st.length + 2 - 1 = st.length + 1 by omega, show st.length + 2 - 2 = st.length by omega, hb1, ha1] at hbo
          rw [hl] at hd4
          exact next st.length (rop k a b) st rfl (by omega) hm.2.2 (lp_l hbo) (by rw [hl, show st.length + 2 - 1 = st.length + 1 by omega] at hr; exact hr)
theorem termOf_v {M p : Nat} {r : Rp} {σ : Sg} (hg : segM (σ.1 (M + 25)) (σ.1 (M + 26)) p r) (hw : rwf 20 r 0 1) (hp : p + r.length ≤ 840) : ∃ τ, Fr (s1 (M + 29)) σ τ ∧ ((∃ x, rpn (σ.1 (M + 28)) r [] = some [x] ∧ fX7_termOf M (nI p) (nI (p + r.length)) σ = some (x, τ)) ∨ (rpn (σ.1 (M + 28)) r [] = none ∧ fX7_termOf M (nI p) (nI (p + r.length)) σ = some (0, wI τ M 46 1))) := by
  have h := runM (p1 := nI p) hp r p [] 1 σ hg (rwf_D (by omega) hw) (Nat.le_refl _) trivial
  have e0 : fX7_termOf M (nI p) (nI (p + r.length)) σ = (lp (BM M (nI p) (nI (p + r.length))) (nI 0, nI p, σ)).bind (fun o24 => Sum.elim (fun σ25 => (let σ26 := wI σ25 M 46 (1 : Int32); some ((0 : Int32), σ26))) (fun o24_ => (fun σ27 => some ((σ27.1 (M + 29) 0), σ27)) o24_) o24) := rfl
  cases hr : rpn (σ.1 (M + 28)) r [] with
  | none =>
    obtain ⟨τ, h1, h2⟩ := h.2 hr
    have h2 : lp (BM M (nI p) (nI (p + r.length))) (nI 0, nI p, σ) = some (.inl τ) := h2
    exact ⟨τ, h1, Or.inr ⟨rfl, by rw [e0, h2]; rfl⟩⟩
  | some st' =>
    obtain ⟨hl, τ, h1, h2, h3⟩ := h.1 st' hr
    have h3 : lp (BM M (nI p) (nI (p + r.length))) (nI 0, nI p, σ) = lp (BM M (nI p) (nI (p + r.length))) (nI 1, nI (p + r.length), τ) := h3
    match st', hl, h2 with
    | [x], _, h2 =>
      have hx : τ.1 (M + 29) 0 = x := h2.1
      exact ⟨τ, h1, Or.inl ⟨x, rfl, by rw [e0, h3, lp_r bm_end, ← hx]; rfl⟩⟩
