section CTELL2
variable {t L p s : Nat} {σ τ υ : Sg} {C : Nat → Nat} {X Y : TS}
/-- the class's text but for where it reads -/
def CTY (σ : Sg) (t : Nat) (C : Nat → Nat) (L : Nat) (X : TS) (s : Nat) : Prop :=
  LAc σ C L X.la ∧ σ.1 26 3 = 0 ∧ (σ.1 t 0 = nI X.n ∧ X.n ≤ 8) ∧ (σ.1 t 1 = nI X.m ∧ X.m ≤ 6) ∧ σ.1 t 2 = nI (mk8 X.bo) ∧ σ.1 t 3 = nI X.sd ∧ (∀ h, h < X.n → σ.2.1 (t + 1) h = lN (X.nm h) ∧ X.nm h < 2 ^ 63) ∧ (∀ h, h < X.n → σ.1 (t + 2) h = nI (X.go h) ∧ σ.1 (t + 3) h = nI (X.co h) ∧ σ.1 (t + 4) h = nI (X.tp h)) ∧ (∀ e, e < X.m → σ.1 (t + 5) e = X.dr e ∧ σ.1 (t + 6) e = X.bx e) ∧ ∀ k, k < 4 → ∃ q, σ.1 (t + 9) k = nI q ∧ (∀ c', (∀ j, j < s → c' j = σ.1 (t + 8) j) → lawC c' q (X.lb k) (X.lf k)) ∧ lawE q (X.lb k) (X.lf k) ≤ s
theorem CTX.y (h : CTX σ t C L X p s) : CTY σ t C L X s := h.2
/-- all but the fault that waits is as it was -/
theorem CTY.la {la : Option (Nat × Nat)} (h : CTY σ t C L X s) (hF : Fs (fun k j => k = 26 ∧ ¬ j = 3) σ τ) (hl : LAc τ C L la) (ht : t = 2 ∨ t = 14) : CTY τ t C L (mkT X.n X.m X.sd X.nm X.go X.co X.tp X.dr X.bx X.bo X.lb X.lf la) s := by
  obtain ⟨h2, h3, h4, h5, h6, h7, h8, h9, h10, h11⟩ := h
  have e : ∀ k j, k ≠ 26 → τ.1 k j = σ.1 k j := fun k j hk => hF.1 _ _ (fun z => hk z.1)
  refine ⟨hl, (hF.1 _ _ (by omega)).trans h3, ⟨(e _ _ (by omega)).trans h4.1, h4.2⟩, ⟨(e _ _ (by omega)).trans h5.1, h5.2⟩, (e _ _ (by omega)).trans h6, (e _ _ (by omega)).trans h7, fun h hh => by rw [hF.2]; exact h8 h hh, fun h hh => ?_, fun x hx => ?_, fun k hk => ?_⟩
  · rw [e _ _ (by omega), e _ _ (by omega), e _ _ (by omega)]; exact h9 h hh
  · rw [e _ _ (by omega), e _ _ (by omega)]; exact h10 x hx
  · obtain ⟨q, a1, a2, a3⟩ := h11 k hk
    exact ⟨q, (e _ _ (by omega)).trans a1, fun c' hc' => a2 c' (fun j hj => (hc' j hj).trans (e _ _ (by omega))), a3⟩
theorem CS.m1 {S : Nat → Nat → Prop} (h : CS σ t C L p s) (hF : Fs S σ τ) (hS : ∀ k j, S k j → (t ≤ k ∧ k ≤ t + 6) ∨ k = 26 ∧ ¬ j = 1) (ht : t = 2 ∨ t = 14) : CS τ t C L p s := h.mv hF (fun k j a1 a2 z => by have := hS _ _ z; omega) ((hF.1 _ _ (fun z => by have := hS _ _ z; omega)).trans h.2.1) h.2.2.2.1 h.2.2.2.2.1 ((hF.1 _ _ (fun z => by have := hS _ _ z; omega)).trans h.2.2.2.2.2.1) h.2.2.2.2.2.2
theorem F26 {q : Nat} (h : τ = wI σ 26 1 (nI q)) : Fs (fun k j => k = 26 ∧ j = 1) σ τ := by rw [h]; exact Fs.rf.wI ⟨rfl, rfl⟩
/-- the rest of a tell: nothing but tokens -/
theorem c_toks (ht : t = 2 ∨ t = 14) (hC : CS τ t C L p s) (hY : CTY τ t C L Y s) (hF : FJ (SBt t) (fun k => k = t + 1) σ τ) {k : Nat} (hk : k < 31) {l : List Nat} {f : Int32 × Sg → Option (Int32 × Sg)} (hf : ∀ q υ, CS υ t C L q s → CTY υ t C L Y s → FJ (SBt t) (fun k => k = t + 1) σ υ → ∃ r τ, f (1, υ) = some (r, τ) ∧ CR1 σ τ t C L r (mapT (tksS (kdT C L) l q) Y)) (hf0 : ∀ υ, f (0, υ) = some (0, υ)) : ∃ r υ, ((fX1_take 26 (nI k) τ).bind f) = some (r, υ) ∧ CR1 σ υ t C L r (mapT (tksS (kdT C L) (k :: l) p) Y) := by
  obtain ⟨r1, τ1, a1, a2, a3⟩ := c_tk ht hC hk
  rw [a1, Option.bind_some]
  show ∃ r τ, _ ∧ CR1 σ τ t C L r (mapT (match tkS (kdT C L) k p with
    | .error e => .error e
    | .ok q => tksS (kdT C L) l q) Y)
  have f1 := hF.tr (a2.mo (fun _ _ => SB_t)).fj
  cases q1 : tkS (kdT C L) k p with
  | error e =>
    rw [q1] at a3
    obtain ⟨rfl, a4⟩ := a3
    exact ⟨0, τ1, hf0 τ1, f1, rfl, a4⟩
  | ok p1 =>
    rw [q1] at a3
    obtain ⟨rfl, e1, a4, C1⟩ := a3
    have hl : LAc τ1 C L Y.la := by
      have := hY.1
      unfold LAc at this ⊢
      rw [(F26 a4).1 26 5 (by omega), (F26 a4).1 26 6 (by omega)]; exact this
    exact hf p1 τ1 C1 (hY.la ((F26 a4).mo (fun k j q => by omega)) hl ht) f1
theorem c_end (hC : CS τ t C L p s) (hY : CTY τ t C L Y s) (hF : FJ (SBt t) (fun k => k = t + 1) σ τ) : CR1 σ τ t C L 1 (mapT (tksS (kdT C L) [] p) Y) := ⟨hF, rfl, s, hC, hY⟩
theorem c_both2 (ht : t = 2 ∨ t = 14) (h : CTX σ t C L X p s) : ∃ r τ, fX1_readBoth 26 σ = some (r, τ) ∧ CR1 σ τ t C L r (mapT (tksS (kdT C L) [2, 20, 22] p) (boX (vlV C L) X p)) := by
  unfold fX1_readBoth
  obtain ⟨r1, τ1, a1, a2, a3⟩ := c_tk ht h.1 (k := 2) (by omega)
  have a1 : fX1_take 26 2 σ = some (r1, τ1) := a1
  rw [a1, Option.bind_some]
  dsimp only
  show ∃ r τ, _ ∧ CR1 σ τ t C L r (mapT (match tkS (kdT C L) 2 p with
    | .error e => .error e
    | .ok q => tksS (kdT C L) [20, 22] q) (boX (vlV C L) X p))
  have f1 : FJ (SBt t) (fun k => k = t + 1) σ τ1 := (a2.mo (fun _ _ => SB_t)).fj
  cases q1 : tkS (kdT C L) 2 p with
  | error e =>
    rw [q1] at a3
    rw [a3.1, if_pos rfl]
    exact ⟨0, τ1, rfl, f1, rfl, a3.2⟩
  | ok p1 =>
    rw [q1] at a3
    obtain ⟨ra, e1, a4, C1⟩ := a3
    rw [ra, if_neg one0]
    have T1 : CTX τ1 t C L X p1 s := h.fs C1 (F26 a4) (fun k j q => by omega) ht
    obtain ⟨r2, τ2, b1, b2, b3, b4, b5⟩ := c_house ht C1 T1.2.1 T1.2.2.2.1.2 T1.2.2.2.1.1 T1.2.2.2.2.2.2.2.1
    rw [b1, Option.bind_some]
    dsimp only
    have f2 := f1.tr (b2.mo (fun k j q => by unfold SBt; omega)).fj
    have j55 : ∀ υ, CS υ t C L p1 s → FJ (SBt t) (fun k => k = t + 1) σ υ → (kdT C L p1 = 20 → CTY υ t C L (boX (vlV C L) X p) s) → ∃ r τ, jX1_readBoth_55 26 υ = some (r, τ) ∧ CR1 σ τ t C L r (mapT (tksS (kdT C L) [20, 22] p1) (boX (vlV C L) X p)) := by
      intro υ hC hF hY
      unfold jX1_readBoth_55
      by_cases k20 : kdT C L p1 = 20
      · refine c_toks ht hC (hY k20) hF (k := 20) (by omega) (fun q υ hC hY hF => ?_) (fun υ => rfl)
        refine c_toks ht hC hY hF (k := 22) (by omega) (fun q υ hC hY hF => ⟨1, υ, rfl, c_end hC hY hF⟩) (fun υ => rfl)
      · obtain ⟨r3, τ3, d1, d2, d3⟩ := c_tk ht hC (k := 20) (by omega)
        have d1 : fX1_take 26 20 υ = some (r3, τ3) := d1
        have e : tkS (kdT C L) 20 p1 = .error (1, p1) := by unfold tkS; rw [if_neg k20]
        rw [e] at d3
        rw [d1, Option.bind_some]
        dsimp only
        rw [d3.1, if_pos rfl]
        show ∃ r τ, _ ∧ CR1 σ τ t C L r (mapT (match tkS (kdT C L) 20 p1 with
          | .error e => .error e
          | .ok q => tksS (kdT C L) [22] q) (boX (vlV C L) X p))
        rw [e]
        exact ⟨0, τ3, rfl, hF.tr (d2.mo (fun _ _ => SB_t)).fj, rfl, d3.2⟩
    by_cases k20 : kdT C L p1 = 20
    · obtain ⟨b6, b7⟩ := b4 k20
      have Y2 := T1.y.la (b2.mo (fun k j q => by omega)) b7 ht
      rw [e1] at b6 b7 Y2
      rcases hoI_f X.nm X.n (vlV C L (p + 1)) T1.2.2.2.1.2 with ⟨w1, w2⟩ | ⟨w, w1, w2, w3⟩
      · rw [if_pos (show r2 = -1 by rw [b6, w1])]
        refine j55 τ2 b3 f2 (fun _ => ?_)
        unfold boX
        rw [if_pos w1]
        rw [decide_eq_true w1] at Y2 ⊢
        rw [show (decide (¬ hoI X.nm X.n (vlV C L (p + 1)) = -1) && X.bo (hoI X.nm X.n (vlV C L (p + 1))).toNatClampNeg) = false from by rw [decide_eq_false (fun z => z w1)]; rfl, nt_f]
        exact Y2
      · have hne : ¬ hoI X.nm X.n (vlV C L (p + 1)) = -1 := by
          rw [w3]
          intro y
          have : (0 : Int32) ≤ nI w := nI_n1 (by have := T1.2.2.2.1.2; omega)
          rw [y] at this
          exact absurd this (by decide)
        have hw8 : w < 8 := by have := T1.2.2.2.1.2; omega
        rw [if_neg (show ¬ r2 = -1 by rw [b6]; exact hne), b3.2.2.1, show τ2.1 t 2 = nI (mk8 X.bo) from Y2.2.2.2.2.1, b6, w3, fX6_bit_v _ hw8, Option.bind_some]
        dsimp only
        rw [decide_eq_false hne, nt_f] at Y2
        -- behind the note, the bit is set
        have j40 : ∀ υ la, CS υ t C L p1 s → FJ (SBt t) (fun k => k = t + 1) σ υ → CTY υ t C L (mkT X.n X.m X.sd X.nm X.go X.co X.tp X.dr X.bx X.bo X.lb X.lf la) s → la = (boX (vlV C L) X p).la → ∃ r τ, jX1_readBoth_40 26 (nI w) υ = some (r, τ) ∧ CR1 σ τ t C L r (mapT (tksS (kdT C L) [20, 22] p1) (boX (vlV C L) X p)) := by
          intro υ la hC hF hY hla
          unfold jX1_readBoth_40
          dsimp only
          rw [hC.2.2.1, show υ.1 t 2 = nI (mk8 X.bo) from hY.2.2.2.2.1, mk8_set _ hw8]
          have hF3 : Fs (fun k j => k = t ∧ j = 2) υ (wI υ t 2 (nI (mk8 (fset X.bo w true)))) := Fs.rf.wI ⟨rfl, rfl⟩
          have v2 : (wI υ t 2 (nI (mk8 (fset X.bo w true)))).1 t 2 = nI (mk8 (fset X.bo w true)) := by rw [wI_k, upd_k]
          generalize wI υ t 2 (nI (mk8 (fset X.bo w true))) = υ2 at hF3 v2
          refine j55 υ2 (hC.m1 hF3 (fun k j q => by omega) ht) (hF.tr (hF3.mo (fun k j q => by unfold SBt; omega)).fj) (fun _ => ?_)
          obtain ⟨h2, h3, h4, h5, h6, h7, h8, h9, h10, h11⟩ := hY
          have e : ∀ k j, ¬ (k = t ∧ j = 2) → υ2.1 k j = υ.1 k j := hF3.1
          refine ⟨?_, (e _ _ (by omega)).trans h3, ⟨(e _ _ (by omega)).trans h4.1, h4.2⟩, ⟨(e _ _ (by omega)).trans h5.1, h5.2⟩, ?_, (e _ _ (by omega)).trans h7, fun h hh => by rw [hF3.2]; exact h8 h hh, fun h hh => ?_, fun x hx => ?_, fun k hk => ?_⟩
          · rw [← hla]
            have h2 : LAc υ C L la := h2
            unfold LAc at h2 ⊢
            rw [e 26 5 (by omega), e 26 6 (by omega)]; exact h2
          · rw [v2]
            show nI (mk8 (fset X.bo w true)) = nI (mk8 (if hoI X.nm X.n (vlV C L (p + 1)) = -1 then X.bo else fset X.bo (hoI X.nm X.n (vlV C L (p + 1))).toNatClampNeg true))
            rw [if_neg hne, w3, nI_clamp (by omega)]
          · rw [e _ _ (by omega), e _ _ (by omega), e _ _ (by omega)]; exact h9 h hh
          · rw [e _ _ (by omega), e _ _ (by omega)]; exact h10 x hx
          · obtain ⟨q, x1, x2, x3⟩ := h11 k hk
            exact ⟨q, (e _ _ (by omega)).trans x1, fun c' hc' => x2 c' (fun j hj => (hc' j hj).trans (e _ _ (by omega))), x3⟩
        have ela : ∀ bb : Bool, X.bo w = bb → (boX (vlV C L) X p).la = nt X.la bb 3 (p + 1) := fun bb hb => by
          show nt (nt X.la (decide (hoI X.nm X.n (vlV C L (p + 1)) = -1)) 4 (p + 1)) (decide (¬ hoI X.nm X.n (vlV C L (p + 1)) = -1) && X.bo (hoI X.nm X.n (vlV C L (p + 1))).toNatClampNeg) 3 (p + 1) = _
          rw [decide_eq_false hne, nt_f, decide_eq_true hne, Bool.true_and, w3, nI_clamp (by omega), hb]
        cases hb : X.bo w
        · rw [if_neg (show ¬ nI (b2n false) = 1 by decide)]
          exact j40 τ2 X.la b3 f2 Y2 (by rw [ela false hb, nt_f])
        · rw [if_pos (show nI (b2n true) = 1 by decide)]
          obtain ⟨τ3, c1, c2, c3⟩ := c_note b3 Y2.1 (k := 3) (by omega)
          have c1 : fX1_note 26 3 τ2 = some τ3 := c1
          rw [c1, Option.bind_some]
          rw [e1] at c3
          exact j40 τ3 _ (b3.n5 ht c2) (f2.tr (c2.mo (fun k j q => by unfold SBt; omega)).fj) (Y2.la (c2.mo (fun k j q => by omega)) c3 ht) (ela true hb).symm
    · rw [if_pos (b5 k20)]
      exact j55 τ2 b3 f2 (fun z => absurd z k20)
theorem c_law2 (ht : t = 2 ∨ t = 14) (h : CTX σ t C L X p s) {k : Nat} (hk : k < 4) : ∃ r τ, fX1_readLaw 26 (nI k) σ = some (r, τ) ∧ CR1 σ τ t C L r (match lawS (kdT C L) (vlV C L) k p with
    | .error e => .error e
    | .ok (q, bs, f) => .ok (q, laX X k bs f)) := by
  obtain ⟨r, τ, a1, a2, a3⟩ := c_law ht h.1 hk
  refine ⟨r, τ, a1, (a2.mo (fun k j q => by unfold SBl SB at q; unfold SBt; omega)).fj, ?_⟩
  cases hq : lawS (kdT C L) (vlV C L) k p with
  | error e => rw [hq] at a3; exact a3
  | ok e =>
    obtain ⟨q, bs, f⟩ := e
    rw [hq] at a3
    obtain ⟨b1, b2, b3, b4, b5, b6⟩ := a3
    have e : ∀ x j, ¬ SBl t k x j → τ.1 x j = σ.1 x j := a2.1
    obtain ⟨h1, h2, h3, h4, h5, h6, h7, h8, h9, h10, h11⟩ := h
    refine ⟨b1, _, b2, ?_, b6.trans h3, ⟨(e _ _ (by unfold SBl SB; omega)).trans h4.1, h4.2⟩, ⟨(e _ _ (by unfold SBl SB; omega)).trans h5.1, h5.2⟩, (e _ _ (by unfold SBl SB; omega)).trans h6, (e _ _ (by unfold SBl SB; omega)).trans h7, fun h hh => by rw [a2.2]; exact h8 h hh, fun h hh => ?_, fun x hx => ?_, fun j hj => ?_⟩
    · show LAc τ C L X.la
      unfold LAc at h2 ⊢
      rw [e 26 5 (by unfold SBl SB; omega), e 26 6 (by unfold SBl SB; omega)]; exact h2
    · rw [e _ _ (by unfold SBl SB; omega), e _ _ (by unfold SBl SB; omega), e _ _ (by unfold SBl SB; omega)]; exact h9 h hh
    · rw [e _ _ (by unfold SBl SB; omega), e _ _ (by unfold SBl SB; omega)]; exact h10 x hx
    · by_cases z : j = k
      · subst z
        refine ⟨s, b5, fun c' hc' => ?_, ?_⟩
        · show lawC c' s (if j = j then bs else X.lb j) (if j = j then f else X.lf j)
          rw [if_pos rfl, if_pos rfl]
          exact (lawC_of (segC_c b3 (fun i c1 c2 => hc' i c2))).1
        · show lawE s (if j = j then bs else X.lb j) (if j = j then f else X.lf j) ≤ _
          rw [if_pos rfl, if_pos rfl, ← (lawC_of b3).2]
          exact Nat.le_refl _
      · obtain ⟨y, x1, x2, x3⟩ := h11 j hj
        refine ⟨y, (e _ _ (by unfold SBl SB; omega)).trans x1, fun c' hc' => ?_, ?_⟩
        · show lawC c' y (if j = k then bs else X.lb j) (if j = k then f else X.lf j)
          rw [if_neg z, if_neg z]
          exact x2 c' (fun i hi => (hc' i (by omega)).trans (b4 i hi))
        · show lawE y (if j = k then bs else X.lb j) (if j = k then f else X.lf j) ≤ _
          rw [if_neg z, if_neg z]; omega
end CTELL2
