section CTELL3
variable {t L p s : Nat} {σ τ υ : Sg} {C : Nat → Nat} {X Y : TS}
/-- a token that does not come -/
theorem c_no (ht : t = 2 ∨ t = 14) (hC : CS τ t C L p s) (hF : FJ (SBt t) (fun k => k = t + 1) σ τ) {k : Nat} (hk : k < 31) (hn : ¬ kdT C L p = k) {l : List Nat} {f : Int32 × Sg → Option (Int32 × Sg)} (hf0 : ∀ υ, f (0, υ) = some (0, υ)) : ∃ r υ, ((fX1_take 26 (nI k) τ).bind f) = some (r, υ) ∧ CR1 σ υ t C L r (mapT (tksS (kdT C L) (k :: l) p) Y) := by
  obtain ⟨r1, τ1, a1, a2, a3⟩ := c_tk ht hC hk
  have e : tkS (kdT C L) k p = .error (1, p) := by unfold tkS; rw [if_neg hn]
  rw [e] at a3
  rw [a1, Option.bind_some, a3.1]
  show ∃ r τ, _ ∧ CR1 σ τ t C L r (mapT (match tkS (kdT C L) k p with
    | .error e => .error e
    | .ok q => tksS (kdT C L) l q) Y)
  rw [e]
  exact ⟨0, τ1, hf0 τ1, hF.tr (a2.mo (fun _ _ => SB_t)).fj, rfl, a3.2⟩
/-- behind the told nothing counts -/
theorem CTY.bey {S : Nat → Nat → Prop} (h : CTY σ t C L X s) (hF : Fs S σ τ) (hS : ∀ k j, S k j → (k = t + 5 ∨ k = t + 6) ∧ X.m ≤ j ∨ (k = t + 2 ∨ k = t + 3 ∨ k = t + 4) ∧ X.n ≤ j) (ht : t = 2 ∨ t = 14) : CTY τ t C L X s := by
  obtain ⟨h2, h3, h4, h5, h6, h7, h8, h9, h10, h11⟩ := h
  have e : ∀ k j, ¬ ((k = t + 5 ∨ k = t + 6) ∧ X.m ≤ j ∨ (k = t + 2 ∨ k = t + 3 ∨ k = t + 4) ∧ X.n ≤ j) → τ.1 k j = σ.1 k j := fun k j hk => hF.1 _ _ (fun z => hk (hS _ _ z))
  refine ⟨?_, (e _ _ (by omega)).trans h3, ⟨(e _ _ (by omega)).trans h4.1, h4.2⟩, ⟨(e _ _ (by omega)).trans h5.1, h5.2⟩, (e _ _ (by omega)).trans h6, (e _ _ (by omega)).trans h7, fun h hh => by rw [hF.2]; exact h8 h hh, fun h hh => ?_, fun x hx => ?_, fun k hk => ?_⟩
  · unfold LAc at h2 ⊢
    rw [e 26 5 (by omega), e 26 6 (by omega)]; exact h2
  · rw [e _ _ (by omega), e _ _ (by omega), e _ _ (by omega)]; exact h9 h hh
  · rw [e _ _ (by omega), e _ _ (by omega)]; exact h10 x hx
  · obtain ⟨q, a1, a2, a3⟩ := h11 k hk
    exact ⟨q, (e _ _ (by omega)).trans a1, fun c' hc' => a2 c' (fun j hj => (hc' j hj).trans (e _ _ (by omega))), a3⟩
theorem c_spare (ht : t = 2 ∨ t = 14) (h : CTX σ t C L X p s) (hm : ¬ X.m = 6) : ∃ r τ, fX1_readSpare 26 σ = some (r, τ) ∧ CR1 σ τ t C L r (mapT (tksS (kdT C L) [1, 20, 20, 22] p) (spX (vlV C L) X p)) := by
  have hm6 := h.2.2.2.2.1.2
  unfold fX1_readSpare
  rw [h.1.2.2.1, h.2.2.2.2.1.1, if_pos (Int32.not_le.mp (show ¬ (6 : Int32) ≤ nI X.m from le_nI (a := 6) (by omega) (by omega) (by omega)))]
  dsimp only
  obtain ⟨r1, τ1, a1, a2, a3⟩ := c_tk ht h.1 (k := 1) (by omega)
  have a1 : fX1_take 26 1 σ = some (r1, τ1) := a1
  rw [a1, Option.bind_some]
  dsimp only
  show ∃ r τ, _ ∧ CR1 σ τ t C L r (mapT (match tkS (kdT C L) 1 p with
    | .error e => .error e
    | .ok q => tksS (kdT C L) [20, 20, 22] q) (spX (vlV C L) X p))
  have f1 : FJ (SBt t) (fun k => k = t + 1) σ τ1 := (a2.mo (fun _ _ => SB_t)).fj
  cases q1 : tkS (kdT C L) 1 p with
  | error e =>
    rw [q1] at a3
    rw [a3.1, if_pos rfl]
    exact ⟨0, τ1, rfl, f1, rfl, a3.2⟩
  | ok p1 =>
    rw [q1] at a3
    obtain ⟨ra, e1, a4, C1⟩ := a3
    rw [ra, if_neg one0]
    have T1 : CTX τ1 t C L X p1 s := h.fs C1 (F26 a4) (fun k j q => by omega) ht
    obtain ⟨r2, τ2, b1, b2, b3, b4, b5⟩ := c_house ht C1 T1.2.1 T1.2.2.2.1.2 T1.2.2.2.1.1 T1.2.2.2.2.2.2.2.1
    rw [b1, Option.bind_some]
    dsimp only
    rw [C1.2.2.1]
    simp (disch := omega) only [vif, nI_clamp]
    have f2 := f1.tr (b2.mo (fun k j q => by unfold SBt; omega)).fj
    have hF3 : Fs (fun k j => k = t + 5 ∧ j = X.m) τ2 (wI τ2 (t + 5) X.m r2) := Fs.rf.wI ⟨rfl, rfl⟩
    have v5 : (wI τ2 (t + 5) X.m r2).1 (t + 5) X.m = r2 := by rw [wI_k, upd_k]
    generalize wI τ2 (t + 5) X.m r2 = τ3 at hF3 v5
    have C3 : CS τ3 t C L p1 s := b3.m1 hF3 (fun k j q => by omega) ht
    have f3 := f2.tr (hF3.mo (fun k j q => by unfold SBt; omega)).fj
    by_cases k20 : kdT C L p1 = 20
    · obtain ⟨b6, b7⟩ := b4 k20
      have Y2 := T1.y.la (b2.mo (fun k j q => by omega)) b7 ht
      have Y3 := Y2.bey hF3 (fun k j q => Or.inl ⟨by omega, by show X.m ≤ j; omega⟩) ht
      obtain ⟨r4, τ4, c1, c2, c3⟩ := c_tk ht C3 (k := 20) (by omega)
      have c1 : fX1_take 26 20 τ3 = some (r4, τ4) := c1
      rw [c1, Option.bind_some]
      dsimp only
      show ∃ r τ, _ ∧ CR1 σ τ t C L r (mapT (match tkS (kdT C L) 20 p1 with
        | .error e => .error e
        | .ok q => tksS (kdT C L) [20, 22] q) (spX (vlV C L) X p))
      have f4 := f3.tr (c2.mo (fun _ _ => SB_t)).fj
      cases q2 : tkS (kdT C L) 20 p1 with
      | error e =>
        rw [q2] at c3
        rw [c3.1, if_pos rfl]
        exact ⟨0, τ4, rfl, f4, rfl, c3.2⟩
      | ok p2 =>
        rw [q2] at c3
        obtain ⟨rc, e2, c4, C4⟩ := c3
        rw [rc, if_neg one0]
        have l4 : LAc τ4 C L (nt X.la (decide (hoI X.nm X.n (vlV C L p1) = -1)) 4 p1) := by
          have l3 : LAc τ3 C L (nt X.la (decide (hoI X.nm X.n (vlV C L p1) = -1)) 4 p1) := Y3.1
          unfold LAc at l3 ⊢
          rw [(F26 c4).1 26 5 (by omega), (F26 c4).1 26 6 (by omega)]; exact l3
        have Y4 := Y3.la ((F26 c4).mo (fun k j q => by omega)) l4 ht
        have v5' : τ4.1 (t + 5) X.m = r2 := ((F26 c4).1 _ _ (by omega)).trans v5
        obtain ⟨r5, τ5, d1, d2, d3, d4, d5⟩ := c_house ht C4 l4 (n := X.n) (nm := X.nm) T1.2.2.2.1.2 Y4.2.2.1.1 Y4.2.2.2.2.2.2.1
        rw [d1, Option.bind_some]
        dsimp only
        rw [C4.2.2.1]
        have f5 := f4.tr (d2.mo (fun k j q => by unfold SBt; omega)).fj
        have hF6 : Fs (fun k j => k = t + 6 ∧ j = X.m) τ5 (wI τ5 (t + 6) X.m r5) := Fs.rf.wI ⟨rfl, rfl⟩
        have v6 : (wI τ5 (t + 6) X.m r5).1 (t + 6) X.m = r5 := by rw [wI_k, upd_k]
        have v5'' : (wI τ5 (t + 6) X.m r5).1 (t + 5) X.m = r2 := by rw [wI_n (by omega), d2.1 _ _ (by omega)]; exact v5'
        generalize wI τ5 (t + 6) X.m r5 = τ6 at hF6 v6 v5''
        have C6 : CS τ6 t C L p2 s := d3.m1 hF6 (fun k j q => by omega) ht
        have f6 := f5.tr (hF6.mo (fun k j q => by unfold SBt; omega)).fj
        have e61 : τ6.1 t 1 = nI X.m := (hF6.1 _ _ (by omega)).trans ((d2.1 _ _ (by omega)).trans Y4.2.2.2.1.1)
        rw [C6.2.2.1, e61, nI_s]
        have hF7 : Fs (fun k j => k = t ∧ j = 1) τ6 (wI τ6 t 1 (nI (X.m + 1))) := Fs.rf.wI ⟨rfl, rfl⟩
        have v1 : (wI τ6 t 1 (nI (X.m + 1))).1 t 1 = nI (X.m + 1) := by rw [wI_k, upd_k]
        generalize wI τ6 t 1 (nI (X.m + 1)) = τ7 at hF7 v1
        have C7 : CS τ7 t C L p2 s := C6.m1 hF7 (fun k j q => by omega) ht
        have f7 := f6.tr (hF7.mo (fun k j q => by unfold SBt; omega)).fj
        by_cases k20' : kdT C L p2 = 20
        · obtain ⟨d6, d7⟩ := d4 k20'
          have Y5 := Y4.la (d2.mo (fun k j q => by omega)) d7 ht
          have Y6 := Y5.bey hF6 (fun k j q => Or.inl ⟨by omega, by show X.m ≤ j; omega⟩) ht
          have Y7 : CTY τ7 t C L (spX (vlV C L) X p) s := by
            obtain ⟨h2, h3, h4, h5, h6, h7, h8, h9, h10, h11⟩ := Y6
            have e : ∀ k j, ¬ (k = t ∧ j = 1) → τ7.1 k j = τ6.1 k j := hF7.1
            refine ⟨?_, (e _ _ (by omega)).trans h3, ⟨(e _ _ (by omega)).trans h4.1, h4.2⟩, ⟨v1, by show X.m + 1 ≤ 6; omega⟩, (e _ _ (by omega)).trans h6, (e _ _ (by omega)).trans h7, fun h hh => by rw [hF7.2]; exact h8 h hh, fun h hh => ?_, fun x hx => ?_, fun k hk => ?_⟩
            · have h2 : LAc τ6 C L (nt (nt X.la (decide (hoI X.nm X.n (vlV C L p1) = -1)) 4 p1) (decide (hoI X.nm X.n (vlV C L p2) = -1)) 4 p2) := h2
              show LAc τ7 C L (nt (nt X.la (decide (hoI X.nm X.n (vlV C L (p + 1)) = -1)) 4 (p + 1)) (decide (hoI X.nm X.n (vlV C L (p + 2)) = -1)) 4 (p + 2))
              rw [show p + 2 = p2 by omega, ← e1]
              unfold LAc at h2 ⊢
              rw [e 26 5 (by omega), e 26 6 (by omega)]; exact h2
            · rw [e _ _ (by omega), e _ _ (by omega), e _ _ (by omega)]; exact h9 h hh
            · rw [e _ _ (by omega), e _ _ (by omega)]
              show τ6.1 (t + 5) x = upd X.dr X.m (hoI X.nm X.n (vlV C L (p + 1))) x ∧ τ6.1 (t + 6) x = upd X.bx X.m (hoI X.nm X.n (vlV C L (p + 2))) x
              have hx : x < X.m + 1 := hx
              by_cases z : x = X.m
              · rw [z, upd_k, upd_k, v5'', v6, b6, d6, show p + 2 = p2 by omega, ← e1]
                exact ⟨rfl, rfl⟩
              · rw [upd_n z, upd_n z]
                exact h10 x (by show x < X.m; omega)
            · obtain ⟨q, x1, x2, x3⟩ := h11 k hk
              exact ⟨q, (e _ _ (by omega)).trans x1, fun c' hc' => x2 c' (fun j hj => (hc' j hj).trans (e _ _ (by omega))), x3⟩
          refine c_toks ht C7 Y7 f7 (k := 20) (by omega) (fun q υ hC hY hF => ?_) (fun υ => rfl)
          refine c_toks ht hC hY hF (k := 22) (by omega) (fun q υ hC hY hF => ⟨1, υ, rfl, c_end hC hY hF⟩) (fun υ => rfl)
        · exact c_no ht C7 f7 (k := 20) (by omega) k20' (fun υ => rfl)
    · exact c_no ht C3 f3 (k := 20) (by omega) k20 (fun υ => rfl)
/-- a name written behind the told -/
theorem CTY.wJ {v : Int64} {i : Nat} (h : CTY σ t C L X s) (hi : X.n ≤ i) : CTY (wJ σ (t + 1) i v) t C L X s := by
  obtain ⟨h2, h3, h4, h5, h6, h7, h8, h9, h10, h11⟩ := h
  refine ⟨h2, h3, h4, h5, h6, h7, fun h hh => ?_, h9, h10, h11⟩
  rw [wJ_k, pk_uLn (by omega)]
  exact h8 h hh
theorem CS.wJ {v : Int64} {i : Nat} (h : CS σ t C L p s) (ht : t = 2 ∨ t = 14) : CS (wJ σ (t + 1) i v) t C L p s := by
  obtain ⟨⟨z, z1, z2, z3⟩, h2⟩ := h
  refine ⟨⟨z, z1, z2, fun j hj ha => ?_⟩, h2⟩
  obtain ⟨a1, a2, a3, a4⟩ := z3 j hj ha
  exact ⟨a1, a2, a3, fun q => by rw [wJ_n (by omega)]; exact a4 q⟩
/-- a number and its token: what is read, and the rest -/
theorem c_num (ht : t = 2 ∨ t = 14) (hC : CS τ t C L p s) (hY : CTY τ t C L X s) (hF : FJ (SBt t) (fun k => k = t + 1) σ τ) {m i : Nat} (hm : m < 10000) {c : Nat} (hc : c = t + 2 ∨ c = t + 3 ∨ c = t + 4) (hi : X.n ≤ i) : ∃ r τ1, fX1_intHere 26 (nI m) τ = some (r, τ1) ∧ τ1.2 = τ.2 ∧ CS (wI τ1 c i r) t C L p s ∧ FJ (SBt t) (fun k => k = t + 1) σ (wI τ1 c i r) ∧ (∀ k j, k ≠ 26 → ¬ (k = c ∧ j = i) → (wI τ1 c i r).1 k j = τ.1 k j) ∧ (kdT C L p = 21 → (wI τ1 c i r).1 c i = nI (vlV C L p) ∧ CTY (wI τ1 c i r) t C L (mkT X.n X.m X.sd X.nm X.go X.co X.tp X.dr X.bx X.bo X.lb X.lf (nt X.la (decide (m < vlV C L p)) 5 p)) s) := by
  obtain ⟨r, τ1, b1, b2, b3, b4⟩ := c_int ht hC hY.1 hm
  have hF3 : Fs (fun k j => k = c ∧ j = i) τ1 (wI τ1 c i r) := Fs.rf.wI ⟨rfl, rfl⟩
  refine ⟨r, τ1, b1, b2.2, b3.m1 hF3 (fun k j q => by omega) ht, (hF.tr (b2.mo (fun k j q => by unfold SBt; omega)).fj).tr (hF3.mo (fun k j q => by unfold SBt; omega)).fj, fun k j a1 a2 => (hF3.1 _ _ a2).trans (b2.1 _ _ (by omega)), fun q => ?_⟩
  obtain ⟨b5, b6⟩ := b4 q
  refine ⟨by rw [wI_k, upd_k, b5], ?_⟩
  exact (hY.la (b2.mo (fun k j q => by omega)) b6 ht).bey hF3 (fun k j q => Or.inr ⟨by omega, by show X.n ≤ j; omega⟩) ht
end CTELL3
