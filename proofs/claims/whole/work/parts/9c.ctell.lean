/-! a text, as far as it is told -/
def TS : Type := Nat × Nat × Nat × (Nat → Nat) × (Nat → Nat) × (Nat → Nat) × (Nat → Nat) × (Nat → Int32) × (Nat → Int32) × (Nat → Bool) × (Nat → Br) × (Nat → Rp) × Option (Nat × Nat)
def mkT (n : Nat) (m : Nat) (sd : Nat) (nm : (Nat → Nat)) (go : (Nat → Nat)) (co : (Nat → Nat)) (tp : (Nat → Nat)) (dr : (Nat → Int32)) (bx : (Nat → Int32)) (bo : (Nat → Bool)) (lb : (Nat → Br)) (lf : (Nat → Rp)) (la : Option (Nat × Nat)) : TS := (n, m, sd, nm, go, co, tp, dr, bx, bo, lb, lf, la)
def TS.n (X : TS) : Nat := X.1
def TS.m (X : TS) : Nat := X.2.1
def TS.sd (X : TS) : Nat := X.2.2.1
def TS.nm (X : TS) : (Nat → Nat) := X.2.2.2.1
def TS.go (X : TS) : (Nat → Nat) := X.2.2.2.2.1
def TS.co (X : TS) : (Nat → Nat) := X.2.2.2.2.2.1
def TS.tp (X : TS) : (Nat → Nat) := X.2.2.2.2.2.2.1
def TS.dr (X : TS) : (Nat → Int32) := X.2.2.2.2.2.2.2.1
def TS.bx (X : TS) : (Nat → Int32) := X.2.2.2.2.2.2.2.2.1
def TS.bo (X : TS) : (Nat → Bool) := X.2.2.2.2.2.2.2.2.2.1
def TS.lb (X : TS) : (Nat → Br) := X.2.2.2.2.2.2.2.2.2.2.1
def TS.lf (X : TS) : (Nat → Rp) := X.2.2.2.2.2.2.2.2.2.2.2.1
def TS.la (X : TS) : Option (Nat × Nat) := X.2.2.2.2.2.2.2.2.2.2.2.2
def uN (f : Nat → Nat) (i v : Nat) : Nat → Nat := fun j => if j = i then v else f j
section TELLS
variable (K V : Nat → Nat) (X : TS)
def hoX (p : Nat) : TS := mkT (X.n + 1) X.m X.sd (uN X.nm X.n (V (p + 1))) (uN X.go X.n (V (p + 2))) (uN X.co X.n (V (p + 3))) (uN X.tp X.n (V (p + 4))) X.dr X.bx X.bo X.lb X.lf (nt (nt (nt (nt X.la (decide (¬ hoI X.nm X.n (V (p + 1)) = -1)) 3 (p + 1)) (decide (23 < V (p + 2))) 5 (p + 2)) (decide (23 < V (p + 3))) 5 (p + 3)) (decide (9 < V (p + 4))) 5 (p + 4))
def spX (p : Nat) : TS := mkT X.n (X.m + 1) X.sd X.nm X.go X.co X.tp (upd X.dr X.m (hoI X.nm X.n (V (p + 1)))) (upd X.bx X.m (hoI X.nm X.n (V (p + 2)))) X.bo X.lb X.lf (nt (nt X.la (decide (hoI X.nm X.n (V (p + 1)) = -1)) 4 (p + 1)) (decide (hoI X.nm X.n (V (p + 2)) = -1)) 4 (p + 2))
def boX (p : Nat) : TS := mkT X.n X.m X.sd X.nm X.go X.co X.tp X.dr X.bx (if hoI X.nm X.n (V (p + 1)) = -1 then X.bo else fset X.bo (hoI X.nm X.n (V (p + 1))).toNatClampNeg true) X.lb X.lf (nt (nt X.la (decide (hoI X.nm X.n (V (p + 1)) = -1)) 4 (p + 1)) (decide (¬ hoI X.nm X.n (V (p + 1)) = -1) && X.bo (hoI X.nm X.n (V (p + 1))).toNatClampNeg) 3 (p + 1))
def seX (p : Nat) : TS := mkT X.n X.m (V (p + 1)) X.nm X.go X.co X.tp X.dr X.bx X.bo X.lb X.lf X.la
def laX (k : Nat) (bs : Br) (f : Rp) : TS := mkT X.n X.m X.sd X.nm X.go X.co X.tp X.dr X.bx X.bo (fun j => if j = k then bs else X.lb j) (fun j => if j = k then f else X.lf j) X.la
/-- tokens, one behind the other -/
def tksS : List Nat → Nat → Except (Nat × Nat) Nat
  | [], p => .ok p
  | k :: r, p => match tkS K k p with
    | .error e => .error e
    | .ok q => tksS r q
def mapT (r : Except (Nat × Nat) Nat) (Y : TS) : Except (Nat × Nat) (Nat × TS) := match r with
  | .error e => .error e
  | .ok q => .ok (q, Y)
def tellS (p : Nat) : Except (Nat × Nat) (Nat × TS) :=
  if K p = 0 then (if X.n = 8 then .error (2, p) else mapT (tksS K [0, 20, 21, 21, 21, 22] p) (hoX V X p))
  else if K p = 1 then (if X.m = 6 then .error (2, p) else mapT (tksS K [1, 20, 20, 22] p) (spX V X p))
  else if K p = 2 then mapT (tksS K [2, 20, 22] p) (boX V X p)
  else if 3 ≤ K p ∧ K p ≤ 6 then (match lawS K V (K p - 3) p with
    | .error e => .error e
    | .ok (q, bs, f) => .ok (q, laX X (K p - 3) bs f))
  else if K p = 7 then mapT (tksS K [7, 21, 22] p) (seX V X p)
  else .error (1, p)
end TELLS
section CTELL
variable {t L p s : Nat} {σ τ υ : Sg} {C : Nat → Nat} {X : TS}
theorem c_tk (ht : t = 2 ∨ t = 14) (h : CS σ t C L p s) {k : Nat} (hk : k < 31) : ∃ r τ, fX1_take 26 (nI k) σ = some (r, τ) ∧ Fs (SB t) σ τ ∧ (match tkS (kdT C L) k p with
    | .error (e, q) => r = 0 ∧ τ.1 26 3 = nI e ∧ τ.1 26 4 = nI (poT C L q)
    | .ok q => r = 1 ∧ q = p + 1 ∧ τ = wI σ 26 1 (nI q) ∧ CS τ t C L q s) := by
  obtain ⟨r, υ, b1, b2, b3⟩ := c_take ht h hk
  refine ⟨r, υ, b1, b2, ?_⟩
  unfold tkS
  rcases b3 with ⟨c1, c2, c3, c4, c5⟩ | ⟨c1, e, c2, c3, c4⟩
  · rw [if_pos c1, if_pos c2]
    exact ⟨c3, rfl, c4, c5⟩
  · rcases c2 with ⟨d1, d2, rfl⟩ | ⟨d1, rfl⟩
    · rw [if_pos d1, if_neg d2]; exact ⟨c1, c3, c4⟩
    · rw [if_neg d1]; exact ⟨c1, c3, c4⟩
/-- the class's text, as far as it is told -/
def CTX (σ : Sg) (t : Nat) (C : Nat → Nat) (L : Nat) (X : TS) (p s : Nat) : Prop :=
  CS σ t C L p s ∧ LAc σ C L X.la ∧ σ.1 26 3 = 0 ∧ (σ.1 t 0 = nI X.n ∧ X.n ≤ 8) ∧ (σ.1 t 1 = nI X.m ∧ X.m ≤ 6) ∧ σ.1 t 2 = nI (mk8 X.bo) ∧ σ.1 t 3 = nI X.sd ∧ (∀ h, h < X.n → σ.2.1 (t + 1) h = lN (X.nm h) ∧ X.nm h < 2 ^ 63) ∧ (∀ h, h < X.n → σ.1 (t + 2) h = nI (X.go h) ∧ σ.1 (t + 3) h = nI (X.co h) ∧ σ.1 (t + 4) h = nI (X.tp h)) ∧ (∀ e, e < X.m → σ.1 (t + 5) e = X.dr e ∧ σ.1 (t + 6) e = X.bx e) ∧ ∀ k, k < 4 → ∃ q, σ.1 (t + 9) k = nI q ∧ (∀ c', (∀ j, j < s → c' j = σ.1 (t + 8) j) → lawC c' q (X.lb k) (X.lf k)) ∧ lawE q (X.lb k) (X.lf k) ≤ s
/-- what telling writes -/
def SBt (t : Nat) : Nat → Nat → Prop := fun k j => k = 26 ∧ (1 ≤ j ∧ j ≤ 6) ∨ t ≤ k ∧ k ≤ t + 9
theorem SB_t {k j : Nat} (h : SB t k j) : SBt t k j := by unfold SB at h; unfold SBt; omega
/-- what comes of telling, by the class -/
def CR1 (σ τ : Sg) (t : Nat) (C : Nat → Nat) (L : Nat) (r : Int32) (o : Except (Nat × Nat) (Nat × TS)) : Prop := FJ (SBt t) (fun k => k = t + 1) σ τ ∧ match o with
  | .error (e, q) => r = 0 ∧ τ.1 26 3 = nI e ∧ τ.1 26 4 = nI (poT C L q)
  | .ok (q, Y) => r = 1 ∧ ∃ s, CTX τ t C L Y q s
theorem CTX.fs {S : Nat → Nat → Prop} {p' : Nat} (h : CTX σ t C L X p s) (hc : CS τ t C L p' s) (hF : Fs S σ τ) (hS : ∀ k j, S k j → k = 26 ∧ ¬ j = 3 ∧ ¬ j = 5 ∧ ¬ j = 6) (ht : t = 2 ∨ t = 14) : CTX τ t C L X p' s := by
  obtain ⟨h1, h2, h3, h4, h5, h6, h7, h8, h9, h10, h11⟩ := h
  have e : ∀ k j, k ≠ 26 → τ.1 k j = σ.1 k j := fun k j hk => hF.1 _ _ (fun z => hk (hS _ _ z).1)
  refine ⟨hc, ?_, (hF.1 _ _ (fun z => (hS _ _ z).2.1 rfl)).trans h3, ⟨(e _ _ (by omega)).trans h4.1, h4.2⟩, ⟨(e _ _ (by omega)).trans h5.1, h5.2⟩, (e _ _ (by omega)).trans h6, (e _ _ (by omega)).trans h7, fun h hh => by rw [hF.2]; exact h8 h hh, fun h hh => ?_, fun x hx => ?_, fun k hk => ?_⟩
  · have e5 : τ.1 26 5 = σ.1 26 5 := hF.1 _ _ (fun z => (hS _ _ z).2.2.1 rfl)
    have e6 : τ.1 26 6 = σ.1 26 6 := hF.1 _ _ (fun z => (hS _ _ z).2.2.2 rfl)
    unfold LAc at h2 ⊢
    rw [e5, e6]; exact h2
  · rw [e _ _ (by omega), e _ _ (by omega), e _ _ (by omega)]; exact h9 h hh
  · rw [e _ _ (by omega), e _ _ (by omega)]; exact h10 x hx
  · obtain ⟨q, a1, a2, a3⟩ := h11 k hk
    exact ⟨q, (e _ _ (by omega)).trans a1, fun c' hc' => a2 c' (fun j hj => (hc' j hj).trans (e _ _ (by omega))), a3⟩
theorem c_seed (ht : t = 2 ∨ t = 14) (h : CTX σ t C L X p s) : ∃ r τ, fX1_readSeed 26 σ = some (r, τ) ∧ CR1 σ τ t C L r (mapT (tksS (kdT C L) [7, 21, 22] p) (seX (vlV C L) X p)) := by
  unfold fX1_readSeed
  obtain ⟨r1, τ1, a1, a2, a3⟩ := c_tk ht h.1 (k := 7) (by omega)
  have a1 : fX1_take 26 7 σ = some (r1, τ1) := a1
  rw [a1, Option.bind_some]
  dsimp only
  show ∃ r τ, _ ∧ CR1 σ τ t C L r (mapT (match tkS (kdT C L) 7 p with
    | .error e => .error e
    | .ok q => tksS (kdT C L) [21, 22] q) (seX (vlV C L) X p))
  have f1 : FJ (SBt t) (fun k => k = t + 1) σ τ1 := (a2.mo (fun _ _ => SB_t)).fj
  cases q1 : tkS (kdT C L) 7 p with
  | error e =>
    rw [q1] at a3
    rw [a3.1, if_pos rfl]
    exact ⟨0, τ1, rfl, f1, rfl, a3.2⟩
  | ok p1 =>
    rw [q1] at a3
    obtain ⟨ra, e1, a4, C1⟩ := a3
    rw [ra, if_neg one0]
    obtain ⟨v, v1, v2⟩ := c_value C1
    rw [v1, Option.bind_some]
    dsimp only
    rw [C1.2.2.1]
    have hF2 : Fs (fun k j => k = t ∧ j = 3) τ1 (wI τ1 t 3 v.toInt32) := Fs.rf.wI ⟨rfl, rfl⟩
    have v3 : (wI τ1 t 3 v.toInt32).1 t 3 = v.toInt32 := by rw [wI_k, upd_k]
    generalize wI τ1 t 3 v.toInt32 = τ2 at hF2 v3
    have C2 : CS τ2 t C L p1 s := C1.mv hF2 (fun k j b1 b2 => by omega) ((hF2.1 _ _ (by omega)).trans C1.2.1) C1.2.2.2.1 C1.2.2.2.2.1 ((hF2.1 _ _ (by omega)).trans C1.2.2.2.2.2.1) C1.2.2.2.2.2.2
    have f2 := f1.tr (hF2.mo (fun k j q => by unfold SBt; omega)).fj
    obtain ⟨r3, τ3, b1, b2, b3⟩ := c_tk ht C2 (k := 21) (by omega)
    have b1 : fX1_take 26 21 τ2 = some (r3, τ3) := b1
    rw [b1, Option.bind_some]
    dsimp only
    show ∃ r τ, _ ∧ CR1 σ τ t C L r (mapT (match tkS (kdT C L) 21 p1 with
      | .error e => .error e
      | .ok q => tksS (kdT C L) [22] q) (seX (vlV C L) X p))
    have f3 := f2.tr (b2.mo (fun _ _ => SB_t)).fj
    cases q2 : tkS (kdT C L) 21 p1 with
    | error e =>
      rw [q2] at b3
      rw [b3.1, if_pos rfl]
      exact ⟨0, τ3, rfl, f3, rfl, b3.2⟩
    | ok p2 =>
      rw [q2] at b3
      obtain ⟨rb, e2, b4, C3⟩ := b3
      rw [rb, if_neg one0]
      have k21 := (tkS_l q2).2.2
      obtain ⟨r4, τ4, d1, d2, d3⟩ := c_tk ht C3 (k := 22) (by omega)
      have d1 : fX1_take 26 22 τ3 = some (r4, τ4) := d1
      rw [d1, Option.bind_some]
      dsimp only
      show ∃ r τ, _ ∧ CR1 σ τ t C L r (mapT (match tkS (kdT C L) 22 p2 with
        | .error e => .error e
        | .ok q => tksS (kdT C L) [] q) (seX (vlV C L) X p))
      have f4 := f3.tr (d2.mo (fun _ _ => SB_t)).fj
      cases q3 : tkS (kdT C L) 22 p2 with
      | error e =>
        rw [q3] at d3
        rw [d3.1, if_pos rfl]
        exact ⟨0, τ4, rfl, f4, rfl, d3.2⟩
      | ok p3 =>
        rw [q3] at d3
        obtain ⟨rd, e3, d4, C4⟩ := d3
        rw [rd, if_neg one0]
        refine ⟨1, τ4, rfl, f4, rfl, s, ?_⟩
        have g1 : Fs (fun k j => k = 26 ∧ j = 1) σ τ1 := by rw [a4]; exact Fs.rf.wI ⟨rfl, rfl⟩
        have g2 : Fs (fun k j => k = 26 ∧ j = 1) τ2 τ3 := by rw [b4]; exact Fs.rf.wI ⟨rfl, rfl⟩
        have g3 : Fs (fun k j => k = 26 ∧ j = 1) τ3 τ4 := by rw [d4]; exact Fs.rf.wI ⟨rfl, rfl⟩
        have T1 : CTX τ1 t C L X p1 s := h.fs C1 g1 (fun k j q => by omega) ht
        have e1v : v.toInt32 = nI (vlV C L (p + 1)) := by rw [v2 (Or.inr k21), e1]; exact lN_i _
        have T2 : CTX τ2 t C L (seX (vlV C L) X p) p1 s := by
          obtain ⟨h1, h2, h3, h4, h5, h6, h7, h8, h9, h10, h11⟩ := T1
          have e : ∀ k j, ¬ (k = t ∧ j = 3) → τ2.1 k j = τ1.1 k j := hF2.1
          refine ⟨C2, ?_, (e _ _ (by omega)).trans h3, ⟨(e _ _ (by omega)).trans h4.1, h4.2⟩, ⟨(e _ _ (by omega)).trans h5.1, h5.2⟩, (e _ _ (by omega)).trans h6, v3.trans e1v, fun h hh => by rw [hF2.2]; exact h8 h hh, fun h hh => ?_, fun x hx => ?_, fun k hk => ?_⟩
          · show LAc τ2 C L X.la
            unfold LAc at h2 ⊢
            rw [e 26 5 (by omega), e 26 6 (by omega)]; exact h2
          · rw [e _ _ (by omega), e _ _ (by omega), e _ _ (by omega)]; exact h9 h hh
          · rw [e _ _ (by omega), e _ _ (by omega)]; exact h10 x hx
          · obtain ⟨q, x1, x2, x3⟩ := h11 k hk
            exact ⟨q, (e _ _ (by omega)).trans x1, fun c' hc' => x2 c' (fun j hj => (hc' j hj).trans (e _ _ (by omega))), x3⟩
        exact (T2.fs C3 g2 (fun k j q => by omega) ht).fs C4 g3 (fun k j q => by omega) ht
end CTELL
