/-! laws, as they are told -/
section LAWSP
variable (K V : Nat → Nat)
def tkS (k p : Nat) : Except (Nat × Nat) Nat := if K p = k then (if p < 400 then .ok (p + 1) else .error (2, p)) else .error (1, p)
def brS (p : Nat) : Except (Nat × Nat) (Nat × Rp × Rp × Rp) := match tkS K 8 p with
  | .error e => .error e
  | .ok p1 => match sumG K V 7 p1 with
    | .error e => .error e
    | .ok (p2, u) => match tkS K 28 p2 with
      | .error e => .error e
      | .ok p3 => match sumG K V 7 p3 with
        | .error e => .error e
        | .ok (p4, w) => match tkS K 9 p4 with
          | .error e => .error e
          | .ok p5 => match sumG K V 7 p5 with
            | .error e => .error e
            | .ok (p6, x) => match tkS K 10 p6 with
              | .error e => .error e
              | .ok p7 => .ok (p7, u, w, x)
def ifS : Nat → Nat → Except (Nat × Nat) (Nat × Br)
  | 0, p => if K p = 8 then .error (2, p) else .ok (p, [])
  | n + 1, p => if K p = 8 then (match brS K V p with
    | .error e => .error e
    | .ok (q, b) => match ifS n q with
      | .error e => .error e
      | .ok (q', bs) => .ok (q', b :: bs)) else .ok (p, [])
def lawS (k p : Nat) : Except (Nat × Nat) (Nat × Br × Rp) := match tkS K (3 + k) p with
  | .error e => .error e
  | .ok p1 => match tkS K 23 p1 with
    | .error e => .error e
    | .ok p2 => match ifS K V 4 p2 with
      | .error e => .error e
      | .ok (p3, bs) => match sumG K V 7 p3 with
        | .error e => .error e
        | .ok (p4, f) => match tkS K 22 p4 with
          | .error e => .error e
          | .ok p5 => .ok (p5, bs, f)
end LAWSP
def brC (s : Nat) (u w x : Rp) : Rp := u ++ w ++ [(6, s + u.length + w.length + x.length + 2)] ++ x ++ [(7, 0)]
theorem brC_l (s : Nat) (u w x : Rp) : (brC s u w x).length = u.length + w.length + x.length + 2 := by
  unfold brC
  simp only [List.length_append, List.length_cons, List.length_nil]
  omega
section CLAW
variable {t L p s : Nat} {σ τ υ : Sg} {C : Nat → Nat}
/-- c was laid -/
def CQ (σ τ : Sg) (t : Nat) (C : Nat → Nat) (L s : Nat) (c : Rp) (p : Nat) : Prop := Fs (SB t) σ τ ∧ CS τ t C L p (s + c.length) ∧ segC (τ.1 (t + 8)) s c ∧ (∀ j, j < s → τ.1 (t + 8) j = σ.1 (t + 8) j) ∧ τ.1 26 3 = σ.1 26 3
/-- it came to a fault -/
def CF (σ τ : Sg) (t : Nat) (C : Nat → Nat) (L k q : Nat) : Prop := Fs (SB t) σ τ ∧ τ.1 26 3 = nI k ∧ τ.1 26 4 = nI (poT C L q)
theorem CQ.rf (h : CS σ t C L p s) : CQ σ σ t C L s [] p := ⟨Fs.rf, h, trivial, fun _ _ => rfl, rfl⟩
theorem CQ.sum {c c' : Rp} {q : Nat} {r : Int32} (h : CQ σ τ t C L s c p) (h2 : RX τ υ t C L (s + c.length) r (.ok (q, c'))) : r = 1 ∧ CQ σ υ t C L s (c ++ c') q := by
  obtain ⟨a1, a2, a3, a4, a5⟩ := h
  obtain ⟨b1, b2, b3, b4, b5, b6⟩ := h2
  refine ⟨b2, a1.tr b1, by rw [List.length_append, ← Nat.add_assoc]; exact b3, segC_a (segC_c a3 (fun j c1 c2 => b5 j (by omega))) b4, fun j hj => (b5 j (by omega)).trans (a4 j hj), b6.trans a5⟩
theorem CQ.err {c : Rp} {k q : Nat} {r : Int32} (h : CQ σ τ t C L s c p) (h2 : RX τ υ t C L (s + c.length) r (.error (k, q))) : r = 0 ∧ CF σ υ t C L k q := ⟨h2.2.1, h.1.tr h2.1, h2.2.2⟩
theorem CQ.tk (ht : t = 2 ∨ t = 14) {c : Rp} (h : CQ σ τ t C L s c p) {k : Nat} (hk : k < 31) : ∃ r υ, fX1_take 26 (nI k) τ = some (r, υ) ∧ (match tkS (kdT C L) k p with
    | .error (e, q) => r = 0 ∧ CF σ υ t C L e q
    | .ok q => r = 1 ∧ q = p + 1 ∧ CQ σ υ t C L s c q) := by
  obtain ⟨a1, a2, a3, a4, a5⟩ := h
  obtain ⟨r, υ, b1, b2, b3⟩ := c_take ht a2 hk
  refine ⟨r, υ, b1, ?_⟩
  unfold tkS
  rcases b3 with ⟨c1, c2, c3, c4, c5⟩ | ⟨c1, e, c2, c3, c4⟩
  · rw [if_pos c1, if_pos c2]
    refine ⟨c3, rfl, a1.tr b2, c5, ?_, fun j hj => ?_, ?_⟩
    · rw [c4]; exact segC_c a3 (fun j _ _ => by rw [wI_n (by omega)])
    · rw [c4, wI_n (by omega)]; exact a4 j hj
    · rw [c4, wI_k, upd_n (by omega)]; exact a5
  · rcases c2 with ⟨d1, d2, rfl⟩ | ⟨d1, rfl⟩
    · rw [if_pos d1, if_neg d2]
      exact ⟨c1, a1.tr b2, c3, c4⟩
    · rw [if_neg d1]
      exact ⟨c1, a1.tr b2, c3, c4⟩
theorem CQ.put (ht : t = 2 ∨ t = 14) {c : Rp} (h : CQ σ τ t C L s c p) {k x : Nat} (hk : k < 16) (hx : x ≤ 9999) (hs : s + c.length + 1 ≤ p + 8) : ∃ υ, fX0_put (t + 7) (nI k) (nI x) τ = some (nI (s + c.length), υ) ∧ CQ σ υ t C L s (c ++ [(k, x)]) p := by
  obtain ⟨a1, a2, a3, a4, a5⟩ := h
  have hp := a2.2.2.2.1
  obtain ⟨υ, b1, b2, b3, b4, b5, b6⟩ := c_put0 ht a2 hk hx (by omega)
  have hl : (c ++ [(k, x)]).length = c.length + 1 := List.length_append
  exact ⟨υ, b1, a1.tr b2, a2.mv b2 (fun k j c1 c2 z => by unfold SB at z; omega) ((b6 1).trans a2.2.1) hp a2.2.2.2.2.1 (by rw [hl, ← Nat.add_assoc]; exact b5) (by rw [hl]; omega), segC_a (segC_c a3 (fun j c1 c2 => b4 j (by omega))) ⟨b3, trivial⟩, fun j hj => (b4 j (by omega)).trans (a4 j hj), (b6 3).trans a5⟩
theorem segC_i {f : Nat → Int32} : ∀ {c c' : Rp} {i : Nat}, segC f i (c ++ c') → segC f i c ∧ segC f (i + c.length) c'
  | [], _, _, h => ⟨trivial, h⟩
  | (k, x) :: r, c', i, h => by
    obtain ⟨h1, h2⟩ := h
    obtain ⟨a1, a2⟩ := segC_i h2
    exact ⟨⟨h1, a1⟩, by rw [show i + ((k, x) :: r).length = i + 1 + r.length from by show i + (r.length + 1) = _; omega]; exact a2⟩
theorem sum7 (hp : p ≤ 400) : GD (kdT C L) 15 p (sumG (kdT C L) (vlV C L) 7 p) := sum_gd (fun p hp => vlV_le hp) 7 p hp
theorem c_if (ht : t = 2 ∨ t = 14) {c : Rp} (h : CQ σ τ t C L s c p) (hp : kdT C L p = 8) : ∃ r υ, fX1_readIf 26 τ = some (r, υ) ∧ (match brS (kdT C L) (vlV C L) p with
    | .error (k, q) => r = 0 ∧ CF σ υ t C L k q
    | .ok (q, u, w, x) => r = 1 ∧ CQ σ υ t C L s (c ++ brC (s + c.length) u w x) q ∧ p < q) := by
  have hs0 := h.2.1.2.2.2.2.2.2
  unfold fX1_readIf brS
  obtain ⟨r1, υ1, a1, a2⟩ := h.tk ht (k := 8) (by omega)
  have a1 : fX1_take 26 8 τ = some (r1, υ1) := a1
  rw [a1, Option.bind_some]
  dsimp only
  cases q1 : tkS (kdT C L) 8 p with
  | error e =>
    rw [q1] at a2
    rw [a2.1, if_pos rfl]
    exact ⟨0, υ1, rfl, rfl, a2.2⟩
  | ok p1 =>
    rw [q1] at a2
    obtain ⟨rfl, e1, a2⟩ := a2
    rw [if_neg one0]
    have g1 := sum7 (C := C) (L := L) a2.2.1.2.2.2.1
    obtain ⟨r2, υ2, b1, b2⟩ := c_sum ht a2.2.1
    rw [b1, Option.bind_some]
    dsimp only
    cases q2 : sumG (kdT C L) (vlV C L) 7 p1 with
    | error e =>
      obtain ⟨k, x⟩ := e
      rw [q2] at b2
      have b2 := a2.err b2
      rw [b2.1, if_pos rfl]
      exact ⟨0, υ2, rfl, rfl, b2.2⟩
    | ok e =>
      obtain ⟨p2, u⟩ := e
      rw [q2] at b2 g1
      obtain ⟨rrb2, B2⟩ := a2.sum b2
      rw [rrb2, if_neg one0]
      obtain ⟨r3, υ3, c1, c2⟩ := B2.tk ht (k := 28) (by omega)
      have c1 : fX1_take 26 28 υ2 = some (r3, υ3) := c1
      rw [c1, Option.bind_some]
      dsimp only
      cases q3 : tkS (kdT C L) 28 p2 with
      | error e =>
        rw [q3] at c2
        rw [c2.1, if_pos rfl]
        exact ⟨0, υ3, rfl, rfl, c2.2⟩
      | ok p3 =>
        rw [q3] at c2
        obtain ⟨rfl, e3, c2⟩ := c2
        rw [if_neg one0]
        have g3 := sum7 (C := C) (L := L) c2.2.1.2.2.2.1
        obtain ⟨r4, υ4, d1, d2⟩ := c_sum ht c2.2.1
        rw [d1, Option.bind_some]
        dsimp only
        cases q4 : sumG (kdT C L) (vlV C L) 7 p3 with
        | error e =>
          obtain ⟨k, x⟩ := e
          rw [q4] at d2
          have d2 := c2.err d2
          rw [d2.1, if_pos rfl]
          exact ⟨0, υ4, rfl, rfl, d2.2⟩
        | ok e =>
          obtain ⟨p4, w⟩ := e
          rw [q4] at d2 g3
          obtain ⟨rrd2, D2⟩ := c2.sum d2
          rw [rrd2, if_neg one0]
          obtain ⟨r5, υ5, f1, f2⟩ := D2.tk ht (k := 9) (by omega)
          have f1 : fX1_take 26 9 υ4 = some (r5, υ5) := f1
          rw [f1, Option.bind_some]
          dsimp only
          cases q5 : tkS (kdT C L) 9 p4 with
          | error e =>
            rw [q5] at f2
            rw [f2.1, if_pos rfl]
            exact ⟨0, υ5, rfl, rfl, f2.2⟩
          | ok p5 =>
            rw [q5] at f2
            obtain ⟨rfl, e5, f2⟩ := f2
            obtain ⟨x1, x2, x3, -⟩ := g1
            obtain ⟨y1, y2, y3, -⟩ := g3
            have hl1 : (c ++ u ++ w).length = c.length + u.length + w.length := by rw [List.length_append, List.length_append]
            rw [if_neg one0, f2.2.1.2.2.1]
            obtain ⟨υ6, h1, h2⟩ := f2.put ht (k := 6) (x := 0) (by omega) (by omega) (by rw [hl1]; omega)
            have h1 : fX0_put (t + 7) 6 0 υ5 = some (nI (s + (c ++ u ++ w).length), υ6) := h1
            rw [h1, Option.bind_some]
            dsimp only
            have g5 := sum7 (C := C) (L := L) h2.2.1.2.2.2.1
            obtain ⟨r7, υ7, i1, i2⟩ := c_sum ht h2.2.1
            rw [i1, Option.bind_some]
            dsimp only
            cases q6 : sumG (kdT C L) (vlV C L) 7 p5 with
            | error e =>
              obtain ⟨k, x⟩ := e
              rw [q6] at i2
              have i2 := h2.err i2
              rw [i2.1, if_pos rfl]
              exact ⟨0, υ7, rfl, rfl, i2.2⟩
            | ok e =>
              obtain ⟨p6, x⟩ := e
              rw [q6] at i2 g5
              obtain ⟨rri2, I2⟩ := h2.sum i2
              rw [rri2, if_neg one0]
              obtain ⟨r8, υ8, j1, j2⟩ := I2.tk ht (k := 10) (by omega)
              have j1 : fX1_take 26 10 υ7 = some (r8, υ8) := j1
              rw [j1, Option.bind_some]
              dsimp only
              cases q7 : tkS (kdT C L) 10 p6 with
              | error e =>
                rw [q7] at j2
                rw [j2.1, if_pos rfl]
                exact ⟨0, υ8, rfl, rfl, j2.2⟩
              | ok p7 =>
                rw [q7] at j2
                obtain ⟨rfl, e7, j2⟩ := j2
                obtain ⟨z1, z2, z3, -⟩ := g5
                have hl2 : (c ++ u ++ w ++ [(6, 0)] ++ x).length = c.length + u.length + w.length + 1 + x.length := by simp only [List.length_append, List.length_cons, List.length_nil]
                rw [if_neg one0, j2.2.1.2.2.1]
                obtain ⟨υ9, k1, k2⟩ := j2.put ht (k := 7) (x := 0) (by omega) (by omega) (by rw [hl2]; omega)
                have k1 : fX0_put (t + 7) 7 0 υ8 = some (nI (s + (c ++ u ++ w ++ [(6, 0)] ++ x).length), υ9) := k1
                rw [k1, Option.bind_some]
                dsimp only
                have hp7 := k2.2.1.2.2.2.1
                have hl3 : (c ++ u ++ w ++ [(6, 0)] ++ x ++ [(7, 0)]).length = c.length + u.length + w.length + x.length + 2 := by simp only [List.length_append, List.length_cons, List.length_nil]; omega
                have hl4 : (c ++ brC (s + c.length) u w x).length = c.length + u.length + w.length + x.length + 2 := by rw [List.length_append, brC_l]; omega
                have e7s := k2.2.1.2.2.2.2.2.1
                rw [hl3] at e7s
                have jp : fX0_jumpToHere (t + 7) (nI (s + (c ++ u ++ w).length)) υ9 = some (wI υ9 (t + 8) (s + (c ++ u ++ w).length) (nI (6 + 16 * (s + c.length + u.length + w.length + x.length + 2)))) := by
                  unfold fX0_jumpToHere
                  rw [hl1, if_neg (Int32.not_lt.mpr (nI_n1 (by omega))), e7s, if_neg (le_nI (by omega) (by omega) (by omega))]
                  simp (disch := omega) only [vif, nI_clamp]
                  rw [show (6 : Int32) = nI 6 from rfl, cd_or (by omega) (by omega), show s + (c.length + u.length + w.length + x.length + 2) = s + c.length + u.length + w.length + x.length + 2 by omega]
                rw [k2.2.1.2.2.1, jp, Option.bind_some]
                refine ⟨1, _, rfl, rfl, ?_, by omega⟩
                have sg := k2.2.2.1
                obtain ⟨sg, s7⟩ := segC_i sg
                obtain ⟨sg, sx⟩ := segC_i sg
                obtain ⟨sg, -⟩ := segC_i sg
                have hF : Fs (SB t) υ9 (wI υ9 (t + 8) (s + (c ++ u ++ w).length) (nI (6 + 16 * (s + c.length + u.length + w.length + x.length + 2)))) := Fs.rf.wI (by unfold SB; omega)
                refine ⟨k2.1.tr hF, k2.2.1.mv hF (fun k j b1 b2 z => by unfold SB at z; omega) (by rw [wI_n (by omega)]; exact k2.2.1.2.1) hp7 k2.2.1.2.2.2.2.1 (by rw [wI_n (by omega), hl4]; exact e7s) (by rw [hl4]; omega), ?_, fun j hj => ?_, by rw [wI_n (by omega)]; exact k2.2.2.2.2⟩
                · unfold brC
                  rw [wI_k]
                  have ee : c ++ (u ++ w ++ [(6, s + c.length + u.length + w.length + x.length + 2)] ++ x ++ [(7, 0)]) = c ++ u ++ w ++ [(6, s + c.length + u.length + w.length + x.length + 2)] ++ x ++ [(7, 0)] := by simp only [List.append_assoc]
                  rw [ee]
                  have l2 : (c ++ u ++ w ++ [(6, s + c.length + u.length + w.length + x.length + 2)]).length = c.length + u.length + w.length + 1 := by simp only [List.length_append, List.length_cons, List.length_nil]
                  have l2' : (c ++ u ++ w ++ [((6 : Nat), (0 : Nat))]).length = c.length + u.length + w.length + 1 := by simp only [List.length_append, List.length_cons, List.length_nil]
                  have l5 : (c ++ u ++ w ++ [(6, s + c.length + u.length + w.length + x.length + 2)] ++ x).length = c.length + u.length + w.length + 1 + x.length := by rw [List.length_append, l2]
                  rw [l2'] at sx
                  rw [hl2] at s7
                  refine segC_a (segC_a (segC_a (segC_c sg (fun j b1 b2 => upd_n (by omega))) ⟨by rw [upd_k], trivial⟩) ?_) ?_
                  · rw [l2]; exact segC_c sx (fun j b1 b2 => upd_n (by omega))
                  · rw [l5]; exact segC_c s7 (fun j b1 b2 => upd_n (by omega))
                · rw [wI_k, upd_n (by omega)]; exact k2.2.2.2.1 j hj
end CLAW
