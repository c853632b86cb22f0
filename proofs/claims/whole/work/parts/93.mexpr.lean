section MEXPR
variable {M L p s o S0 : Nat} {σ τ υ : Sg} {C : Nat → Nat} {W : List Nat}
/-- what waits, the last on top -/
def WS (f : Nat → Int32) : List Nat → Prop
  | [] => True
  | w :: r => f r.length = nI w ∧ WS f r
theorem WS_c {f g : Nat → Int32} : ∀ {W : List Nat}, WS f W → (∀ j, j < W.length → g j = f j) → WS g W
  | [], _, _ => trivial
  | w :: r, h, e => ⟨by rw [e r.length (by show r.length < r.length + 1; omega)]; exact h.1, WS_c h.2 (fun j hj => e j (by show j < r.length + 1; omega))⟩
def okW (w : Nat) : Prop := w = 6 ∨ w = 8 ∨ w = 9 ∨ w = 10 ∨ w = 15
def ecN (w : Nat) : Nat := if w = 8 then 2 else if w = 9 then 3 else if w = 10 then 4 else 5
def flu (P : List Nat) : Rp := P.map (fun w => (ecN w, 0))
/-- what expressions write, codes from s on -/
def SE (M S0 s : Nat) : Nat → Nat → Prop := fun k j => k = M ∧ (j = 11 ∨ j = 12 ∨ j = 13 ∨ j = 14 ∨ j = 39 ∨ j = 43) ∨ k = M + 27 ∨ (k = M + 25 ∨ k = M + 26) ∧ s ≤ j ∧ j < S0 + 401
theorem SE_mo {s' : Nat} (h : s ≤ s') {k j : Nat} (q : SE M S0 s' k j) : SE M S0 s k j := by unfold SE at q ⊢; omega
/-- codes and waits, whatever the fault -/
def MC (σ : Sg) (M S0 p s : Nat) (W : List Nat) : Prop := σ.1 M 39 = nI s ∧ σ.1 M 43 = nI W.length ∧ WS (σ.1 (M + 27)) W ∧ s + W.length ≤ S0 + p ∧ (∀ w, w ∈ W → okW w) ∧ W.length ≤ 24 ∧ S0 ≤ 420 ∧ p ≤ 400
theorem m_emit (h1 : σ.1 M 39 = nI s) (hs : s < 840) (k x : Int32) : fX7_emit M k x σ = some (wI (wI (wI σ (M + 25) s k) (M + 26) s x) M 39 (nI (s + 1))) := by
  have e1 : (wI σ (M + 25) s k).1 M 39 = nI s := by rw [wI_n (by omega), h1]
  have e2 : (wI (wI σ (M + 25) s k) (M + 26) s x).1 M 39 = nI s := by rw [wI_n (by omega), e1]
  unfold fX7_emit
  rw [h1]
  simp (disch := omega) only [vif, nI_clamp]
  rw [e1]
  simp (disch := omega) only [vif, nI_clamp]
  rw [e2, nI_s]
/-- one sign comes out -/
theorem out1 {w : Nat} {R : List Nat} (h : MC σ M S0 p s (w :: R)) (hw : w = 8 ∨ w = 9 ∨ w = 10 ∨ w = 15) (p1 : Int32) : ∃ τ, jX7_comesOut_42 M p1 (nI w) σ = some (Sum.inl τ) ∧ Fs (SE M S0 s) σ τ ∧ MC τ M S0 p (s + 1) R ∧ τ.1 (M + 25) s = nI (ecN w) ∧ τ.1 (M + 26) s = 0 ∧ ∀ j, j ≠ 39 → j ≠ 43 → τ.1 M j = σ.1 M j := by
  obtain ⟨h1, h2, h3, h4, h5, h6, h7, h8⟩ := h
  have hl : (w :: R).length = R.length + 1 := rfl
  rw [hl] at h2 h4 h6
  refine ⟨wI (wI (wI (wI σ M 43 (nI R.length)) (M + 25) s (nI (ecN w))) (M + 26) s 0) M 39 (nI (s + 1)), ?_, ?_, ⟨?_, ?_, ?_, by omega, fun x hx => h5 x (List.mem_cons_of_mem _ hx), by omega, h7, h8⟩, ?_, ?_, fun j a1 a2 => ?_⟩
  · have e39 : (wI σ M 43 (nI R.length)).1 M 39 = nI s := by rw [wI_k, upd_n (by omega), h1]
    have em : ∀ k : Int32, jX7_comesOut_84 M p1 M k (wI σ M 43 (nI R.length)) = some (Sum.inl (wI (wI (wI (wI σ M 43 (nI R.length)) (M + 25) s k) (M + 26) s 0) M 39 (nI (s + 1)))) := fun k => by
      unfold jX7_comesOut_84
      rw [m_emit e39 (by omega)]; rfl
    unfold jX7_comesOut_42 ecN
    dsimp only
    rw [h2, nI_p (by omega), show R.length + 1 - 1 = R.length by omega, em, em, em, em]
    rcases hw with rfl | rfl | rfl | rfl <;> rfl
  · exact (((Fs.rf.wI (by unfold SE; omega)).wI (by unfold SE; omega)).wI (by unfold SE; omega)).wI (by unfold SE; omega)
  · rw [wI_k, upd_k]
  · rw [wI_k, upd_n (by omega), wI_n (by omega), wI_n (by omega), wI_k, upd_k]
  · rw [wI_n (by omega), wI_n (by omega), wI_n (by omega), wI_n (by omega)]; exact h3.2
  · rw [wI_n (by omega), wI_n (by omega), wI_k, upd_k]
  · rw [wI_n (by omega), wI_k, upd_k]
  · rw [wI_k, upd_n a1, wI_n (by omega), wI_n (by omega), wI_k, upd_n a2]
theorem segM_c {f g f' g' : Nat → Int32} : ∀ {c : Rp} {i : Nat}, segM f g i c → (∀ j, i ≤ j → j < i + c.length → f' j = f j ∧ g' j = g j) → segM f' g' i c
  | [], _, _, _ => trivial
  | (k, x) :: r, i, h, e => ⟨by rw [(e i (Nat.le_refl _) (by show i < i + (r.length + 1); omega)).1]; exact h.1, by rw [(e i (Nat.le_refl _) (by show i < i + (r.length + 1); omega)).2]; exact h.2.1, segM_c h.2.2 (fun j a1 a2 => e j (by omega) (by show j < i + (r.length + 1); omega))⟩
theorem segM_a {f g : Nat → Int32} : ∀ {c c' : Rp} {i : Nat}, segM f g i c → segM f g (i + c.length) c' → segM f g i (c ++ c')
  | [], _, _, _, h => h
  | (k, x) :: r, c', i, h, h' => ⟨h.1, h.2.1, segM_a h.2.2 (by rw [show i + 1 + r.length = i + ((k, x) :: r).length from by show i + 1 + r.length = i + (r.length + 1); omega]; exact h')⟩
/-- the frame keeps what was laid before -/
theorem segM_f {c : Rp} {i s' : Nat} (h : segM (σ.1 (M + 25)) (σ.1 (M + 26)) i c) (hF : Fs (SE M S0 s') σ τ) (hi : i + c.length ≤ s') : segM (τ.1 (M + 25)) (τ.1 (M + 26)) i c := segM_c h (fun j a1 a2 => ⟨hF.1 _ _ (by unfold SE; omega), hF.1 _ _ (by unfold SE; omega)⟩)
/-- signs come out -/
theorem m_out (p1 : Int32) {R : List Nat} (hR : R = [] ∨ ∃ w r, R = w :: r ∧ (w = 6 ∨ ¬ p1 = 0 ∧ (w = 8 ∨ w = 9))) : ∀ (P : List Nat) (σ : Sg) (s : Nat), (∀ w, w ∈ P → (w = 8 ∨ w = 9 ∨ w = 10 ∨ w = 15) ∧ (¬ p1 = 0 → w = 10 ∨ w = 15)) → MC σ M S0 p s (P ++ R) → ∃ τ, fX7_comesOut M p1 σ = some τ ∧ Fs (SE M S0 s) σ τ ∧ MC τ M S0 p (s + P.length) R ∧ segM (τ.1 (M + 25)) (τ.1 (M + 26)) s (flu P) ∧ ∀ j, j ≠ 39 → j ≠ 43 → τ.1 M j = σ.1 M j := by
  have key : ∀ (P : List Nat) (σ : Sg) (s : Nat), (∀ w, w ∈ P → (w = 8 ∨ w = 9 ∨ w = 10 ∨ w = 15) ∧ (¬ p1 = 0 → w = 10 ∨ w = 15)) → MC σ M S0 p s (P ++ R) → ∃ τ x, lp (bX7_comesOut_0 M p1) σ = some x ∧ (x = Sum.inl τ ∨ x = Sum.inr τ) ∧ Fs (SE M S0 s) σ τ ∧ MC τ M S0 p (s + P.length) R ∧ segM (τ.1 (M + 25)) (τ.1 (M + 26)) s (flu P) ∧ ∀ j, j ≠ 39 → j ≠ 43 → τ.1 M j = σ.1 M j := by
    intro P
    induction P with
    | nil =>
      intro σ s hP h
      have h : MC σ M S0 p s R := h
      rcases hR with rfl | ⟨w, r, rfl, hw⟩
      · refine ⟨σ, Sum.inr σ, lp_r ?_, Or.inr rfl, Fs.rf, h, trivial, fun _ _ _ => rfl⟩
        unfold bX7_comesOut_0
        rw [h.2.1, if_pos (by decide)]
      · refine ⟨σ, Sum.inl σ, lp_r ?_, Or.inl rfl, Fs.rf, h, trivial, fun _ _ _ => rfl⟩
        have hl : (w :: r).length = r.length + 1 := rfl
        have h6 := h.2.2.2.2.2.1
        rw [hl] at h6
        unfold bX7_comesOut_0
        rw [h.2.1, hl, if_neg (show ¬ nI (r.length + 1) ≤ 0 from le_nI (b := 0) (by omega) (by omega) (by omega)), nI_p (by omega), show r.length + 1 - 1 = r.length by omega]
        simp (disch := omega) only [vif, nI_clamp]
        rw [h.2.2.1.1]
        rcases hw with rfl | ⟨hp, rfl | rfl⟩
        · rw [if_pos (by decide)]
        · rw [if_neg (by decide), if_neg hp, if_pos (by decide)]
        · rw [if_neg (by decide), if_neg hp, if_neg (by decide), if_pos (by decide)]
    | cons w P ih =>
      intro σ s hP h
      have h : MC σ M S0 p s (w :: (P ++ R)) := h
      obtain ⟨hw1, hw2⟩ := hP w (List.mem_cons_self)
      obtain ⟨τ1, a1, a2, a3, a4, a5, a6⟩ := out1 h hw1 p1
      have hl : (w :: (P ++ R)).length = (P ++ R).length + 1 := rfl
      have h6 := h.2.2.2.2.2.1
      rw [hl] at h6
      have st : bX7_comesOut_0 M p1 σ = some (Sum.inl τ1) := by
        unfold bX7_comesOut_0
        rw [h.2.1, hl, if_neg (show ¬ nI ((P ++ R).length + 1) ≤ 0 from le_nI (b := 0) (by omega) (by omega) (by omega)), nI_p (by omega), show (P ++ R).length + 1 - 1 = (P ++ R).length by omega]
        simp (disch := omega) only [vif, nI_clamp]
        rw [h.2.2.1.1, if_neg (show ¬ nI w = 6 from ne_nI (b := 6) (by omega) (by omega) (by omega))]
        by_cases z : p1 = 0
        · rw [if_pos z, a1]
        · rw [if_neg z, if_neg (show ¬ nI w = 8 from ne_nI (b := 8) (by omega) (by omega) (by have := hw2 z; omega)), if_neg (show ¬ nI w = 9 from ne_nI (b := 9) (by omega) (by omega) (by have := hw2 z; omega)), a1]
      obtain ⟨τ, x, b1, b2, b3, b4, b5, b6⟩ := ih τ1 (s + 1) (fun w hw => hP w (List.mem_cons_of_mem _ hw)) a3
      refine ⟨τ, x, (lp_l st).trans b1, b2, a2.tr (b3.mo (fun k j q => SE_mo (by omega) q)), by rw [show s + (w :: P).length = s + 1 + P.length from by show s + (P.length + 1) = _; omega]; exact b4, ⟨?_, ?_, b5⟩, fun j c1 c2 => (b6 j c1 c2).trans (a6 j c1 c2)⟩
      · rw [b3.1 _ _ (by unfold SE; omega), a4]
      · rw [b3.1 _ _ (by unfold SE; omega), a5]; rfl
  intro P σ s hP h
  obtain ⟨τ, x, b1, b2, b3⟩ := key P σ s hP h
  refine ⟨τ, ?_, b3⟩
  unfold fX7_comesOut
  rw [b1, Option.bind_some]
  rcases b2 with rfl | rfl <;> rfl
/-- signs come out, whatever waits -/
theorem m_outT : ∀ (W : List Nat) (σ : Sg) (s : Nat), MC σ M S0 p s W → ∃ τ W' s', fX7_comesOut M 0 σ = some τ ∧ Fs (SE M S0 s) σ τ ∧ MC τ M S0 p s' W' ∧ ∀ j, j ≠ 39 → j ≠ 43 → τ.1 M j = σ.1 M j := by
  have sp : ∀ W : List Nat, (∀ w, w ∈ W → okW w) → ∃ P R, W = P ++ R ∧ (∀ w, w ∈ P → w = 8 ∨ w = 9 ∨ w = 10 ∨ w = 15) ∧ (R = [] ∨ ∃ w r, R = w :: r ∧ w = 6) := by
    intro W
    induction W with
    | nil => intro _; exact ⟨[], [], rfl, (fun w hw => by cases hw), Or.inl rfl⟩
    | cons w W ih =>
      intro h
      by_cases q : w = 6
      · exact ⟨[], w :: W, rfl, (fun w hw => by cases hw), Or.inr ⟨w, W, rfl, q⟩⟩
      · obtain ⟨P, R, e1, e2, e3⟩ := ih (fun x hx => h x (List.mem_cons_of_mem _ hx))
        refine ⟨w :: P, R, by rw [e1]; rfl, fun x hx => ?_, e3⟩
        rcases List.mem_cons.mp hx with z | z
        · have := h w (List.mem_cons_self); unfold okW at this; omega
        · exact e2 x z
  intro W σ s h
  obtain ⟨P, R, rfl, e2, e3⟩ := sp W h.2.2.2.2.1
  obtain ⟨τ, a1, a2, a3, -, a5⟩ := m_out (M := M) (S0 := S0) (p := p) 0 (R := R) (by
    rcases e3 with rfl | ⟨w, r, rfl, q⟩
    · exact Or.inl rfl
    · exact Or.inr ⟨w, r, rfl, Or.inl q⟩) P σ s (fun w hw => ⟨e2 w hw, fun z => absurd rfl z⟩) h
  exact ⟨τ, R, _, a1, a2, a3, a5⟩
/-- the model reads at p -/
def MP (σ : Sg) (M : Nat) (C : Nat → Nat) (L p : Nat) : Prop := TKm σ M C L ∧ σ.1 M 11 = nI p ∧ p ≤ 400 ∧ (∀ j, j < p → kdT C L j < 31) ∧ σ.1 M 13 = 0
theorem MP.en (h : MP σ M C L p) : mEn σ M C L p := h.1 p h.2.2.1 h.2.2.2.1
theorem mk_inj {a b : Nat} (ha : a ≤ 32) (hb : b ≤ 32) (h : mkd a = mkd b) : a = b := by
  have hh : ∀ a b : Fin 33, mkd a.1 = mkd b.1 → a = b := by decide +kernel
  exact congrArg Fin.val (hh ⟨a, by omega⟩ ⟨b, by omega⟩ h)
theorem mk_lt (a : Nat) : a ≤ 32 → mkd a < 40 := fun ha => by
  have hh : ∀ a : Fin 33, mkd a.1 < 40 := by decide +kernel
  exact hh ⟨a, by omega⟩
theorem mk_eq {a b : Nat} (ha : a ≤ 32) (hb : b ≤ 32) : nI (mkd a) = nI (mkd b) ↔ a = b := by
  have h1 := mk_lt a ha
  have h2 := mk_lt b hb
  constructor
  · intro h; exact mk_inj ha hb ((nI_eq (by omega) (by omega)).mp h)
  · intro h; rw [h]
theorem m_is (h : MP σ M C L p) {k : Nat} (hk : k ≤ 32) : fX7_is M (nI (mkd k)) σ = some (if kdT C L p = k then 1 else 0, σ) := by
  have hp := h.2.2.1
  unfold fX7_is
  rw [h.2.2.2.2, if_pos rfl, h.2.1]
  simp (disch := omega) only [vif, nI_clamp]
  rw [h.en.1]
  by_cases q : kdT C L p = k
  · rw [if_pos ((mk_eq (kd_lt _ _ _) hk).mpr q), if_pos q]
  · rw [if_neg (fun z => q ((mk_eq (kd_lt _ _ _) hk).mp z)), if_neg q]
theorem m_isF {k : Int32} (h : ¬ σ.1 M 13 = 0) : fX7_is M k σ = some (0, σ) := by
  unfold fX7_is
  rw [if_neg h]
/-- a fault stands -/
def MF (σ : Sg) (M : Nat) (C : Nat → Nat) (L k q : Nat) : Prop := σ.1 M 13 = nI k ∧ σ.1 M 14 = nI (poT C L q) ∧ (k = 1 ∨ k = 2)
theorem MF.n {k q : Nat} (h : MF σ M C L k q) : ¬ σ.1 M 13 = 0 ∧ ¬ σ.1 M 13 ≤ 0 := by
  rw [h.1]
  rcases h.2.2 with rfl | rfl <;> decide
theorem m_fail (h : MP σ M C L p) {k : Nat} (hk : k = 1 ∨ k = 2) : ∃ τ, fX7_fail M (nI k) σ = some τ ∧ Fs (fun x j => x = M ∧ (j = 13 ∨ j = 14)) σ τ ∧ MF τ M C L k p := by
  have hp := h.2.2.1
  have e11 : (wI σ M 13 (nI k)).1 M 11 = nI p := by rw [wI_k, upd_n (by omega), h.2.1]
  refine ⟨wI (wI σ M 13 (nI k)) M 14 (nI (poT C L p)), ?_, (Fs.rf.wI (by omega)).wI (by omega), by rw [wI_k, upd_n (by omega), wI_k, upd_k], by rw [wI_k, upd_k], hk⟩
  unfold fX7_fail
  rw [h.2.2.2.2, if_pos (by decide)]
  dsimp only
  rw [e11]
  simp (disch := omega) only [vif, nI_clamp]
  rw [wI_n (by omega), h.en.2.1]
theorem m_failF {k : Int32} (h : ¬ σ.1 M 13 ≤ 0) : fX7_fail M k σ = some σ := by
  unfold fX7_fail
  rw [if_neg h]
theorem TKm.fs {S : Nat → Nat → Prop} (h : TKm σ M C L) (hF : Fs S σ τ) (hS : ∀ k j, M + 3 ≤ k → k ≤ M + 6 → ¬ S k j) : TKm τ M C L := fun j hj ha => by
  obtain ⟨a1, a2, a3, a4⟩ := h j hj ha
  exact ⟨(hF.1 _ _ (hS _ _ (by omega) (by omega))).trans a1, (hF.1 _ _ (hS _ _ (by omega) (by omega))).trans a2, fun q => (hF.1 _ _ (hS _ _ (by omega) (by omega))).trans (a3 q), fun q => by rw [hF.2]; exact a4 q⟩
/-- on by a token -/
theorem m_goesOn (h : MP σ M C L p) (hk : kdT C L p < 31) : (p < 400 ∧ fX7_goesOn M σ = some (wI σ M 11 (nI (p + 1))) ∧ MP (wI σ M 11 (nI (p + 1))) M C L (p + 1)) ∨ (p = 400 ∧ ∃ τ, fX7_goesOn M σ = some τ ∧ Fs (fun x j => x = M ∧ (j = 13 ∨ j = 14)) σ τ ∧ MF τ M C L 2 p) := by
  have hp := h.2.2.1
  unfold fX7_goesOn
  rw [h.2.1]
  by_cases q : p = 400
  · right
    obtain ⟨τ, a1, a2, a3⟩ := m_fail h (k := 2) (Or.inr rfl)
    have a1 : fX7_fail M 2 σ = some τ := a1
    refine ⟨q, τ, ?_, a2, a3⟩
    rw [if_pos (show nI p = 400 by rw [q]; rfl), a1]; rfl
  · left
    refine ⟨by omega, ?_, h.1.fs (Fs.rf.wI (S := fun x j => x = M ∧ j = 11) ⟨rfl, rfl⟩) (fun k j a1 a2 => by omega), by rw [wI_k, upd_k], by omega, fun j hj => ?_, by rw [wI_k, upd_n (by omega)]; exact h.2.2.2.2⟩
    · rw [if_neg (show ¬ nI p = 400 from ne_nI (b := 400) (by omega) (by omega) q), nI_s]
    · by_cases z : j = p
      · rw [z]; exact hk
      · exact h.2.2.2.1 j (by omega)
/-- on, though a fault stands -/
theorem m_goesOnF {k q : Nat} {x : Nat} (h : MF σ M C L k q) (h11 : σ.1 M 11 = nI x) (hx : x ≤ 401) : ∃ τ, fX7_goesOn M σ = some τ ∧ Fs (fun x j => x = M ∧ j = 11) σ τ := by
  unfold fX7_goesOn
  rw [h11]
  by_cases z : x = 400
  · rw [if_pos (show nI x = 400 by rw [z]; rfl), m_failF h.n.2]
    exact ⟨σ, rfl, Fs.rf⟩
  · rw [if_neg (show ¬ nI x = 400 from ne_nI (b := 400) (by omega) (by omega) z)]
    exact ⟨_, rfl, Fs.rf.wI ⟨rfl, rfl⟩⟩
end MEXPR
