/-! the model reads a text -/
section MTEXT
variable {M L ℓ side : Nat} {σ τ : Sg} {C : Nat → Nat}
theorem plain_v (hs : side < 2) : ∃ τ, fX7_plain M (nI side) σ = some τ ∧ Fs (fun k j => (k = M + 9 ∨ k = M + 14 ∨ k = M + 17) ∧ j = side ∨ k = M + 13 ∧ 8 * side ≤ j ∧ j < 8 * side + 8 ∨ (k = M + 18 ∨ k = M + 19) ∧ 4 * side ≤ j ∧ j < 4 * side + 4) σ τ ∧ τ.1 (M + 9) side = 0 ∧ τ.1 (M + 14) side = 0 ∧ τ.1 (M + 17) side = 0 ∧ (∀ h, h < 8 → τ.1 (M + 13) (8 * side + h) = 0) ∧ ∀ k, k < 4 → τ.1 (M + 18) (4 * side + k) = 0 ∧ τ.1 (M + 19) (4 * side + k) = 0 := by
  unfold fX7_plain
  simp (disch := omega) only [vif, nI_clamp]
  have hF1 : Fs (fun k j => (k = M + 9 ∨ k = M + 14 ∨ k = M + 17) ∧ j = side) σ (wI (wI (wI σ (M + 9) side 0) (M + 14) side 0) (M + 17) side 0) := ((Fs.rf.wI (by omega)).wI (by omega)).wI (by omega)
  have v9 : (wI (wI (wI σ (M + 9) side 0) (M + 14) side 0) (M + 17) side 0).1 (M + 9) side = 0 := by rw [wI_n (by omega), wI_n (by omega), wI_k, upd_k]
  have v14 : (wI (wI (wI σ (M + 9) side 0) (M + 14) side 0) (M + 17) side 0).1 (M + 14) side = 0 := by rw [wI_n (by omega), wI_k, upd_k]
  have v17 : (wI (wI (wI σ (M + 9) side 0) (M + 14) side 0) (M + 17) side 0).1 (M + 17) side = 0 := by rw [wI_k, upd_k]
  generalize wI (wI (wI σ (M + 9) side 0) (M + 14) side 0) (M + 17) side 0 = σ1 at hF1 v9 v14 v17
  obtain ⟨σ2, a1, a2, a3⟩ := lp_inv (f := fun st : Int32 × Sg => bX7_plain_23 M (nI side) st.1 st.2) 8 (fun i τ => Fs (fun k j => k = M + 13 ∧ 8 * side ≤ j ∧ j < 8 * side + 8) σ1 τ ∧ ∀ h, h < i → τ.1 (M + 13) (8 * side + h) = 0) (fun i τ hi hI => by
    refine ⟨wI τ (M + 13) (8 * side + i) 0, ?_, hI.1.wI (by omega), fun h hh => ?_⟩
    · show bX7_plain_23 M (nI side) (nI i) τ = _
      unfold bX7_plain_23
      rw [if_neg (show ¬ (8 : Int32) ≤ nI i from le_nI (a := 8) (by omega) (by omega) hi), k8m, nI_add]
      simp (disch := omega) only [vif, nI_clamp]
      rw [nI_s]
      rfl
    · rw [wI_a]
      by_cases z : h = i
      · rw [if_pos ⟨rfl, by rw [z]⟩]
      · rw [if_neg (by omega)]; exact hI.2 h (by omega)) (fun τ hI => by
    show bX7_plain_23 M (nI side) (nI 8) τ = _
    unfold bX7_plain_23
    rw [if_pos (show (8 : Int32) ≤ nI 8 by decide)]) (σ := σ1) ⟨Fs.rf, fun h hh => by omega⟩
  have a1 : lp (fun st : Int32 × Sg => bX7_plain_23 M (nI side) st.1 st.2) (0, σ1) = some σ2 := a1
  obtain ⟨σ3, b1, b2, b3⟩ := lp_inv (f := fun st : Int32 × Sg => bX7_plain_49 M (nI side) st.1 st.2) 4 (fun i τ => Fs (fun k j => (k = M + 18 ∨ k = M + 19) ∧ 4 * side ≤ j ∧ j < 4 * side + 4) σ2 τ ∧ ∀ h, h < i → τ.1 (M + 18) (4 * side + h) = 0 ∧ τ.1 (M + 19) (4 * side + h) = 0) (fun i τ hi hI => by
    refine ⟨wI (wI τ (M + 18) (4 * side + i) 0) (M + 19) (4 * side + i) 0, ?_, (hI.1.wI (by omega)).wI (by omega), fun h hh => ?_⟩
    · show bX7_plain_49 M (nI side) (nI i) τ = _
      unfold bX7_plain_49
      rw [if_neg (show ¬ (4 : Int32) ≤ nI i from le_nI (a := 4) (by omega) (by omega) hi), k4m, nI_add]
      simp (disch := omega) only [vif, nI_clamp]
      rw [nI_s]
    · rw [wI_a, wI_a, wI_a, wI_a]
      by_cases z : h = i
      · rw [if_neg (by omega), if_pos ⟨rfl, by rw [z]⟩, if_pos ⟨rfl, by rw [z]⟩]; exact ⟨rfl, rfl⟩
      · rw [if_neg (by omega), if_neg (by omega), if_neg (by omega), if_neg (by omega)]; exact hI.2 h (by omega)) (fun τ hI => by
    show bX7_plain_49 M (nI side) (nI 4) τ = _
    unfold bX7_plain_49
    rw [if_pos (show (4 : Int32) ≤ nI 4 by decide)]) (σ := σ2) ⟨Fs.rf, fun h hh => by omega⟩
  have b1 : lp (fun st : Int32 × Sg => bX7_plain_49 M (nI side) st.1 st.2) (0, σ2) = some σ3 := b1
  rw [a1, Option.bind_some, b1, Option.bind_some]
  refine ⟨σ3, rfl, ((hF1.mo (fun k j q => by omega)).tr (a2.mo (fun k j q => by omega))).tr (b2.mo (fun k j q => by omega)), ?_, ?_, ?_, fun h hh => ?_, fun k hk => b3 k hk⟩
  · rw [b2.1 _ _ (by omega), a2.1 _ _ (by omega)]; exact v9
  · rw [b2.1 _ _ (by omega), a2.1 _ _ (by omega)]; exact v14
  · rw [b2.1 _ _ (by omega), a2.1 _ _ (by omega)]; exact v17
  · rw [b2.1 _ _ (by omega)]; exact a3 h hh
/-- the tape, copied to be cut -/
theorem tape_v (hL : L ≤ 2000) (h4 : σ.1 M 4 = nI L) : ∃ τ, lp (fun st : Int32 × Sg => bX7_read_10 M st.1 st.2) (0, σ) = some τ ∧ Fs (fun k _ => k = M + 2) σ τ ∧ ∀ i, i < L → τ.1 (M + 2) i = vp_nar .byte (σ.1 (M + 1) i) := by
  obtain ⟨σ2, a1, a2, a3⟩ := lp_inv (f := fun st : Int32 × Sg => bX7_read_10 M st.1 st.2) L (fun i τ => Fs (fun k _ => k = M + 2) σ τ ∧ ∀ h, h < i → τ.1 (M + 2) h = vp_nar .byte (σ.1 (M + 1) h)) (fun i τ hi hI => by
    refine ⟨wI τ (M + 2) i (vp_nar .byte (τ.1 (M + 1) i)), ?_, hI.1.wI rfl, fun h hh => ?_⟩
    · show bX7_read_10 M (nI i) τ = _
      unfold bX7_read_10
      rw [hI.1.1 M 4 (by omega), h4, if_neg (le_nI (by omega) (by omega) hi)]
      simp (disch := omega) only [vif, nI_clamp]
      rw [nI_s]
    · rw [wI_a]
      by_cases z : h = i
      · rw [if_pos ⟨rfl, z⟩, hI.1.1 (M + 1) i (by omega), z]
      · rw [if_neg (by omega)]; exact hI.2 h (by omega)) (fun τ hI => by
    show bX7_read_10 M (nI L) τ = _
    unfold bX7_read_10
    rw [hI.1.1 M 4 (by omega), h4, if_pos (Int32.le_refl _)]) (σ := σ) ⟨Fs.rf, fun h hh => by omega⟩
  exact ⟨σ2, a1, a2, a3⟩
/-- what reading writes, by the model -/
def SMr (M side : Nat) : Nat → Nat → Prop := fun k j => SMt M side k j ∨ k = M ∧ (j = 2 ∨ j = 4 ∨ j = 10 ∨ j = 19) ∨ M + 2 ≤ k ∧ k ≤ M + 5
/-- the end of reading -/
noncomputable def jRd (M : Nat) (σ39 : Sg) : Option (Int32 × Sg) := if (σ39.1 M 13) ≤ 0 then (if (σ39.1 M 15) ≤ 0 then (jX7_read_164 M M (-1 : Int32) σ39) else (jX7_read_164 M M (σ39.1 M 16) σ39)) else (jX7_read_164 M M (σ39.1 M 14) σ39)
theorem m_text (hL : L ≤ 2000) (hℓ : ℓ < 2) (h18 : σ.1 M 18 = nI ℓ) (h2 : σ.1 M 2 = nI L) (hb : ∀ i, i < L → vp_nar .byte (σ.1 (M + 1) i) &&& 255 = nI (C i) ∧ C i < 256) (hkw : ∀ k, k < 20 → σ.2.1 (M + 7) k = lN (wvN k)) : ∃ τ, fX7_read M σ = jRd M τ ∧ FJ (SMr M (1 - ℓ)) (fun k => k = M + 6 ∨ k = M + 8) σ τ ∧ τ.1 M 2 = 0 ∧ τ.1 M 19 = nI (1 - ℓ) ∧ (match tellsS (kdT C L) (vlV C L) 401 X0 0 with
    | .error (e, q) => MF τ M C L e q
    | .ok Y => ∃ p s b, MTX τ M C L (1 - ℓ) Y p s b) := by
  unfold fX7_read
  dsimp only
  rw [h2]
  have hF1 : Fs (fun k j => k = M ∧ j = 4) σ (wI σ M 4 (nI L)) := Fs.rf.wI ⟨rfl, rfl⟩
  have v4 : (wI σ M 4 (nI L)).1 M 4 = nI L := by rw [wI_k, upd_k]
  generalize wI σ M 4 (nI L) = σ1 at hF1 v4
  obtain ⟨σ2, a1, a2, a3⟩ := tape_v hL v4
  rw [a1, Option.bind_some]
  have hF3 : Fs (fun k j => k = M ∧ j = 2) σ2 (wI σ2 M 2 0) := Fs.rf.wI ⟨rfl, rfl⟩
  have v32 : (wI σ2 M 2 0).1 M 2 = 0 := by rw [wI_k, upd_k]
  generalize wI σ2 M 2 0 = σ3 at hF3 v32
  have F3 : Fs (fun k j => k = M ∧ (j = 2 ∨ j = 4) ∨ k = M + 2) σ σ3 := ((hF1.mo (fun k j q => by omega)).tr (a2.mo (fun k j q => by omega))).tr (hF3.mo (fun k j q => by omega))
  have T3 : TM σ3 M L C := by
    refine ⟨hL, ?_, fun i hi => ?_⟩
    · rw [hF3.1 _ _ (by omega), a2.1 _ _ (by omega)]; exact v4
    · rw [hF3.1 _ _ (by omega), a3 i hi, hF1.1 _ _ (by omega)]; exact hb i hi
  obtain ⟨σ4, b1, b2, b3⟩ := m_cut T3 (fun k hk => by rw [F3.2]; exact hkw k hk)
  rw [b1, Option.bind_some]
  have F4 : FJ (SMr M (1 - ℓ)) (fun k => k = M + 6 ∨ k = M + 8) σ σ4 := (F3.mo (fun k j q => by unfold SMr; omega)).fj.tr (b2.mo (fun k j q => by unfold SU at q; unfold SMr; omega) (fun k q => Or.inl q))
  have e18 : σ4.1 M 18 = nI ℓ := by rw [b2.1 _ _ (by unfold SU; omega), F3.1 _ _ (by omega)]; exact h18
  have e2 : σ4.1 M 2 = 0 := by rw [b2.1 _ _ (by unfold SU; omega)]; exact v32
  have hF5 : Fs (fun k j => k = M ∧ (j = 11 ∨ j = 12 ∨ j = 13 ∨ j = 15)) σ4 (wI (wI (wI (wI σ4 M 11 0) M 12 0) M 13 0) M 15 0) := (((Fs.rf.wI (by omega)).wI (by omega)).wI (by omega)).wI (by omega)
  have v5 : ∀ j, (j = 11 ∨ j = 12 ∨ j = 13 ∨ j = 15) → (wI (wI (wI (wI σ4 M 11 0) M 12 0) M 13 0) M 15 0).1 M j = 0 := fun j hj => by
    rcases hj with rfl | rfl | rfl | rfl <;> simp [wI_a]
  generalize wI (wI (wI (wI σ4 M 11 0) M 12 0) M 13 0) M 15 0 = σ5 at hF5 v5
  rw [show σ5.1 M 18 = nI ℓ from (hF5.1 _ _ (by omega)).trans e18, show (1 : Int32) - nI ℓ = nI (1 - ℓ) from by
    rcases (show ℓ = 0 ∨ ℓ = 1 by omega) with rfl | rfl <;> decide]
  have hs2 : 1 - ℓ < 2 := by omega
  generalize 1 - ℓ = side at F4 hs2 ⊢
  have hF6 : Fs (fun k j => k = M ∧ (j = 19 ∨ j = 20)) σ5 (wI (wI σ5 M 19 (nI side)) M 20 0) := (Fs.rf.wI (by omega)).wI (by omega)
  have v19 : (wI (wI σ5 M 19 (nI side)) M 20 0).1 M 19 = nI side := by rw [wI_a, if_neg (by omega), wI_a, if_pos ⟨rfl, rfl⟩]
  have v20 : (wI (wI σ5 M 19 (nI side)) M 20 0).1 M 20 = 0 := by rw [wI_a, if_pos ⟨rfl, rfl⟩]
  generalize wI (wI σ5 M 19 (nI side)) M 20 0 = σ6 at hF6 v19 v20
  rw [v19]
  obtain ⟨σ7, c1, c2, c3, c4, c5, c6, c7⟩ := plain_v (M := M) (σ := σ6) hs2
  rw [c1, Option.bind_some]
  rw [show σ7.1 M 19 = nI side from (c2.1 _ _ (by omega)).trans v19]
  have w19 : (wI σ7 M 33 (130 * nI side)).1 M 19 = nI side := by rw [wI_a, if_neg (by omega)]; exact (c2.1 _ _ (by omega)).trans v19
  rw [w19, show (130 : Int32) * nI side = nI (130 * side) from pk_mul 130 side, show (420 : Int32) * nI side = nI (420 * side) from pk_mul 420 side]
  have hF8 : Fs (fun k j => k = M ∧ (j = 33 ∨ j = 39)) σ7 (wI (wI σ7 M 33 (nI (130 * side))) M 39 (nI (420 * side))) := (Fs.rf.wI (by omega)).wI (by omega)
  have v33 : (wI (wI σ7 M 33 (nI (130 * side))) M 39 (nI (420 * side))).1 M 33 = nI (130 * side) := by rw [wI_a, if_neg (by omega), wI_a, if_pos ⟨rfl, rfl⟩]
  have v39 : (wI (wI σ7 M 33 (nI (130 * side))) M 39 (nI (420 * side))).1 M 39 = nI (420 * side) := by rw [wI_a, if_pos ⟨rfl, rfl⟩]
  generalize wI (wI σ7 M 33 (nI (130 * side))) M 39 (nI (420 * side)) = σ8 at hF8 v33 v39
  have G8 : Fs (fun k j => k = M ∧ (j = 11 ∨ j = 12 ∨ j = 13 ∨ j = 15 ∨ j = 19 ∨ j = 20 ∨ j = 33 ∨ j = 39) ∨ (k = M + 9 ∨ k = M + 14 ∨ k = M + 17) ∧ j = side ∨ k = M + 13 ∧ 8 * side ≤ j ∧ j < 8 * side + 8 ∨ (k = M + 18 ∨ k = M + 19) ∧ 4 * side ≤ j ∧ j < 4 * side + 4) σ4 σ8 := (((hF5.mo (fun k j q => by omega)).tr (hF6.mo (fun k j q => by omega))).tr (c2.mo (fun k j q => by omega))).tr (hF8.mo (fun k j q => by omega))
  have z0 : ∀ j, (j = 11 ∨ j = 12 ∨ j = 13 ∨ j = 15) → σ8.1 M j = 0 := fun j hj => by
    rw [hF8.1 _ _ (by omega), c2.1 _ _ (by omega), hF6.1 _ _ (by omega)]; exact v5 j hj
  have T8 : MTX σ8 M C L side X0 0 (420 * side) (130 * side) := by
    refine ⟨⟨⟨b3.fs G8 (fun k j y1 y2 q => by omega), z0 11 (by omega), Nat.zero_le _, fun j hj => by omega, z0 13 (by omega)⟩, z0 12 (by omega), v39, by omega, by omega, v33, Nat.le_refl _, by omega, by omega⟩, z0 15 (by omega), ⟨by omega, Nat.le_refl _⟩, ⟨?_, hs2⟩, ⟨?_, ?_, Nat.zero_le _⟩, ⟨?_, Nat.zero_le _⟩, fun h hh => ?_, ?_, fun x hx => absurd hx (Nat.not_lt_zero _), fun x hx => absurd hx (Nat.not_lt_zero _), fun x hx => absurd hx (Nat.not_lt_zero _), fun k hk => Or.inr ⟨?_, ?_, rfl, rfl⟩⟩
    · rw [hF8.1 _ _ (by omega), c2.1 _ _ (by omega)]; exact v19
    · rw [hF8.1 _ _ (by omega)]; exact c3
    · rw [hF8.1 _ _ (by omega), c2.1 _ _ (by omega)]; exact v20
    · rw [hF8.1 _ _ (by omega)]; exact c4
    · rw [hF8.1 _ _ (by omega)]; exact c6 h hh
    · rw [hF8.1 _ _ (by omega)]; exact c5
    · rw [hF8.1 _ _ (by omega)]; exact (c7 k hk).1
    · rw [hF8.1 _ _ (by omega)]; exact (c7 k hk).2
  obtain ⟨σ9, d1, d2, d3⟩ := m_tells hL 401 X0 0 _ _ σ8 T8 WX0 (by omega)
  rw [d1, Option.bind_some]
  refine ⟨σ9, rfl, (F4.tr (G8.mo (fun k j q => ?_)).fj).tr (d2.mo (fun k j q => Or.inl q) (fun k q => Or.inr q)), ?_, ?_, d3⟩
  · rcases q with ⟨q1, q2⟩ | q | q | q
    · by_cases z : j = 19
      · exact Or.inr (Or.inl ⟨q1, by omega⟩)
      · exact Or.inl (Or.inl ⟨q1, by omega⟩)
    · exact Or.inl (Or.inr (Or.inr (Or.inl q)))
    · exact Or.inl (Or.inr (Or.inr (Or.inr (Or.inl ⟨by omega, by omega, by omega⟩))))
    · exact Or.inl (Or.inr (Or.inr (Or.inr (Or.inr (Or.inr (Or.inl ⟨by omega, by omega, by omega⟩))))))
  · rw [d2.1 _ _ (by unfold SMt; omega), G8.1 _ _ (by omega)]; exact e2
  · rw [d2.1 _ _ (by unfold SMt; omega), hF8.1 _ _ (by omega), c2.1 _ _ (by omega)]; exact v19
end MTEXT
