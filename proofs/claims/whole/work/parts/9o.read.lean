/-! read, on both sides -/
section READ
variable {M t t' ℓ n m : Nat} {bo : Nat → Bool} {dr : Nat → Int32} {lb : Nat → Br} {lf : Nat → Rp} {sd : Int32} {kw : Nat → Int64} {σ τ : Sg} {ρ : Nat → Int32}
/-- what a read that finds a fault writes -/
def SRd (M t' side : Nat) : Nat → Nat → Prop := fun k j => SCt t' k j ∨ k = 0 ∧ (j = 1 ∨ j = 2) ∨ SMr M side k j ∨ k = M ∧ j = 17
def FRd (M t' side : Nat) (σ τ : Sg) : Prop := (∀ k j, ¬ SRd M t' side k j → τ.1 k j = σ.1 k j) ∧ τ.2.1 (M + 7) = σ.2.1 (M + 7) ∧ ∀ k j, ¬ (k = 26 ∧ j = 2) → τ.2.2.1 k j = σ.2.2.1 k j
theorem CE.e {a : Nat} (h : CE σ a t n m sd ρ) (e : ∀ x j, a ≤ x → x ≤ a + 8 → τ.1 x j = σ.1 x j) (er : τ.2.2.1 a 0 = σ.2.2.1 a 0) : CE τ a t n m sd ρ := by
  obtain ⟨h1, ⟨⟨c1, c2, c3, c4, c5, c6, c7⟩, ch, ce⟩, h3, m1, m2, m3, m4⟩ := h
  refine ⟨er.trans h1, ⟨⟨?_, ?_, ?_, ?_, ?_, ?_, ?_⟩, fun w hw => ?_, fun x hx => ?_⟩, h3, ?_, ?_, ?_, ?_⟩
  any_goals (rw [e _ _ (by omega) (by omega)]; assumption)
  · have := ch w hw
    rw [e _ _ (by omega) (by omega), e _ _ (by omega) (by omega), e _ _ (by omega) (by omega), e _ _ (by omega) (by omega), e _ _ (by omega) (by omega), e _ _ (by omega) (by omega)]
    exact this
  · have := ce x hx
    rw [e _ _ (by omega) (by omega), e _ _ (by omega) (by omega)]
    exact this
/-- cells that reading leaves -/
theorem rd_M {side k j : Nat} (hM : 442 ≤ M) (ht : t' = 2 ∨ t' = 14) (hk : M ≤ k) (h : SRd M t' side k j) : SMr M side k j ∨ k = M ∧ j = 17 := by
  rcases h with h | h | h | h
  · exact absurd h (fun z => by unfold SCt at z; omega)
  · omega
  · exact Or.inl h
  · exact Or.inr h
theorem rd_C {side k j : Nat} (hM : 442 ≤ M) (hk : k < M) (h : SRd M t' side k j) : SCt t' k j ∨ k = 0 ∧ (j = 1 ∨ j = 2) := by
  rcases h with h | h | h | h
  · exact Or.inl h
  · exact Or.inr h
  · exact absurd h (fun z => by unfold SMr SMt at z; omega)
  · omega
theorem MS.rd (hM : 442 ≤ M) (ht : t' = 2 ∨ t' = 14) (h : MS σ M ℓ n m bo dr lb lf) (e : ∀ k j, ¬ SRd M t' (1 - ℓ) k j → τ.1 k j = σ.1 k j) : MS τ M ℓ n m bo dr lb lf := by
  obtain ⟨⟨h1, h2, h3, h4, h5, h6⟩, g1, g2, g3⟩ := h
  have e' : ∀ k j, M ≤ k → ¬ (SMr M (1 - ℓ) k j ∨ k = M ∧ j = 17) → τ.1 k j = σ.1 k j := fun k j hk hn => e k j (fun z => hn (rd_M hM ht hk z))
  refine ⟨⟨h1, (e' _ _ (by omega) (by unfold SMr SMt; omega)).trans h2, h3, (e' _ _ (by omega) (by unfold SMr SMt; omega)).trans h4, h5, (e' _ _ (by omega) (by unfold SMr SMt; omega)).trans h6⟩, fun x hx => (e' _ _ (by omega) (by unfold SMr SMt; omega)).trans (g1 x hx), fun x hx => (e' _ _ (by omega) (by unfold SMr SMt; omega)).trans (g2 x hx), fun k hk => ?_⟩
  obtain ⟨w, r⟩ := g3 k hk
  refine ⟨w, ?_⟩
  rw [e' (M + 18) _ (by omega) (by unfold SMr SMt; omega), e' (M + 19) _ (by omega) (by unfold SMr SMt; omega)]
  rcases r with ⟨b, last, a1, a2, a3, a4⟩ | r
  · refine Or.inl ⟨b, last, a1, a2, a3, fun υ u1 u2 => a4 υ (fun k j b1 b2 b3 b4 => (u1 k j b1 b2 b3 b4).trans (e' _ _ (by omega) (by unfold SMr SMt; omega))) (fun k j b1 b2 b3 => (u2 k j b1 b2 b3).trans (e' _ _ (by omega) (by unfold SMr SMt; omega)))⟩
  · exact Or.inr r
theorem RLp.rd (h : RLp M t t' ℓ n m bo dr lb lf sd kw σ) (hF : FRd M t' (1 - ℓ) σ τ) (hP : RP M τ) : RLp M t t' ℓ n m bo dr lb lf sd kw τ := by
  obtain ⟨⟨hM, ht, ht1, ht2, ht3, ht4, ht5, ht6, ht7⟩, hN, ⟨u, pn, hu, u1, u2, u3, u4⟩, ⟨hs, s1, s2, s3⟩, ⟨k, k1, k2, k3, k4⟩, -, f1, f2, f3⟩ := h
  have hl := ht4.1.1
  have htt : t' = 2 ∨ t' = 14 := by omega
  obtain ⟨e, eJ, eT⟩ := hF
  have eM : ∀ k j, M ≤ k → ¬ (SMr M (1 - ℓ) k j ∨ k = M ∧ j = 17) → τ.1 k j = σ.1 k j := fun k j hk hn => e k j (fun z => hn (rd_M hM htt hk z))
  have eC : ∀ k j, k < M → ¬ (SCt t' k j ∨ k = 0 ∧ (j = 1 ∨ j = 2)) → τ.1 k j = σ.1 k j := fun k j hk hn => e k j (fun z => hn (rd_C hM hk z))
  have e30 : τ.1 (M + 30) = σ.1 (M + 30) := funext fun j => eM _ _ (by omega) (by unfold SMr SMt; omega)
  have e33 : ∀ j, τ.1 (M + 33) j = σ.1 (M + 33) j := fun j => eM _ _ (by omega) (by unfold SMr SMt; omega)
  have e39 : ∀ j, τ.1 (M + 39) j = σ.1 (M + 39) j := fun j => eM _ _ (by omega) (by unfold SMr SMt; omega)
  have ring : ∀ a, 31 ≤ a → a + 8 < 442 → ∀ x j, a ≤ x → x ≤ a + 8 → τ.1 x j = σ.1 x j := fun a b1 b2 x j b3 b4 => eC x j (by omega) (by unfold SCt; omega)
  refine ⟨⟨hM, ht, (eT _ _ (by omega)).trans ht1, (eT _ _ (by omega)).trans ht2, ?_, ht4.rd hM htt e, (eC _ _ (by omega) (by unfold SCt; omega)).trans ht5, (eM _ _ (by omega) (by unfold SMr SMt; omega)).trans ht6, ht7⟩, ?_, ⟨u, pn, hu, (eC _ _ (by omega) (by unfold SCt; omega)).trans u1, (eM _ _ (by omega) (by unfold SMr SMt; omega)).trans u2, (eC _ _ (by omega) (by unfold SCt; omega)).trans u3, fun i hi => ?_⟩, ⟨hs, (eC _ _ (by omega) (by unfold SCt; omega)).trans s1, s2, fun s hs3 => ⟨(eM _ _ (by omega) (by unfold SMr SMt; omega)).trans (s3 s hs3).1, fun q => ?_⟩⟩, ⟨k, k1, (eC _ _ (by omega) (by unfold SCt; omega)).trans k2, (eM _ _ (by omega) (by unfold SMr SMt; omega)).trans k3, fun i hi => ?_⟩, hP, fun i hi => (eT _ _ (by omega)).trans (f1 i hi), fun i hi => (eT _ _ (by omega)).trans (f2 i hi), fun k hk => by rw [eJ]; exact f3 k hk⟩
  · exact ht3.fs (S := fun k j => SCt t' k j ∨ k = 0 ∨ M ≤ k) (τ := (τ.1, σ.2)) ⟨fun k j hk => eC k j (by omega) (fun z => hk (z.elim Or.inl (fun z => Or.inr (Or.inl z.1)))), rfl⟩ (fun x j a1 a2 q => by unfold SCt at q; omega)
  · rw [e30]; exact hN.e (ring 31 (by omega) (by omega)) (eT _ _ (by omega))
  · rw [funext fun x => e33 (88 * i + x)]; exact (u4 i hi).e (ring _ (by omega) (by omega)) (eT _ _ (by omega))
  · rw [funext fun x => e39 (88 * s + x)]; exact ((s3 s hs3).2 q).e (ring _ (by omega) (by omega)) (eT _ _ (by omega))
  · rw [eC 53 i (by omega) (by unfold SCt; omega), eM (M + 35) i (by omega) (by unfold SMr SMt; omega), eM (M + 36) i (by omega) (by unfold SMr SMt; omega), eC 0 15 (by omega) (by unfold SCt; omega)]; exact k4 i hi
theorem FT.rd {side : Nat} (hM : 442 ≤ M) (ht : t' = 2 ∨ t' = 14) (h : FT t' σ τ) : FRd M t' side σ τ := ⟨fun k j hk => h.1 k j (fun z => hk (Or.inl z)), h.2.1 _ (by omega), h.2.2.1⟩
theorem FRd.tr {side : Nat} {υ : Sg} (h : FRd M t' side σ τ) (h2 : FRd M t' side τ υ) : FRd M t' side σ υ := ⟨fun k j hk => (h2.1 k j hk).trans (h.1 k j hk), h2.2.1.trans h.2.1, fun k j hk => (h2.2.2 k j hk).trans (h.2.2 k j hk)⟩
theorem Fs.rd {S : Nat → Nat → Prop} {side : Nat} (h : Fs S σ τ) (hS : ∀ k j, S k j → SRd M t' side k j) : FRd M t' side σ τ := ⟨fun k j hk => h.1 k j (fun z => hk (hS k j z)), by rw [h.2], fun _ _ _ => by rw [h.2]⟩
theorem FJ.rd {side : Nat} (h : FJ (SMr M side) (fun k => k = M + 6 ∨ k = M + 8) σ τ) : FRd M t' side σ τ := ⟨fun k j hk => h.1 k j (fun z => hk (Or.inr (Or.inr (Or.inl z)))), h.2.1 _ (by omega), fun _ _ _ => by rw [h.2.2]⟩
/-- the model's law, as its reading leaves it -/
theorem MTX.ms {L p s b side : Nat} {C : Nat → Nat} {Y : TS} (h : MTX σ M C L side Y p s b) (hW : WX Y) (h18 : σ.1 M 18 = nI side) : MS σ M side Y.n Y.m Y.bo Y.dr Y.lb Y.lf := by
  obtain ⟨h1, h2, h3, g1, g2, g3, g4, g5, g6, g7, g8, g9⟩ := h
  have hB := h1.2.2.2.2.2.2
  have hS := h1.2.2.2.1
  have hp := h1.1.2.2.1
  refine ⟨⟨g1.2, h18, g2.2.2, g2.1, g3.2, g3.1⟩, fun e he => (g8 e he).1, fun x hx => g4 x (by have := g2.2.2; omega), fun k hk => ⟨hW.2.2.2.1 k hk, ?_⟩⟩
  rcases g9 k hk with ⟨bb, last, a1, a2, a3, a4⟩ | ⟨a1, a2, a3⟩
  · exact Or.inl ⟨bb, last, a1, a2, a3, fun υ u1 u2 => a4 υ (fun k j b1 b2 b3 b4 => u1 k j b1 b2 b3 (by omega)) (fun j b1 b2 => ⟨u2 _ j (Or.inl rfl) b1 (by omega), u2 _ j (Or.inr rfl) b1 (by omega)⟩)⟩
  · exact Or.inr ⟨0, a1, a2, a3⟩
theorem held_v : ∃ τ, lp (fun st : Int32 × Sg => bX7_read_219 M st.1 st.2) (0, σ) = some τ ∧ Fs (fun x _ => x = M + 38) σ τ ∧ ∀ s, s < 3 → τ.1 (M + 38) s = 0 := by
  obtain ⟨σ1, a1, a2, a3⟩ := lp_inv (f := fun st : Int32 × Sg => bX7_read_219 M st.1 st.2) 3 (fun i τ => Fs (fun x _ => x = M + 38) σ τ ∧ ∀ h, h < i → τ.1 (M + 38) h = 0) (fun i τ hi hI => by
    refine ⟨wI τ (M + 38) i 0, ?_, hI.1.wI rfl, fun h hh => ?_⟩
    · show bX7_read_219 M (nI i) τ = _
      unfold bX7_read_219
      rw [if_neg (show ¬ (3 : Int32) ≤ nI i from le_nI (a := 3) (by omega) (by omega) hi)]
      simp (disch := omega) only [vif, nI_clamp]
      rw [nI_s]
      rfl
    · rw [wI_a]
      by_cases z : h = i
      · rw [if_pos ⟨rfl, z⟩]
      · rw [if_neg (by omega)]; exact hI.2 h (by omega)) (fun τ hI => by
    show bX7_read_219 M (nI 3) τ = _
    unfold bX7_read_219
    rw [if_pos (show (3 : Int32) ≤ nI 3 by decide)]) (σ := σ) ⟨Fs.rf, fun h hh => by omega⟩
  exact ⟨σ1, a1, a2, a3⟩
end READ
