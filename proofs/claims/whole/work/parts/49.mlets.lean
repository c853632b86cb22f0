/-! who lets whom in, in the model -/
abbrev Br : Type := List (Rp × Rp × Rp)
def MS (σ : Sg) (M ℓ n m : Nat) (bo : Nat → Bool) (dr : Nat → Int32) (lb : Nat → Br) (lf : Nat → Rp) : Prop := MX σ M ℓ n m ∧ (∀ e, e < m → σ.1 (M + 15) (6 * ℓ + e) = dr e) ∧ (∀ h, h < n → σ.1 (M + 13) (8 * ℓ + h) = nI (b2n (bo h))) ∧ ∀ k, k < 4 → LM σ M ℓ k (lb k) (lf k)
/-- the cells of the model that a row's hours are gone through in -/
def SR (M : Nat) : Nat → Nat → Prop := fun k j => k = M + 31 ∨ k = M + 32 ∨ SV M k j
theorem SR_r {M k j : Nat} (h1 : k ≠ M + 31) (h2 : k ≠ M + 32) (h3 : k ≠ M + 28) (h4 : k ≠ M + 29) (h5 : ¬ (k = M ∧ j = 46)) : ¬ SR M k j := fun q => by
  rcases q with q | q | q
  · exact h1 q
  · exact h2 q
  · exact SV_r h3 h4 h5 q
theorem SV_SR {M k j : Nat} (h : SV M k j) : SR M k j := Or.inr (Or.inr h)
theorem SLw_SV {M k j : Nat} (h : SLw M k j) : SV M k j := Or.inr h
section LETS
variable {M ℓ n m : Nat} {σ τ : Sg} {bo : Nat → Bool} {dr : Nat → Int32} {lb : Nat → Br} {lf : Nat → Rp}
theorem MS.fs (h : MS σ M ℓ n m bo dr lb lf) (hF : Fs (SR M) σ τ) : MS τ M ℓ n m bo dr lb lf := by
  refine ⟨h.1.fs hF (SR_r (by omega) (by omega) (by omega) (by omega) (by omega)) (SR_r (by omega) (by omega) (by omega) (by omega) (by omega)) (SR_r (by omega) (by omega) (by omega) (by omega) (by omega)), fun e he => ?_, fun w hw => ?_, fun k hk => (h.2.2.2 k hk).fs hF (fun x j a1 a2 => SR_r (by omega) (by omega) (by omega) (by omega) (by omega))⟩
  · rw [hF.1 _ _ (SR_r (by omega) (by omega) (by omega) (by omega) (by omega))]; exact h.2.1 e he
  · rw [hF.1 _ _ (SR_r (by omega) (by omega) (by omega) (by omega) (by omega))]; exact h.2.2.1 w hw
theorem MS.sv (h : MS σ M ℓ n m bo dr lb lf) (hF : Fs (SV M) σ τ) : MS τ M ℓ n m bo dr lb lf := h.fs (hF.mo (fun _ _ => SV_SR))
theorem row_sv (hF : Fs (SV M) σ τ) : τ.1 (M + 31) = σ.1 (M + 31) := hF.row (fun j => SV_r (by omega) (by omega) (by omega))
/-- a law's value behind 'looks' and some rows set -/
theorem tellsL (h : MS σ M ℓ n m bo dr lb lf) {k : Nat} (hk : k < 4) {v : Nat → Int32} (hv : ∀ j, j < 9 → σ.1 (M + 28) j = v j) {pl : Int32} (hp : pl = plain k v) : ∃ τ, Fs (SLw M) σ τ ∧ fX7_lawTells M (nI k) pl σ = some (lawV v (lb k) (lf k), τ) := by
  have hL := h.2.2.2 k hk
  have hd : lawW [] (dfl k) := by
    show rwf 20 (dfl k) 0 1
    unfold dfl
    rcases (show k = 0 ∨ k = 1 ∨ k = 2 ∨ k = 3 by omega) with rfl | rfl | rfl | rfl
    · exact ⟨by decide, Or.inl ⟨rfl, by decide, rfl⟩⟩
    · exact ⟨by decide, Or.inr (Or.inl ⟨rfl, by decide, by decide, rfl⟩)⟩
    · exact ⟨by decide, Or.inr (Or.inl ⟨rfl, by decide, by decide, rfl⟩)⟩
    · exact ⟨by decide, Or.inl ⟨rfl, by decide, rfl⟩⟩
  obtain ⟨τ, h1, h2⟩ := tells_v h.1 hk hL (pl := pl) (by rw [hp]; exact (lawV_c hv hd).symm)
  exact ⟨τ, h1, by rw [h2, lawV_c hv hL.1]⟩
theorem looksL (h : MS σ M ℓ n m bo dr lb lf) (tp wh : Int32) : ∃ τ, Fs (SV M) σ τ ∧ fX7_looks M tp wh σ = some τ ∧ ∀ j, j < 9 → τ.1 (M + 28) j = vs (σ.1 (M + 31)) n 0 tp 0 wh 0 j := by
  obtain ⟨τ, h1, h2, h3⟩ := looks_v h.1 tp wh
  exact ⟨τ, h1.mo (fun k j q => Or.inl q), h2, h3⟩
def letB (n : Nat) (lb : Nat → Br) (lf : Nat → Rp) (ρ : Nat → Int32) (o h : Nat) : Bool := decide (0 < lawV (vs ρ n (ρ (48 + h)) (ρ (16 + o)) (ρ (16 + h)) (nI h) 0) (lb 0) (lf 0))
theorem doesLet_v (h : MS σ M ℓ n m bo dr lb lf) {o w : Nat} (ho : o < 8) (hw : w < 8) : ∃ τ, Fs (SV M) σ τ ∧ fX7_doesLet M (nI o) (nI w) σ = some (nI (b2n (letB n lb lf (σ.1 (M + 31)) o w)), τ) := by
  obtain ⟨τ, h1, h2, h3⟩ := looksL h (σ.1 (M + 31) (16 + o)) (nI w)
  have s28 : ∀ i, SV M (M + 28) i := fun i => Or.inl rfl
  unfold fX7_doesLet
  rw [k16, if_pos (vin_nI (by omega) (by omega)), nI_clamp (n := 16 + o) (by omega), h2]
  dsimp only [Option.bind_some]
  rw [k48, if_pos (vin_nI (by omega) (by omega)), nI_clamp (n := 48 + w) (by omega), row_sv h1, k16, if_pos (vin_nI (by omega) (by omega)), nI_clamp (n := 16 + w) (by omega)]
  have F11 := h1.wI (k := M + 28) (i := 2) (v := σ.1 (M + 31) (48 + w)) (s28 2)
  rw [row_sv F11]
  have F15 := F11.wI (k := M + 28) (i := 4) (v := σ.1 (M + 31) (16 + w)) (s28 4)
  obtain ⟨υ, g1, g2⟩ := tellsL (h.sv F15) (k := 0) (by decide) (v := vs (σ.1 (M + 31)) n (σ.1 (M + 31) (48 + w)) (σ.1 (M + 31) (16 + o)) (σ.1 (M + 31) (16 + w)) (nI w) 0) (fun j hj => by
    simp only [wI_k, upd]
    rw [h3 j hj]
    unfold vs
    rcases (show j = 0 ∨ j = 1 ∨ j = 2 ∨ j = 3 ∨ j = 4 ∨ j = 5 ∨ j = 6 ∨ j = 7 ∨ j = 8 by omega) with rfl | rfl | rfl | rfl | rfl | rfl | rfl | rfl | rfl <;> simp) (pl := 1) rfl
  have g2 : fX7_lawTells M 0 1 _ = _ := g2
  rw [g2]
  dsimp only [Option.bind_some]
  refine ⟨υ, F15.tr (g1.mo (fun _ _ => SLw_SV)), ?_⟩
  unfold letB
  by_cases hp : 0 < lawV (vs (σ.1 (M + 31)) n (σ.1 (M + 31) (48 + w)) (σ.1 (M + 31) (16 + o)) (σ.1 (M + 31) (16 + w)) (nI w) 0) (lb 0) (lf 0)
  · rw [if_neg (Int32.not_le.mpr hp), decide_eq_true hp]; rfl
  · rw [if_pos (Int32.not_lt.mp hp), decide_eq_false hp]; rfl
def quaV (n : Nat) (lb : Nat → Br) (lf : Nat → Rp) (ρ : Nat → Int32) (h : Nat) : Int32 := clamp 0 99 (lawV (vs ρ n (ρ (48 + h)) (ρ (16 + h)) 0 (nI h) 0) (lb 1) (lf 1))
theorem quarrelOf_v (h : MS σ M ℓ n m bo dr lb lf) {w : Nat} (hw : w < 8) : ∃ τ, Fs (SV M) σ τ ∧ fX7_quarrelOf M (nI w) σ = some (quaV n lb lf (σ.1 (M + 31)) w, τ) := by
  obtain ⟨τ, h1, h2, h3⟩ := looksL h (σ.1 (M + 31) (16 + w)) (nI w)
  have s28 : ∀ i, SV M (M + 28) i := fun i => Or.inl rfl
  unfold fX7_quarrelOf
  rw [k16, if_pos (vin_nI (by omega) (by omega)), nI_clamp (n := 16 + w) (by omega), h2]
  dsimp only [Option.bind_some]
  rw [k48, if_pos (vin_nI (by omega) (by omega)), nI_clamp (n := 48 + w) (by omega), row_sv h1]
  have F11 := h1.wI (k := M + 28) (i := 2) (v := σ.1 (M + 31) (48 + w)) (s28 2)
  have e2 : (wI τ (M + 28) 2 (σ.1 (M + 31) (48 + w))).1 (M + 28) 2 = σ.1 (M + 31) (48 + w) := by rw [wI_k, upd_k]
  obtain ⟨υ, g1, g2⟩ := tellsL (h.sv F11) (k := 1) (by decide) (v := vs (σ.1 (M + 31)) n (σ.1 (M + 31) (48 + w)) (σ.1 (M + 31) (16 + w)) 0 (nI w) 0) (fun j hj => by
    simp only [wI_k, upd]
    rw [h3 j hj]
    unfold vs
    rcases (show j = 0 ∨ j = 1 ∨ j = 2 ∨ j = 3 ∨ j = 4 ∨ j = 5 ∨ j = 6 ∨ j = 7 ∨ j = 8 by omega) with rfl | rfl | rfl | rfl | rfl | rfl | rfl | rfl | rfl <;> simp) (pl := (wI τ (M + 28) 2 (σ.1 (M + 31) (48 + w))).1 (M + 28) 2) (by rw [e2]; rfl)
  have g2 : fX7_lawTells M 1 _ _ = _ := g2
  rw [g2]
  dsimp only [Option.bind_some]
  rw [within_v]
  exact ⟨υ, F11.tr (g1.mo (fun _ _ => SLw_SV)), rfl⟩
def renV (n m : Nat) (lb : Nat → Br) (lf : Nat → Rp) (ρ : Nat → Int32) (h : Nat) : Int32 := clamp 0 99 (lawV (vs ρ n 0 (ρ (16 + h)) 0 (nI h) (nI (kyN ρ (nI h) m))) (lb 2) (lf 2))
theorem rentOf_v (h : MS σ M ℓ n m bo dr lb lf) {w : Nat} (hw : w < 8) : ∃ τ, Fs (SV M) σ τ ∧ fX7_rentOf M (nI w) σ = some (renV n m lb lf (σ.1 (M + 31)) w, τ) := by
  obtain ⟨τ, h1, h2, h3⟩ := looksL h (σ.1 (M + 31) (16 + w)) (nI w)
  have s28 : ∀ i, SV M (M + 28) i := fun i => Or.inl rfl
  unfold fX7_rentOf
  rw [k16, if_pos (vin_nI (by omega) (by omega)), nI_clamp (n := 16 + w) (by omega), h2]
  dsimp only [Option.bind_some]
  rw [keysIn_v (h.sv h1).1, row_sv h1]
  dsimp only [Option.bind_some]
  have F14 := h1.wI (k := M + 28) (i := 8) (v := nI (kyN (σ.1 (M + 31)) (nI w) m)) (s28 8)
  have e6 : (wI τ (M + 28) 8 (nI (kyN (σ.1 (M + 31)) (nI w) m))).1 (M + 28) 6 = nI (cnt8 (stF n (σ.1 (M + 31)) 0)) := by rw [wI_k, upd_n (by decide), h3 6 (by decide)]; rfl
  obtain ⟨υ, g1, g2⟩ := tellsL (h.sv F14) (k := 2) (by decide) (v := vs (σ.1 (M + 31)) n 0 (σ.1 (M + 31) (16 + w)) 0 (nI w) (nI (kyN (σ.1 (M + 31)) (nI w) m))) (fun j hj => by
    simp only [wI_k, upd]
    rw [h3 j hj]
    unfold vs
    rcases (show j = 0 ∨ j = 1 ∨ j = 2 ∨ j = 3 ∨ j = 4 ∨ j = 5 ∨ j = 6 ∨ j = 7 ∨ j = 8 by omega) with rfl | rfl | rfl | rfl | rfl | rfl | rfl | rfl | rfl <;> simp) (pl := (wI τ (M + 28) 8 (nI (kyN (σ.1 (M + 31)) (nI w) m))).1 (M + 28) 6) (by rw [e6]; rfl)
  have g2 : fX7_lawTells M 2 _ _ = _ := g2
  rw [g2]
  dsimp only [Option.bind_some]
  rw [within_v]
  exact ⟨υ, F14.tr (g1.mo (fun _ _ => SLw_SV)), rfl⟩
def latV (n : Nat) (lb : Nat → Br) (lf : Nat → Rp) (ρ : Nat → Int32) (h : Nat) : Int32 := clamp 0 100 (lawV (vs ρ n 0 (ρ (16 + h)) 0 (nI h) 0) (lb 3) (lf 3))
theorem lateOf_v (h : MS σ M ℓ n m bo dr lb lf) {w : Nat} (hw : w < 8) : ∃ τ, Fs (SV M) σ τ ∧ fX7_lateOf M (nI w) σ = some (latV n lb lf (σ.1 (M + 31)) w, τ) := by
  obtain ⟨τ, h1, h2, h3⟩ := looksL h (σ.1 (M + 31) (16 + w)) (nI w)
  unfold fX7_lateOf
  rw [k16, if_pos (vin_nI (by omega) (by omega)), nI_clamp (n := 16 + w) (by omega), h2]
  dsimp only [Option.bind_some]
  obtain ⟨υ, g1, g2⟩ := tellsL (h.sv h1) (k := 3) (by decide) (v := vs (σ.1 (M + 31)) n 0 (σ.1 (M + 31) (16 + w)) 0 (nI w) 0) h3 (pl := 0) rfl
  have g2 : fX7_lawTells M 3 _ _ = _ := g2
  rw [g2]
  dsimp only [Option.bind_some]
  rw [within_v]
  exact ⟨υ, h1.tr (g1.mo (fun _ _ => SLw_SV)), rfl⟩
end LETS
