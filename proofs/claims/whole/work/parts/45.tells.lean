def SLw (M : Nat) : Nat → Nat → Prop := fun k j => k = M + 29 ∨ (k = M ∧ j = 46)
def lawM (σ : Sg) (M : Nat) : Nat → List (Rp × Rp × Rp) → Rp → Nat → Prop
  | b, [], f, last => last = b + 1 ∧ ∃ p, σ.1 (M + 20) b = 0 ∧ σ.1 (M + 23) b = nI p ∧ σ.1 (M + 24) b = nI (p + f.length) ∧ segM (σ.1 (M + 25)) (σ.1 (M + 26)) p f ∧ p + f.length ≤ 840
  | b, (u, t, w) :: bs, f, last => (∃ p, ¬ σ.1 (M + 20) b = 0 ∧ σ.1 (M + 21) b = nI p ∧ σ.1 (M + 22) b = nI (p + u.length) ∧ σ.1 (M + 23) b = nI (p + u.length + t.length) ∧ σ.1 (M + 24) b = nI (p + u.length + t.length + w.length) ∧ segM (σ.1 (M + 25)) (σ.1 (M + 26)) p u ∧ segM (σ.1 (M + 25)) (σ.1 (M + 26)) (p + u.length) t ∧ segM (σ.1 (M + 25)) (σ.1 (M + 26)) (p + u.length + t.length) w ∧ p + u.length + t.length + w.length ≤ 840) ∧ lawM σ M (b + 1) bs f last
theorem lawM_lt {σ : Sg} {M : Nat} {f : Rp} : ∀ {bs : List (Rp × Rp × Rp)} {b last : Nat}, lawM σ M b bs f last → b < last
  | [], b, last, h => by have := h.1; omega
  | (u, t, w) :: bs, b, last, h => by have := lawM_lt h.2; omega
/-- the rows that a law stands in -/
def lawR (M : Nat) (σ τ : Sg) : Prop := τ.1 (M + 20) = σ.1 (M + 20) ∧ τ.1 (M + 21) = σ.1 (M + 21) ∧ τ.1 (M + 22) = σ.1 (M + 22) ∧ τ.1 (M + 23) = σ.1 (M + 23) ∧ τ.1 (M + 24) = σ.1 (M + 24) ∧ τ.1 (M + 25) = σ.1 (M + 25) ∧ τ.1 (M + 26) = σ.1 (M + 26)
theorem lawM_c {σ τ : Sg} {M : Nat} (h : lawR M σ τ) {f : Rp} : ∀ {bs : List (Rp × Rp × Rp)} {b last : Nat}, lawM σ M b bs f last → lawM τ M b bs f last
  | [], b, last, h0 => by
    obtain ⟨h1, h2, h3, h4, h5, h6, h7⟩ := h
    unfold lawM at h0 ⊢
    rw [h1, h4, h5, h6, h7]
    exact h0
  | (u, t, w) :: bs, b, last, h0 => by
    have h9 := lawM_c h h0.2
    obtain ⟨h1, h2, h3, h4, h5, h6, h7⟩ := h
    unfold lawM at h0 ⊢
    rw [h1, h2, h3, h4, h5, h6, h7]
    exact ⟨h0.1, h9⟩
theorem Fs.lawR {M : Nat} {S : Nat → Nat → Prop} {σ τ : Sg} (h : Fs S σ τ) (hs : ∀ k j, M + 20 ≤ k → k ≤ M + 26 → ¬ S k j) : lawR M σ τ := ⟨h.row (fun j => hs _ j (by omega) (by omega)), h.row (fun j => hs _ j (by omega) (by omega)), h.row (fun j => hs _ j (by omega) (by omega)), h.row (fun j => hs _ j (by omega) (by omega)), h.row (fun j => hs _ j (by omega) (by omega)), h.row (fun j => hs _ j (by omega) (by omega)), h.row (fun j => hs _ j (by omega) (by omega))⟩
theorem SLw_r {M k j : Nat} (h1 : M + 1 ≤ k) (h2 : k ≤ M + 28) : ¬ SLw M k j := fun q => by
  rcases q with q | q
  · omega
  · omega
noncomputable def NB (M : Nat) (p1 p2 x3 : Int32) : Int32 × Sg → Option ((Int32 × Sg) ⊕ ((Sg) ⊕ ((Int32 × Sg) ⊕ (Sg)))) := fun st => bX7_lawTells_39 M p1 p2 x3 st.1 st.2
noncomputable def KM (M : Nat) : ((Sg) ⊕ ((Int32 × Sg) ⊕ (Sg))) → Option (Int32 × Sg) := fun o27 => Sum.elim (fun σ28 => some ((0 : Int32), σ28)) (fun o27_ => Sum.elim (fun q39 => let y30 := q39.1; let σ29 := q39.2;  if vin y30 260 then ((fX7_termOf M (σ29.1 (M + 23) ((y30).toNatClampNeg)) (σ29.1 (M + 24) ((y30).toNatClampNeg)) σ29).bind (fun q38 => let r36 := q38.1; let σ35 := q38.2; if (σ35.1 M 46) = 0 then (some (r36, σ35)) else (some ((0 : Int32), σ35)))) else none) (fun o27__ => (fun σ40 => some ((0 : Int32), σ40)) o27__) o27_) o27
/-- the last term of a branch -/
theorem KM_t {M b p : Nat} {r : Rp} {σ : Sg} (hb : b < 260) (h3 : σ.1 (M + 23) b = nI p) (h4 : σ.1 (M + 24) b = nI (p + r.length)) (hg : segM (σ.1 (M + 25)) (σ.1 (M + 26)) p r) (hw : rwf 20 r 0 1) (hp : p + r.length ≤ 840) (h0 : σ.1 M 46 = 0) : ∃ τ, Fs (SLw M) σ τ ∧ KM M (.inr (.inl (nI b, σ))) = some (r1 (rpn (σ.1 (M + 28)) r []), τ) := by
  obtain ⟨τ, hF, hc⟩ := termOf_v (M := M) (σ := σ) hg hw hp
  have hF2 : Fs (SLw M) σ τ := hF.fs (fun k j q => Or.inl q)
  have e0 : KM M (.inr (.inl (nI b, σ))) = (fX7_termOf M (nI p) (nI (p + r.length)) σ).bind (fun q38 => if (q38.2.1 M 46) = 0 then (some (q38.1, q38.2)) else (some ((0 : Int32), q38.2))) := by
    unfold KM
    simp only [Sum.elim_inr, Sum.elim_inl]
    rw [if_pos (vin_nI hb (by omega)), nI_clamp (n := b) (by omega), h3, h4]
  rcases hc with ⟨x, hr, he⟩ | ⟨hr, he⟩
  · refine ⟨τ, hF2, ?_⟩
    have h46 : τ.1 M 46 = 0 := by rw [hF.1 M (show M ≠ M + 29 by omega)]; exact h0
    rw [e0, he, hr]
    show (if τ.1 M 46 = 0 then some (x, τ) else some (0, τ)) = _
    rw [if_pos h46]
    rfl
  · refine ⟨wI τ M 46 1, hF2.wI (Or.inr ⟨rfl, rfl⟩), ?_⟩
    rw [e0, he, hr]
    show (if (wI τ M 46 1).1 M 46 = 0 then some (0, wI τ M 46 1) else some (0, wI τ M 46 1)) = _
    rw [ite_self]
    rfl
theorem tells_run {M : Nat} {p1 p2 : Int32} {x last : Nat} (hx : x < 8) (hl : last ≤ 260) {f : Rp} : ∀ (bs : List (Rp × Rp × Rp)) (b : Nat) (σ : Sg), lawM σ M b bs f last → lawW bs f → σ.1 (M + 19) x = nI last → σ.1 M 46 = 0 → ∃ τ, Fs (SLw M) σ τ ∧ (lp (NB M p1 p2 (nI x)) (nI b, σ)).bind (KM M) = some (lawV (σ.1 (M + 28)) bs f, τ) := by
  intro bs
  induction bs with
  | nil =>
    intro b σ hm hw h19 h46
    obtain ⟨hlast, p, h20, h23, h24, hg, hp⟩ := hm
    have hb : NB M p1 p2 (nI x) (nI b, σ) = some (.inr (.inr (.inl (nI b, σ)))) := by
      unfold NB bX7_lawTells_39
      dsimp only
      rw [if_pos (vin_nI hx (by omega)), nI_clamp (n := x) (by omega), h19, if_neg (le_nI (by omega) (by omega) (by omega)), if_pos (vin_nI (by omega) (by omega)), nI_clamp (n := b) (by omega), if_pos h20]
    rw [lp_r hb]
    exact KM_t (by omega) h23 h24 hg hw hp h46
  | cons q bs ih =>
    obtain ⟨u, t, w⟩ := q
    intro b σ hm hw h19 h46
    have hlt := lawM_lt hm
    have hm2 := hm.2
    obtain ⟨⟨p, h20, h21, h22, h23, h24, g1, g2, g3, hp⟩, -⟩ := hm
    obtain ⟨w1, w2, w3, w4⟩ := hw
    have nM : ¬ s1 (M + 29) M := show M ≠ M + 29 by omega
    obtain ⟨τ, hF, hcu⟩ := termOf_v (M := M) (σ := σ) g1 w1 (by omega)
    have hF2 : Fs (SLw M) σ τ := hF.fs (fun k j q => Or.inl q)
    -- the body, up to the two terms
    have hb : NB M p1 p2 (nI x) (nI b, σ) = (fX7_termOf M (nI p) (nI (p + u.length)) σ).bind (fun q18 => (fX7_termOf M (q18.2.1 (M + 22) b) (q18.2.1 (M + 23) b) q18.2).bind (fun q25 => if (q25.2.1 M 46) = 0 then (if q18.1 < q25.1 then (some (Sum.inr (Sum.inr (Sum.inl (nI b, q25.2))))) else (some (Sum.inl (nI (b + 1), q25.2)))) else (some (Sum.inr (Sum.inl q25.2))))) := by
      unfold NB bX7_lawTells_39
      dsimp only
      rw [if_pos (vin_nI hx (by omega)), nI_clamp (n := x) (by omega), h19, if_neg (le_nI (by omega) (by omega) (by omega)), if_pos (vin_nI (by omega) (by omega)), nI_clamp (n := b) (by omega), if_neg h20, h21, h22, nI_s]
    have two : ∀ (a : Int32) (υ : Sg), Fs (SLw M) σ υ → fX7_termOf M (nI p) (nI (p + u.length)) σ = some (a, υ) → ∃ ω, Fs (SLw M) υ ω ∧ ((∃ c, rpn (σ.1 (M + 28)) t [] = some [c] ∧ ω.1 M 46 = υ.1 M 46 ∧ NB M p1 p2 (nI x) (nI b, σ) = if υ.1 M 46 = 0 then (if a < c then (some (Sum.inr (Sum.inr (Sum.inl (nI b, ω))))) else (some (Sum.inl (nI (b + 1), ω)))) else (some (Sum.inr (Sum.inl ω)))) ∨ (rpn (σ.1 (M + 28)) t [] = none ∧ NB M p1 p2 (nI x) (nI b, σ) = some (Sum.inr (Sum.inl ω)))) := by
      intro a υ hυ he
      have hR := hυ.lawR (M := M) (fun k j a1 a2 => SLw_r (by omega) (by omega))
      have h28 : υ.1 (M + 28) = σ.1 (M + 28) := hυ.row (fun j => SLw_r (by omega) (by omega))
      obtain ⟨ω, hG, hct⟩ := termOf_v (M := M) (σ := υ) (p := p + u.length) (r := t) (by rw [hR.2.2.2.2.2.1, hR.2.2.2.2.2.2]; exact g2) w2 (by omega)
      rw [h28] at hct
      have e22 : υ.1 (M + 22) b = nI (p + u.length) := by rw [hR.2.2.1]; exact h22
      have e23 : υ.1 (M + 23) b = nI (p + u.length + t.length) := by rw [hR.2.2.2.1]; exact h23
      rw [he] at hb
      have hb : NB M p1 p2 (nI x) (nI b, σ) = (fX7_termOf M (υ.1 (M + 22) b) (υ.1 (M + 23) b) υ).bind (fun q25 => if (q25.2.1 M 46) = 0 then (if a < q25.1 then (some (Sum.inr (Sum.inr (Sum.inl (nI b, q25.2))))) else (some (Sum.inl (nI (b + 1), q25.2)))) else (some (Sum.inr (Sum.inl q25.2)))) := hb
      rw [e22, e23] at hb
      rcases hct with ⟨c, hr, he2⟩ | ⟨hr, he2⟩
      · have h46e : ω.1 M 46 = υ.1 M 46 := by rw [hG.1 M nM]
        refine ⟨ω, hG.fs (fun k j q => Or.inl q), Or.inl ⟨c, hr, h46e, ?_⟩⟩
        rw [hb, he2, ← h46e]
        rfl
      · refine ⟨wI ω M 46 1, (hG.fs (S := SLw M) (fun k j q => Or.inl q)).wI (Or.inr ⟨rfl, rfl⟩), Or.inr ⟨hr, ?_⟩⟩
        rw [hb, he2]
        show (if (wI ω M 46 1).1 M 46 = 0 then _ else _) = _
        rw [wI_k, upd_k, if_neg (by decide)]
    show ∃ τ, Fs (SLw M) σ τ ∧ (lp (NB M p1 p2 (nI x)) (nI b, σ)).bind (KM M) = some (lawV (σ.1 (M + 28)) ((u, t, w) :: bs) f, τ)
    unfold lawV
    rcases hcu with ⟨a, hr, he⟩ | ⟨hr, he⟩
    · obtain ⟨ω, hG, hct⟩ := two a τ hF2 he
      have h46τ : τ.1 M 46 = 0 := by rw [hF.1 M nM]; exact h46
      have hap := rpn_app (σ.1 (M + 28)) t [] [a] 1 w2
      rw [hr]
      dsimp only
      rcases hct with ⟨c, hr2, h46e, hbb⟩ | ⟨hr2, hbb⟩
      · rw [hr2] at hap
        have hap : rpn (σ.1 (M + 28)) t [a] = some [c, a] := hap
        rw [hap]
        dsimp only
        rw [if_pos h46τ] at hbb
        have hFω := hF2.tr hG
        have hR := hFω.lawR (M := M) (fun k j a1 a2 => SLw_r (by omega) (by omega))
        have h28 : ω.1 (M + 28) = σ.1 (M + 28) := hFω.row (fun j => SLw_r (by omega) (by omega))
        have h19ω : ω.1 (M + 19) x = nI last := by rw [hFω.row (k := M + 19) (fun j => SLw_r (by omega) (by omega))]; exact h19
        by_cases hlt2 : a < c
        · rw [if_pos hlt2] at hbb
          rw [if_neg (show ¬ c ≤ a from fun q => absurd hlt2 (Int32.not_lt.mpr q)), lp_r hbb]
          obtain ⟨ζ, k1, k2⟩ := KM_t (M := M) (b := b) (p := p + u.length + t.length) (r := w) (σ := ω) (by omega) (by rw [hR.2.2.2.1]; exact h23) (by rw [hR.2.2.2.2.1]; exact h24) (by rw [hR.2.2.2.2.2.1, hR.2.2.2.2.2.2]; exact g3) w3 (by omega) (by rw [h46e]; exact h46τ)
          rw [h28] at k2
          exact ⟨ζ, hFω.tr k1, k2⟩
        · rw [if_neg hlt2] at hbb
          rw [if_pos (Int32.not_lt.mp hlt2), lp_l hbb]
          obtain ⟨ζ, k1, k2⟩ := ih (b + 1) ω (lawM_c hR hm2) w4 h19ω (by rw [h46e]; exact h46τ)
          rw [h28] at k2
          exact ⟨ζ, hFω.tr k1, k2⟩
      · rw [hr2] at hap
        have hap : rpn (σ.1 (M + 28)) t [a] = none := hap
        rw [hap, lp_r hbb]
        exact ⟨ω, hF2.tr hG, rfl⟩
    · have hF3 : Fs (SLw M) σ (wI τ M 46 1) := hF2.wI (Or.inr ⟨rfl, rfl⟩)
      obtain ⟨ω, hG, hct⟩ := two 0 (wI τ M 46 1) hF3 he
      rw [hr]
      dsimp only
      have h1 : (wI τ M 46 1).1 M 46 = 1 := by rw [wI_k, upd_k]
      rcases hct with ⟨c, hr2, h46e, hbb⟩ | ⟨hr2, hbb⟩
      · rw [h1, if_neg (by decide)] at hbb
        rw [lp_r hbb]
        exact ⟨ω, hF3.tr hG, rfl⟩
      · rw [lp_r hbb]
        exact ⟨ω, hF3.tr hG, rfl⟩
/-- a law that is told -/
theorem lawTells_v {M ℓ k b last : Nat} {pl : Int32} {σ : Sg} {bs : List (Rp × Rp × Rp)} {f : Rp} (hℓ : ℓ < 2) (hk : k < 4) (hv : σ.1 M 18 = nI ℓ) (h18 : σ.1 (M + 18) (4 * ℓ + k) = nI b) (h19 : σ.1 (M + 19) (4 * ℓ + k) = nI last) (hl : last ≤ 260) (hm : lawM σ M b bs f last) (hw : lawW bs f) : ∃ τ, Fs (SLw M) σ τ ∧ fX7_lawTells M (nI k) pl σ = some (lawV (σ.1 (M + 28)) bs f, τ) := by
  have hlt := lawM_lt hm
  have e4 : (4 : Int32) * nI ℓ + nI k = nI (4 * ℓ + k) := by rw [show (4 : Int32) = nI 4 from rfl, pk_mul, nI_add]
  have hF : Fs (SLw M) σ (wI σ M 46 0) := Fs.rf.wI (Or.inr ⟨rfl, rfl⟩)
  have n18 : (wI σ M 46 0).1 (M + 18) = σ.1 (M + 18) := wI_n (by omega)
  have n19 : (wI σ M 46 0).1 (M + 19) = σ.1 (M + 19) := wI_n (by omega)
  have n28 : (wI σ M 46 0).1 (M + 28) = σ.1 (M + 28) := wI_n (by omega)
  have e0 : fX7_lawTells M (nI k) pl σ = (lp (NB M (nI k) pl (nI (4 * ℓ + k))) (nI b, wI σ M 46 0)).bind (KM M) := by
    unfold fX7_lawTells
    dsimp only
    rw [hv, e4, if_pos (vin_nI (by omega) (by omega)), nI_clamp (by omega), n18, h18, h19, if_neg (ne_nI (by omega) (by omega) (by omega))]
    rfl
  obtain ⟨τ, h1, h2⟩ := tells_run (M := M) (p1 := nI k) (p2 := pl) (x := 4 * ℓ + k) (by omega) hl bs b (wI σ M 46 0) (lawM_c (hF.lawR (fun k j a1 a2 => SLw_r (by omega) (by omega))) hm) hw (by rw [n19]; exact h19) (by rw [wI_k, upd_k])
  rw [n28] at h2
  exact ⟨τ, hF.tr h1, by rw [e0]; exact h2⟩
theorem lawTells_0 {M ℓ k b : Nat} {pl : Int32} {σ : Sg} (hℓ : ℓ < 2) (hk : k < 4) (hv : σ.1 M 18 = nI ℓ) (h18 : σ.1 (M + 18) (4 * ℓ + k) = nI b) (h19 : σ.1 (M + 19) (4 * ℓ + k) = nI b) : fX7_lawTells M (nI k) pl σ = some (pl, σ) := by
  have e4 : (4 : Int32) * nI ℓ + nI k = nI (4 * ℓ + k) := by rw [show (4 : Int32) = nI 4 from rfl, pk_mul, nI_add]
  unfold fX7_lawTells
  dsimp only
  rw [hv, e4, if_pos (vin_nI (by omega) (by omega)), nI_clamp (by omega), h18, h19, if_pos rfl]
