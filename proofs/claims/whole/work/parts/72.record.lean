section RECORD
variable {M a t t' ℓ n m L : Nat} {bo : Nat → Bool} {dr : Nat → Int32} {lb : Nat → Br} {lf : Nat → Rp} {sd : Int32} {kw : Nat → Int64} {σ τ υ : Sg} {ρ ρ' : Nat → Int32}
theorem CE.ag (h : CE σ a t n m sd ρ) (hn : n ≤ 8) (hm : m ≤ 6) (e : ∀ x, x < 88 → ρ' x = ρ x) : CE σ a t n m sd ρ' := by
  obtain ⟨h1, h2, h3, m1, m2, m3, m4⟩ := h
  exact ⟨h1, h2.ag hn hm (fun x hx _ => e x hx), h3.ag hn hm (fun x hx => e x (by omega)), m1, m2, m3, fun q => by rw [e 85 (by omega)]; exact m4 q⟩
/-- a row copied, entry by entry -/
theorem cpyL {A s e : Nat} {f : Int32 × Sg → Option ((Int32 × Sg) ⊕ Sg)} {v : Nat → Int32} (σ : Sg) (hf : ∀ i τ, i < e → (∀ k j, ¬ (k = A ∧ s ≤ j ∧ j < s + i) → τ.1 k j = σ.1 k j) → τ.2 = σ.2 → (∀ j, j < i → τ.1 A (s + j) = v j) → f (nI i, τ) = some (.inl (nI (i + 1), wI τ A (s + i) (v i)))) (hx : ∀ τ, f (nI e, τ) = some (.inr τ)) : ∃ τ, lp f (0, σ) = some τ ∧ (∀ j, j < e → τ.1 A (s + j) = v j) ∧ Fs (fun k j => k = A ∧ s ≤ j ∧ j < s + e) σ τ := by
  have hh := lp_inv (f := f) e (fun i τ => (∀ k j, ¬ (k = A ∧ s ≤ j ∧ j < s + i) → τ.1 k j = σ.1 k j) ∧ τ.2 = σ.2 ∧ ∀ j, j < i → τ.1 A (s + j) = v j) (fun i τ hi hI => ⟨_, hf i τ hi hI.1 hI.2.1 hI.2.2, fun k j hk => ?_, hI.2.1, fun j hj => ?_⟩) (fun τ _ => hx τ) (σ := σ) ⟨fun _ _ _ => rfl, rfl, fun j hj => by omega⟩
  · obtain ⟨τ, h1, h2, h3, h4⟩ := hh
    exact ⟨τ, h1, h4, h2, h3⟩
  · rw [wI_a, if_neg (by omega)]; exact hI.1 k j (by omega)
  · rw [wI_k]
    by_cases q : j = i
    · subst q; rw [upd_k]
    · rw [upd_n (by omega)]; exact hI.2.2 j (by omega)
theorem keepsRow_v (σ : Sg) : ∃ τ, fX7_keepsRow M σ = some τ ∧ (∀ j, j < 88 → τ.1 (M + 30) j = σ.1 (M + 31) j) ∧ Fs (fun k j => k = M + 30 ∧ j < 88) σ τ := by
  have hh := cpyL (A := M + 30) (s := 0) (e := 88) (f := fun st : Int32 × Sg => bX7_keepsRow_2 M st.1 st.2) (v := σ.1 (M + 31)) σ (fun i τ hi e1 e2 e3 => ?_) (fun τ => ?_)
  · obtain ⟨τ, h1, h2, h3⟩ := hh
    refine ⟨τ, ?_, fun j hj => ?_, h3.mo (fun k j q => by omega)⟩
    · unfold fX7_keepsRow; rw [h1]; rfl
    · have := h2 j hj; rwa [Nat.zero_add] at this
  · show bX7_keepsRow_2 M (nI i) τ = _
    unfold bX7_keepsRow_2
    rw [if_neg (show ¬ (88 : Int32) ≤ nI i from le_nI (a := 88) (by omega) (by omega) hi)]
    simp (disch := omega) only [vif, nI_clamp]
    rw [e1 (M + 31) i (by omega), nI_s, Nat.zero_add]
  · show bX7_keepsRow_2 M (nI 88) τ = _
    unfold bX7_keepsRow_2
    rw [if_pos (by decide)]
/-- the histories' rows behind a record -/
def hiS (u : Nat) (H now : Nat → Int32) (i x : Nat) : Int32 := if u < 40 then (if i < u then H (88 * i + x) else now x) else (if i < 39 then H (88 * (i + 1) + x) else now x)
theorem k88 {u x : Nat} (h : u < 40) (hx : x < 88) : (88 : Int32) * nI u + nI x = nI (88 * u + x) := by
  rw [show (88 : Int32) * nI u = nI (88 * u) from pk_mul 88 u, nI_add]
theorem jrec_v {u : Nat} (hu : u < 40) (h53 : σ.1 M 53 = nI u) : ∃ τ, jX7_records_49 M σ = some τ ∧ (∀ j, j < 88 → τ.1 (M + 30) j = σ.1 (M + 31) j) ∧ τ.1 M 53 = nI (u + 1) ∧ (∀ j, j < 88 * u → τ.1 (M + 33) j = σ.1 (M + 33) j) ∧ (∀ x, x < 88 → τ.1 (M + 33) (88 * u + x) = σ.1 (M + 30) x) ∧ Fs (fun k j => k = M + 30 ∧ j < 88 ∨ k = M + 33 ∨ k = M ∧ j = 53) σ τ := by
  have hh := cpyL (A := M + 33) (s := 88 * u) (e := 88) (f := fun st : Int32 × Sg => bX7_records_51 M st.1 st.2) (v := σ.1 (M + 30)) σ (fun i τ hi e1 e2 e3 => ?_) (fun τ => ?_)
  · obtain ⟨τ, h1, h2, h3⟩ := hh
    obtain ⟨υ, k1, k2, k3⟩ := keepsRow_v (M := M) (wI τ M 53 (nI (u + 1)))
    have ev : υ.1 (M + 33) = τ.1 (M + 33) := funext fun j => (k3.1 _ _ (by omega)).trans (by rw [wI_n (by omega)])
    refine ⟨υ, ?_, fun j hj => ?_, ?_, fun j hj => ?_, fun x hx => ?_, ?_⟩
    · unfold jX7_records_49
      rw [h1, Option.bind_some]
      dsimp only
      rw [h3.1 M 53 (by omega), h53, nI_s, k1, Option.bind_some]
    · rw [k2 j hj, wI_n (by omega), h3.1 _ _ (by omega)]
    · rw [k3.1 _ _ (by omega), wI_k, upd_k]
    · rw [ev, h3.1 _ _ (by omega)]
    · rw [ev]; exact h2 x hx
    · exact ((h3.mo (fun k j q => by omega)).wI (by omega)).tr (k3.mo (fun k j q => by omega))
  · show bX7_records_51 M (nI i) τ = _
    unfold bX7_records_51
    rw [if_neg (show ¬ (88 : Int32) ≤ nI i from le_nI (a := 88) (by omega) (by omega) hi), e1 M 53 (by omega), h53, k88 hu hi]
    simp (disch := omega) only [vif, nI_clamp]
    rw [e1 (M + 30) i (by omega), nI_s]
  · show bX7_records_51 M (nI 88) τ = _
    unfold bX7_records_51
    rw [if_pos (by decide)]
theorem records_v {u : Nat} (hu : u ≤ 40) (h53 : σ.1 M 53 = nI u) : ∃ τ, fX7_records M σ = some τ ∧ (∀ j, j < 88 → τ.1 (M + 30) j = σ.1 (M + 31) j) ∧ τ.1 M 53 = nI (min (u + 1) 40) ∧ (∀ i x, i < min (u + 1) 40 → x < 88 → τ.1 (M + 33) (88 * i + x) = hiS u (σ.1 (M + 33)) (σ.1 (M + 30)) i x) ∧ Fs (fun k j => k = M + 30 ∧ j < 88 ∨ k = M + 33 ∨ k = M ∧ j = 53) σ τ := by
  by_cases q : u = 40
  · subst q
    have hh := cpyL (A := M + 33) (s := 0) (e := 3432) (f := fun st : Int32 × Sg => bX7_records_11 M st.1 st.2) (v := fun j => σ.1 (M + 33) (j + 88)) σ (fun i τ hi e1 e2 e3 => ?_) (fun τ => ?_)
    · obtain ⟨τ, h1, h2, h3⟩ := hh
      obtain ⟨υ, j1, j2, j3, j4, j5, j6⟩ := jrec_v (M := M) (σ := wI τ M 53 (nI 39)) (u := 39) (by omega) (by rw [wI_k, upd_k])
      refine ⟨υ, ?_, fun j hj => ?_, j3, fun i x hi hx => ?_, ?_⟩
      · unfold fX7_records
        rw [h53, if_pos (by decide), h1, Option.bind_some]
        dsimp only
        rw [h3.1 M 53 (by omega), h53, nI_p (by omega), j1]
      · rw [j2 j hj, wI_n (by omega), h3.1 _ _ (by omega)]
      · unfold hiS
        rw [if_neg (by omega)]
        by_cases z : i < 39
        · rw [if_pos z, j4 _ (by omega), wI_n (by omega)]
          have := h2 (88 * i + x) (by omega)
          rw [Nat.zero_add] at this
          rw [this]
          exact congrArg (σ.1 (M + 33)) (by omega)
        · have : i = 39 := by omega
          subst this
          rw [if_neg z, j5 x hx, wI_n (by omega), h3.1 _ _ (by omega)]
      · exact ((h3.mo (fun k j q => by omega)).wI (by omega)).tr j6
    · show bX7_records_11 M (nI i) τ = _
      unfold bX7_records_11
      rw [if_neg (show ¬ (3432 : Int32) ≤ nI i from le_nI (a := 3432) (by omega) (by omega) hi), show nI i + 88 = nI (i + 88) from nI_add i 88]
      simp (disch := omega) only [vif, nI_clamp]
      rw [e1 (M + 33) (i + 88) (by omega), nI_s, Nat.zero_add]
    · show bX7_records_11 M (nI 3432) τ = _
      unfold bX7_records_11
      rw [if_pos (by decide)]
  · obtain ⟨υ, j1, j2, j3, j4, j5, j6⟩ := jrec_v (M := M) (σ := σ) (u := u) (by omega) h53
    refine ⟨υ, ?_, j2, ?_, fun i x hi hx => ?_, j6⟩
    · unfold fX7_records
      rw [h53, if_neg (show ¬ nI u = 40 from ne_nI (b := 40) (by omega) (by omega) q), j1]
    · rw [j3, show min (u + 1) 40 = u + 1 by omega]
    · unfold hiS
      rw [if_pos (by omega)]
      by_cases z : i < u
      · rw [if_pos z, j4 _ (by omega)]
      · have : i = u := by omega
        subst this
        rw [if_neg z, j5 x hx]
/-- the class remembers -/
theorem c_remember (h : RLp M t t' ℓ n m bo dr lb lf sd kw σ) : ∃ u pn τ, (u ≤ 40 ∧ pn < 40 ∧ σ.1 0 11 = nI u ∧ σ.1 M 53 = nI u ∧ σ.1 0 10 = nI pn ∧ ∀ i, i < u → CE σ (55 + 9 * ((pn + 40 - u + i) % 40)) t n m sd (fun x => σ.1 (M + 33) (88 * i + x))) ∧ fX6_remember 0 σ = some τ ∧ Fc (fun k j => 55 + 9 * pn ≤ k ∧ k ≤ 63 + 9 * pn ∨ k = 0 ∧ (j = 10 ∨ j = 11)) (55 + 9 * pn) σ τ ∧ τ.1 0 10 = nI (if pn + 1 < 40 then pn + 1 else 0) ∧ τ.1 0 11 = nI (min (u + 1) 40) ∧ CE τ (55 + 9 * pn) t n m sd (σ.1 (M + 30)) := by
  have hn := h.n8
  have hm := h.m6
  obtain ⟨u, pn, ⟨hu, hp⟩, u1, u2, u3, u4⟩ := h.2.2.1
  have hN := h.2.1
  obtain ⟨cp1, cp2, cp3⟩ := copyFrom_v (a := 55 + 9 * pn) (b := 31) (σ := σ) (by omega) hN.2.2.2.2.1
  refine ⟨u, pn, wI (wI (cpS (55 + 9 * pn) 31 σ) 0 10 (nI (if pn + 1 < 40 then pn + 1 else 0))) 0 11 (nI (min (u + 1) 40)), ⟨hu, hp, u1, u2, u3, u4⟩, ?_, ?_, ?_, ?_, ?_⟩
  · unfold fX6_remember jX6_remember_38
    have e10 : (cpS (55 + 9 * pn) 31 σ).1 0 10 = nI pn := (cp_out (by omega)).trans u3
    have e11 : (cpS (55 + 9 * pn) 31 σ).1 0 11 = nI u := (cp_out (by omega)).trans u1
    have em : imin (nI u + 1) 40 = nI (min (u + 1) 40) := by
      rw [nI_s]
      unfold imin
      by_cases q : u + 1 ≤ 40
      · rw [if_neg (Int32.not_lt.mpr (show nI (u + 1) ≤ 40 from nI_le (b := 40) q (by omega))), show min (u + 1) 40 = u + 1 by omega]
      · rw [if_pos (Int32.not_le.mp (show ¬ nI (u + 1) ≤ 40 from le_nI (b := 40) (by omega) (by omega) (by omega))), show min (u + 1) 40 = 40 by omega]; rfl
    rw [u3]
    simp (disch := omega) only [vif, nI_clamp, Nat.zero_add]
    rw [h.2.2.2.2.2.2.1 pn hp, if_pos (by omega), cp1, Option.bind_some, e10, nI_s]
    have ew : ∀ v, (wI (cpS (55 + 9 * pn) 31 σ) 0 10 v).1 0 11 = nI u := fun v => by rw [wI_k, upd_n (by omega), e11]
    simp only [ew, em]
    by_cases q : pn + 1 < 40
    · rw [if_neg (show ¬ (40 : Int32) ≤ nI (pn + 1) from le_nI (a := 40) (by omega) (by omega) q), if_pos q]
    · rw [if_pos (show (40 : Int32) ≤ nI (pn + 1) from nI_le (a := 40) (by omega) (by omega)), if_neg q]; rfl
  · exact ((cp2.mo (fun k j q => by unfold rgS at q; omega)).wI (by omega)).wI (by omega)
  · rw [wI_k, upd_n (by omega), wI_k, upd_k]
  · rw [wI_k, upd_k]
  · obtain ⟨h1, h2, h3, m1, m2, m3, m4⟩ := hN
    have ce : CE (cpS (55 + 9 * pn) 31 σ) (55 + 9 * pn) t n m sd (σ.1 (M + 30)) := ⟨cp3.trans h1, h2.cp hn hm (by omega), h3, (cp_sl (by omega) (by omega) (by omega)).trans m1, (cp_sl (by omega) (by omega) (by omega)).trans m2, (cp_sl (by omega) (by omega) (by omega)).trans m3, fun q => (cp_sl (by omega) (by omega) (by omega)).trans (m4 q)⟩
    exact ce.fc (S := fun k j => k = 0 ∧ (j = 10 ∨ j = 11)) (r := 0) ((Fc.rf.wI (by omega)).wI (by omega)) (by omega) (fun x j a1 a2 => by omega)
/-- what the class may have done to now, behind remembering -/
def SN (t : Nat) : Nat → Nat → Prop := fun k _ => 31 ≤ k ∧ k ≤ 39 ∨ k = t + 10 ∨ k = t + 11
/-- now is another, and the former is remembered -/
theorem recorded (h : RLp M t t' ℓ n m bo dr lb lf sd kw σ) {u pn : Nat} (hh : u ≤ 40 ∧ pn < 40 ∧ σ.1 0 11 = nI u ∧ σ.1 M 53 = nI u ∧ σ.1 0 10 = nI pn ∧ ∀ i, i < u → CE σ (55 + 9 * ((pn + 40 - u + i) % 40)) t n m sd (fun x => σ.1 (M + 33) (88 * i + x)))
    (h2 : Fc (fun k j => 55 + 9 * pn ≤ k ∧ k ≤ 63 + 9 * pn ∨ k = 0 ∧ (j = 10 ∨ j = 11)) (55 + 9 * pn) σ τ) (h3 : τ.1 0 10 = nI (if pn + 1 < 40 then pn + 1 else 0)) (h4 : τ.1 0 11 = nI (min (u + 1) 40)) (h5 : CE τ (55 + 9 * pn) t n m sd (σ.1 (M + 30)))
    {τ' : Sg} (h6 : Fc (SN t) 31 τ τ') (h7 : CE τ' 31 t n m sd ρ) {υ : Sg} (h8 : Fx M τ' υ) (h9 : ∀ x, x < 88 → υ.1 (M + 31) x = ρ x) : ∃ ω, fX7_records M υ = some ω ∧ RLp M t t' ℓ n m bo dr lb lf sd kw ω ∧ ∀ x, x < 88 → ω.1 (M + 30) x = ρ x := by
  have hM := h.1.1
  have hn := h.n8
  have hm := h.m6
  obtain ⟨hu, hp, u1, u2, u3, u4⟩ := hh
  have ht : t = 2 ∨ t = 14 := by rcases h.1.2.1 with q | q <;> omega
  have x3 : ∀ k j, ¬ (55 + 9 * pn ≤ k ∧ k ≤ 63 + 9 * pn ∨ k = 0 ∧ (j = 10 ∨ j = 11)) → ¬ SN t k j → ¬ SX M k j → υ.1 k j = σ.1 k j := fun k j a1 a2 a3 => (h8.1 k j a3).trans ((h6.1 k j a2).trans (h2.1 k j a1))
  obtain ⟨ω, r1, r2, r3, r4, r5⟩ := records_v (M := M) (σ := υ) (u := u) hu ((x3 M 53 (by omega) (by unfold SN; omega) (by unfold SX; omega)).trans u2)
  have e33 : ∀ j, υ.1 (M + 33) j = σ.1 (M + 33) j := fun j => x3 _ _ (by omega) (by unfold SN; omega) (by unfold SX; omega)
  have e30 : ∀ j, υ.1 (M + 30) j = σ.1 (M + 30) j := fun j => x3 _ _ (by omega) (by unfold SN; omega) (by unfold SX; omega)
  have r5' : ∀ r, Fc (fun k j => k = M + 30 ∧ j < 88 ∨ k = M + 33 ∨ k = M ∧ j = 53) r υ ω := fun r => r5.fc
  refine ⟨ω, r1, ?_, fun x hx => (r2 x hx).trans (h9 x hx)⟩
  obtain ⟨g1, g2, g3, g4, g5, g6, g7⟩ := h
  refine ⟨?_, ?_, ⟨min (u + 1) 40, if pn + 1 < 40 then pn + 1 else 0, ?_, ?_, r3, ?_, fun i hi => ?_⟩, ?_, ?_, ?_, ?_⟩
  · exact (((g1.fc h2 (by omega) (fun k j q => by omega)).fc h6 (by omega) (fun k j q => by unfold SN; omega)).fc h8 (by omega) (fun k j q => by unfold SX; omega)).fc (r5' 31) (by omega) (fun k j q => by omega)
  · have := (h7.fc h8 (by omega) (fun x j a1 a2 => by unfold SX; omega)).fc (r5' 40) (by omega) (fun x j a1 a2 => by omega)
    exact this.ag hn hm (fun x hx => (r2 x hx).trans (h9 x hx))
  · constructor
    · omega
    · split <;> omega
  · rw [r5.1 _ _ (by omega), h8.1 _ _ (by unfold SX; omega), h6.1 _ _ (by unfold SN; omega), h4]
  · rw [r5.1 _ _ (by omega), h8.1 _ _ (by unfold SX; omega), h6.1 _ _ (by unfold SN; omega), h3]
  · have go : ∀ {k : Nat} {ρ : Nat → Int32}, k < 40 → CE τ (55 + 9 * k) t n m sd ρ → CE ω (55 + 9 * k) t n m sd ρ := fun {k ρ} hk hc => ((hc.fc h6 (by omega) (fun x j a1 a2 => by unfold SN; omega)).fc h8 (by omega) (fun x j a1 a2 => by unfold SX; omega)).fc (r5' 40) (by omega) (fun x j a1 a2 => by omega)
    have go2 : ∀ {k : Nat} {ρ : Nat → Int32}, k < 40 → k ≠ pn → CE σ (55 + 9 * k) t n m sd ρ → CE ω (55 + 9 * k) t n m sd ρ := fun {k ρ} hk hq hc => go hk (hc.fc h2 (by omega) (fun x j a1 a2 => by omega))
    generalize hpn : (if pn + 1 < 40 then pn + 1 else 0) = pn'
    have hpn' : pn' = (pn + 1) % 40 := by rw [← hpn]; split <;> omega
    by_cases q : u < 40
    · have eu : min (u + 1) 40 = u + 1 := by omega
      by_cases z : i < u
      · rw [show (pn' + 40 - min (u + 1) 40 + i) % 40 = (pn + 40 - u + i) % 40 by omega]
        refine CE.ag (go2 (by omega) (by omega) (u4 i z)) hn hm (fun x hx => ?_)
        show ω.1 (M + 33) (88 * i + x) = σ.1 (M + 33) (88 * i + x)
        rw [r4 i x hi hx]
        unfold hiS
        rw [if_pos q, if_pos z, e33]
      · rw [show (pn' + 40 - min (u + 1) 40 + i) % 40 = pn by omega]
        refine CE.ag (go hp h5) hn hm (fun x hx => ?_)
        show ω.1 (M + 33) (88 * i + x) = σ.1 (M + 30) x
        rw [r4 i x hi hx]
        unfold hiS
        rw [if_pos q, if_neg z, e30]
    · have eu : u = 40 := by omega
      subst eu
      by_cases z : i < 39
      · rw [show (pn' + 40 - min (40 + 1) 40 + i) % 40 = (pn + 40 - 40 + (i + 1)) % 40 by omega]
        refine CE.ag (go2 (by omega) (by omega) (u4 (i + 1) (by omega))) hn hm (fun x hx => ?_)
        show ω.1 (M + 33) (88 * i + x) = σ.1 (M + 33) (88 * (i + 1) + x)
        rw [r4 i x hi hx]
        unfold hiS
        rw [if_neg q, if_pos z, e33]
      · rw [show (pn' + 40 - min (40 + 1) 40 + i) % 40 = pn by omega]
        refine CE.ag (go hp h5) hn hm (fun x hx => ?_)
        show ω.1 (M + 33) (88 * i + x) = σ.1 (M + 30) x
        rw [r4 i x hi hx]
        unfold hiS
        rw [if_neg q, if_neg z, e30]
  · exact (((g4.fc h2 (by omega) (fun k j q => by omega)).fc h6 (by omega) (fun k j q => by unfold SN; omega)).fc h8 (by omega) (fun k j q => by unfold SX; omega)).fc (r5' 31) (by omega) (fun k j q => by omega)
  · exact (((g5.fc h2 (fun k j q => by omega)).fc h6 (fun k j q => by unfold SN; omega)).fc h8 (fun k j q => by unfold SX; omega)).fc (r5' 31) (fun k j q => by omega)
  · exact (((g6.fc h2 (fun k j q => by omega)).fc h6 (fun k j q => by unfold SN; omega)).fc h8 (fun k j q => by unfold SX; omega)).fc (r5' 31) (fun k j q => by omega)
  · exact (((g7.fc h2 (by omega)).fc h6 (by omega)).fc h8 (by omega)).fc (r5' 31) (by omega)
end RECORD
