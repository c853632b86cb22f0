section MUT
variable {M a b t t' ℓ n m L : Nat} {bo : Nat → Bool} {dr : Nat → Int32} {lb : Nat → Br} {lf : Nat → Rp} {sd : Int32} {kw : Nat → Int64} {σ τ υ : Sg} {ρ ρ' : Nat → Int32}
theorem CE.cp (h : CE σ b t n m sd ρ) (hn : n ≤ 8) (hm : m ≤ 6) (hab : b + 8 < a ∨ a + 8 < b) : fX2_copyFrom a b σ = some (cpS a b σ) ∧ Fc (rgS a) a σ (cpS a b σ) ∧ CE (cpS a b σ) a t n m sd ρ := by
  obtain ⟨h1, h2, h3, m1, m2, m3, m4⟩ := h
  obtain ⟨cp1, cp2, cp3⟩ := copyFrom_v (a := a) (b := b) (σ := σ) hab m2
  exact ⟨cp1, cp2, cp3.trans h1, h2.cp hn hm hab, h3, (cp_sl hab (by omega) (by omega)).trans m1, (cp_sl hab (by omega) (by omega)).trans m2, (cp_sl hab (by omega) (by omega)).trans m3, fun q => (cp_sl hab (by omega) (by omega)).trans (m4 q)⟩
/-- now is changed by both, and the former is remembered -/
theorem mutate (h : RLp M t t' ℓ n m bo dr lb lf sd kw σ) {cm mm : Sg → Option Sg} (hc : ∀ τ, CE τ 31 t n m sd (nowR M σ) → CT τ t n m bo dr lb lf → ∃ τ', cm τ = some τ' ∧ Fc (SN t) 31 τ τ' ∧ CE τ' 31 t n m sd ρ)
    (hm : ∀ υ, MS υ M ℓ n m bo dr lb lf → RV n m (υ.1 (M + 31)) → υ.1 (M + 31) = nowR M σ → υ.1 M 49 = sd → υ.1 M 50 = 0 → υ.1 M 51 = -1 → ∃ υ', mm υ = some υ' ∧ Fx M υ υ' ∧ ∀ x, x < 88 → υ'.1 (M + 31) x = ρ x) :
    ∃ τ τ' υ υ' ω, fX6_remember 0 σ = some τ ∧ cm τ = some τ' ∧ MX τ' M ℓ n m ∧ (∀ x, τ'.1 (M + 30) x = σ.1 (M + 30) x) ∧ fX7_copies M τ' = some υ ∧ mm υ = some υ' ∧ fX7_records M υ' = some ω ∧ RLp M t t' ℓ n m bo dr lb lf sd kw ω ∧ (∀ x, x < 88 → ω.1 (M + 30) x = ρ x) ∧ CE τ' 31 t n m sd ρ := by
  have hM := h.1.1
  have ht : t = 2 ∨ t = 14 := by rcases h.1.2.1 with q | q <;> omega
  obtain ⟨u, pn, τ, r0, r1, r2, r3, r4, r5⟩ := c_remember h
  have hp := r0.2.1
  obtain ⟨τ', c1, c2, c3⟩ := hc τ ((h.2.1.now h.n8 h.m6).fc r2 (by omega) (fun x j a1 a2 => by omega)) (h.ct.fc r2 (fun x j a1 a2 => by omega))
  have eM : ∀ k j, M ≤ k → τ'.1 k j = σ.1 k j := fun k j hk => (c2.1 k j (by unfold SN; omega)).trans (r2.1 k j (by omega))
  have e30 : ∀ x, τ'.1 (M + 30) x = σ.1 (M + 30) x := fun x => eM _ _ (by omega)
  have hms : MS τ' M ℓ n m bo dr lb lf := (h.ms.fc r2 (fun k j q a1 => by omega)).fc c2 (fun k j q a1 => by unfold SN; omega)
  obtain ⟨υ, g1, g2, g3, g4, g5, g6⟩ := copies_v hms
  have hF : Fx M τ' υ := g1.fx (fun _ _ => cp_SQ) (fun x hx => by rw [g3]; unfold nowR; rw [if_neg (by omega)])
  have hr : υ.1 (M + 31) = nowR M σ := by rw [g3]; funext x; unfold nowR; rw [e30 x, eM (M + 31) x (by omega)]
  obtain ⟨υ', k1, k2, k3⟩ := hm υ (hms.fc hF (fun k j q a1 z => by unfold SX at z; unfold SQ at q; omega)) (by rw [hr]; exact h.rvn) hr (g4.trans ((eM _ _ (by omega)).trans h.1.2.2.2.2.2.2.2.1)) g5 g6
  obtain ⟨ω, w1, w2, w3⟩ := recorded h r0 r2 r3 r4 r5 c2 c3 (hF.tr k2) k3
  exact ⟨τ, τ', υ, υ', ω, r1, c1, hms.1, e30, g2, k1, w1, w2, w3, c3⟩
set_option maxRecDepth 100000 in
theorem m8_tog : ∀ b0 b1 b2 b3 b4 b5 b6 b7 : Bool, (nI (m8 b0 b1 b2 b3 b4 b5 b6 b7) ^^^ ((1 : Int32) <<< (nI 0 &&& 31)) = nI (m8 (!b0) b1 b2 b3 b4 b5 b6 b7)) ∧ (nI (m8 b0 b1 b2 b3 b4 b5 b6 b7) ^^^ ((1 : Int32) <<< (nI 1 &&& 31)) = nI (m8 b0 (!b1) b2 b3 b4 b5 b6 b7)) ∧ (nI (m8 b0 b1 b2 b3 b4 b5 b6 b7) ^^^ ((1 : Int32) <<< (nI 2 &&& 31)) = nI (m8 b0 b1 (!b2) b3 b4 b5 b6 b7)) ∧ (nI (m8 b0 b1 b2 b3 b4 b5 b6 b7) ^^^ ((1 : Int32) <<< (nI 3 &&& 31)) = nI (m8 b0 b1 b2 (!b3) b4 b5 b6 b7)) ∧ (nI (m8 b0 b1 b2 b3 b4 b5 b6 b7) ^^^ ((1 : Int32) <<< (nI 4 &&& 31)) = nI (m8 b0 b1 b2 b3 (!b4) b5 b6 b7)) ∧ (nI (m8 b0 b1 b2 b3 b4 b5 b6 b7) ^^^ ((1 : Int32) <<< (nI 5 &&& 31)) = nI (m8 b0 b1 b2 b3 b4 (!b5) b6 b7)) ∧ (nI (m8 b0 b1 b2 b3 b4 b5 b6 b7) ^^^ ((1 : Int32) <<< (nI 6 &&& 31)) = nI (m8 b0 b1 b2 b3 b4 b5 (!b6) b7)) ∧ (nI (m8 b0 b1 b2 b3 b4 b5 b6 b7) ^^^ ((1 : Int32) <<< (nI 7 &&& 31)) = nI (m8 b0 b1 b2 b3 b4 b5 b6 (!b7))) := by decide +kernel
theorem mk8_tog (f : Nat → Bool) {h : Nat} (hh : h < 8) : nI (mk8 f) ^^^ ((1 : Int32) <<< (nI h &&& 31)) = nI (mk8 (fset f h (!f h))) := by
  obtain ⟨h0, h1, h2, h3, h4, h5, h6, h7⟩ := m8_tog (f 0) (f 1) (f 2) (f 3) (f 4) (f 5) (f 6) (f 7)
  rw [mk8_m, mk8_m]
  rcases lt8 hh with rfl | rfl | rfl | rfl | rfl | rfl | rfl | rfl <;> assumption
theorem stF_c {k : Int32} (e : ∀ h, h < n → ρ' (40 + h) = ρ (40 + h)) : nI (mk8 (stF n ρ' k)) = nI (mk8 (stF n ρ k)) := congrArg nI (mk8_c fun j _ => by
  unfold stF
  by_cases q : j < n
  · rw [e j q]
  · simp [q])
theorem ktF_c {o : Nat} (e : ∀ h, h < n → ρ' (o + h) = ρ (o + h)) : nI (mk8 (ktF n ρ' o)) = nI (mk8 (ktF n ρ o)) := congrArg nI (mk8_c fun j _ => by
  unfold ktF
  by_cases q : j < n
  · rw [e j q]
  · simp [q])
/-- who is kept in -/
theorem CR.wK (hc : CR σ a n m ρ) (hn : n ≤ 8) (hm : m ≤ 6) {v : Int32} (e : ∀ x, x < 88 → ¬ (32 ≤ x ∧ x < 40) → ρ' x = ρ x) (hv : v = nI (mk8 (ktF n ρ' 32))) : CR (wI σ a 4 v) a n m ρ' := by
  refine hc.ms hn hm (fun x hx q _ => e x hx (by omega)) (fun k j q => by rw [wI_a, if_neg (by omega)]) ?_ ?_ ?_ ?_
  · rw [wI_k, upd_n (by omega), hc.1.2.1]; exact (stF_c (fun h hh => e _ (by omega) (by omega))).symm
  · rw [wI_k, upd_n (by omega), hc.1.2.2.1]; exact (stF_c (fun h hh => e _ (by omega) (by omega))).symm
  · rw [wI_k, upd_k, hv]
  · rw [wI_k, upd_n (by omega), hc.1.2.2.2.2.1]; exact (ktF_c (fun h hh => e _ (by omega) (by omega))).symm
theorem CM.wK {st lo : Int32} (hc : CM σ a sd st lo ρ) (e : ρ' 85 = ρ 85) {k j : Nat} {v : Int32} (hj : ¬ (k = a ∧ 6 ≤ j ∧ j ≤ 9)) : CM (wI σ k j v) a sd st lo ρ' := by
  obtain ⟨m1, m2, m3, m4⟩ := hc
  refine ⟨?_, ?_, ?_, fun q => ?_⟩
  · rw [wI_a, if_neg (by omega)]; exact m1
  · rw [wI_a, if_neg (by omega)]; exact m2
  · rw [wI_a, if_neg (by omega)]; exact m3
  · rw [wI_a, if_neg (by omega), e]; exact m4 q
theorem ag_keep (h : RLp M t t' ℓ n m bo dr lb lf sd kw σ) (p1 p2 : Int32) (hp2 : p2 = 0 ∨ p2 = 1) : Ag (fX6_keep 0 p1 p2) (fX7_keep M p1 p2) (RLp M t t' ℓ n m bo dr lb lf sd kw) σ := by
  have hM := h.1.1
  have hn := h.n8
  have hm := h.m6
  show ∃ r σ1 σ2, fX6_keep 0 p1 p2 σ = some (r, σ1) ∧ fX7_keep M p1 p2 σ1 = some (r, σ2) ∧ RLp M t t' ℓ n m bo dr lb lf sd kw σ2
  rcases arg p1 (n := n) (by omega) with q | ⟨w, hw, rfl⟩
  · exact ⟨0, σ, σ, by unfold fX6_keep; rw [c_isH0 h q]; rfl, by unfold fX7_keep; rw [m_isH0 h.ms.1 q]; rfl, h⟩
  · have e32 : (32 : Int32) + nI w = nI (32 + w) := nI_add 32 w
    have k01 := (h.rv.1 w hw).2.1
    have cs : ∀ {τ : Sg} {s0 : Int32}, (σ.1 (M + 30) (32 + w) = s0 ∧ (s0 = 0 ∨ s0 = 1)) → (jX6_keep_28 0 (nI w) p2 s0 σ = fX6_keep 0 (nI w) p2 σ) := fun {τ s0} hs => by
      unfold fX6_keep
      rw [c_isH1 h hw, Option.bind_some]
      dsimp only
      rw [if_neg one0]
      simp only [Nat.zero_add]
      rw [kept_v h.ca h.cr h.rv hw, Option.bind_some]
      dsimp only
      rw [hs.1]
      rcases hs.2 with rfl | rfl
      · rw [if_neg (by decide)]
      · rw [if_pos rfl]
    have ms : ∀ {τ : Sg} {s0 : Int32}, (τ.1 (M + 30) (32 + w) = s0 ∧ (s0 = 0 ∨ s0 = 1)) → MX τ M ℓ n m → (jX7_keep_26 M (nI w) p2 s0 τ = fX7_keep M (nI w) p2 τ) := fun {τ s0} hs hx => by
      unfold fX7_keep
      rw [m_isH1 hx hw, Option.bind_some]
      dsimp only
      rw [if_neg one0, e32]
      simp (disch := omega) only [vif, nI_clamp]
      rw [hs.1]
      rcases hs.2 with rfl | rfl
      · rw [if_neg (by decide)]
      · rw [if_pos rfl]
    generalize hs0 : σ.1 (M + 30) (32 + w) = s0 at k01
    rw [← cs (τ := σ) ⟨hs0, k01⟩]
    by_cases q : s0 = p2
    · exact ⟨0, σ, σ, by unfold jX6_keep_28; rw [if_pos q], by rw [← ms ⟨hs0, k01⟩ h.ms.1]; unfold jX7_keep_26; rw [if_pos q], h⟩
    · have hh := mutate (ρ := upd (nowR M σ) (32 + w) p2) h (cm := fun τ => some (wI τ 31 4 (τ.1 31 4 ^^^ (1 : Int32) <<< (nI w &&& 31)))) (mm := fun υ => some (wI υ (M + 31) (32 + w) p2)) (fun τ hc _ => ⟨_, rfl, Fc.rf.wI (by unfold SN; omega), ?_⟩) (fun υ _ _ hr _ _ _ => ⟨_, rfl, Fc.rf.wI (by unfold SX; omega), fun x hx => ?_⟩)
      · obtain ⟨τ, τ', υ, υ', ω, g1, g2, g3, g4, g5, g6, g7, g8, g9, -⟩ := hh
        refine ⟨1, τ', ω, ?_, ?_, g8⟩
        · unfold jX6_keep_28
          rw [if_neg q, g1, Option.bind_some]
          simp only [Nat.zero_add]
          injection g2 with g2
          rw [g2]
        · rw [← ms ⟨(g4 _).trans hs0, k01⟩ g3]
          unfold jX7_keep_26 jX7_keep_53
          rw [if_neg q, g5, Option.bind_some, e32]
          simp (disch := omega) only [vif, nI_clamp]
          injection g6 with g6
          rcases hp2 with rfl | rfl
          · rw [if_pos rfl, g6, g7]; rfl
          · rw [if_neg one0, g6, g7]; rfl
      · obtain ⟨h1, h2, h3, h4⟩ := hc
        refine ⟨h1, h2.wK hn hm (fun x hx q => upd_n (by omega)) ?_, h3.u32 hn hm hw hp2, h4.wK (upd_n (by omega)) (by omega)⟩
        rw [h2.1.2.2.2.1, mk8_tog _ (by omega)]
        refine congrArg nI (mk8_c fun j hj => ?_)
        unfold fset
        by_cases z : j = w
        · subst z
          rw [if_pos rfl, ktF_t hw, ktF_t hw, upd_k, nowR_lt (by omega), hs0]
          rcases k01 with rfl | rfl <;> rcases hp2 with rfl | rfl <;> first | rfl | exact absurd rfl q
        · rw [if_neg z]
          unfold ktF
          rw [upd_n (by omega)]
      · rw [wI_k, hr]
theorem ag_pass (h : RLp M t t' ℓ n m bo dr lb lf sd kw σ) (p1 p2 : Int32) : Ag (fX6_pass 0 p1 p2) (fX7_pass M p1 p2) (RLp M t t' ℓ n m bo dr lb lf sd kw) σ := by
  have hM := h.1.1
  have hn := h.n8
  have hm := h.m6
  show ∃ r σ1 σ2, fX6_pass 0 p1 p2 σ = some (r, σ1) ∧ fX7_pass M p1 p2 σ1 = some (r, σ2) ∧ RLp M t t' ℓ n m bo dr lb lf sd kw σ2
  rcases arg p1 (n := m) (by omega) with q | ⟨e, he, rfl⟩
  · exact ⟨0, σ, σ, by unfold fX6_pass; rw [c_isS0 h q]; rfl, by unfold fX7_pass; rw [m_isS0 h.ms.1 q]; rfl, h⟩
  · have e78 : (78 : Int32) + nI e = nI (78 + e) := nI_add 78 e
    have main : ∀ s0, (s0 = -2 ∨ ∃ b, b < n ∧ s0 = nI b) → fX6_pass 0 (nI e) p2 σ = jX6_pass_34 0 (nI e) p2 s0 σ → (∀ τ, MX τ M ℓ n m → fX7_pass M (nI e) p2 τ = jX7_pass_34 M (nI e) p2 s0 τ) → ∃ r σ1 σ2, fX6_pass 0 (nI e) p2 σ = some (r, σ1) ∧ fX7_pass M (nI e) p2 σ1 = some (r, σ2) ∧ RLp M t t' ℓ n m bo dr lb lf sd kw σ2 := by
      intro s0 hs0 hc hmm
      rw [hc]
      unfold jX6_pass_34
      simp (disch := omega) only [vif, nI_clamp, Nat.zero_add]
      rw [show 31 + 8 = 39 from rfl, (h.cr.2.2 e he).2]
      by_cases q : σ.1 (M + 30) (78 + e) = s0
      · refine ⟨0, σ, σ, if_pos q, ?_, h⟩
        rw [hmm σ h.ms.1]
        unfold jX7_pass_34
        rw [e78]
        simp (disch := omega) only [vif, nI_clamp]
        rw [if_pos q]
      · rw [if_neg q]
        have hh := mutate (ρ := upd (nowR M σ) (78 + e) s0) h (cm := fun τ => some (wI τ 39 e s0)) (mm := fun υ => some (wI υ (M + 31) (78 + e) s0)) (fun τ hc _ => ⟨_, rfl, Fc.rf.wI (by unfold SN; omega), ?_⟩) (fun υ _ _ hr _ _ _ => ⟨_, rfl, Fc.rf.wI (by unfold SX; omega), fun x hx => ?_⟩)
        · obtain ⟨τ, τ', υ, υ', ω, g1, g2, g3, g4, g5, g6, g7, g8, g9, -⟩ := hh
          refine ⟨1, τ', ω, ?_, ?_, g8⟩
          · rw [g1, Option.bind_some]
            injection g2 with g2
            rw [g2]
          · rw [hmm τ' g3]
            unfold jX7_pass_34
            rw [e78]
            simp (disch := omega) only [vif, nI_clamp]
            rw [g4, if_neg q, g5, Option.bind_some]
            injection g6 with g6
            rw [g6, g7]; rfl
        · obtain ⟨h1, h2, h3, h4⟩ := hc
          exact ⟨h1, h2.wG hn hm he, h3.u78 hn hm he hs0, h4.wK (upd_n (by omega)) (by omega)⟩
        · rw [wI_k, hr]
    by_cases q1 : p2 = -1
    · refine main (-2) (Or.inl rfl) ?_ (fun τ hx => ?_)
      · unfold fX6_pass jX6_pass_23
        rw [c_isS1 h he, Option.bind_some]
        dsimp only
        rw [if_neg one0, if_pos q1, if_pos q1]
      · unfold fX7_pass jX7_pass_23
        rw [m_isS1 hx he, Option.bind_some]
        dsimp only
        rw [if_neg one0, if_pos q1, if_pos q1]
    · rcases arg p2 (n := n) (by omega) with q | ⟨w, hw, rfl⟩
      · refine ⟨0, σ, σ, ?_, ?_, h⟩
        · unfold fX6_pass
          rw [c_isS1 h he, Option.bind_some]
          dsimp only
          rw [if_neg one0, if_neg q1, c_isH0 h q]; rfl
        · unfold fX7_pass
          rw [m_isS1 h.ms.1 he, Option.bind_some]
          dsimp only
          rw [if_neg one0, if_neg q1, m_isH0 h.ms.1 q]; rfl
      · refine main (nI w) (Or.inr ⟨w, hw, rfl⟩) ?_ (fun τ hx => ?_)
        · unfold fX6_pass jX6_pass_23
          rw [c_isS1 h he, Option.bind_some]
          dsimp only
          rw [if_neg one0, if_neg q1, c_isH1 h hw, Option.bind_some]
          dsimp only
          rw [if_neg one0, if_neg q1]
        · unfold fX7_pass jX7_pass_23
          rw [m_isS1 hx he, Option.bind_some]
          dsimp only
          rw [if_neg one0, if_neg q1, m_isH1 hx hw, Option.bind_some]
          dsimp only
          rw [if_neg one0, if_neg q1]
/-- hours of now -/
theorem c_hours {p : Nat} (hp : p ≤ 72) (h : CA σ 31 t n m bo dr lb lf) (hc : CE σ 31 t n m sd ρ) : ∃ τ, lp (fun st : Int32 × Sg => bX6_hours_22 0 (nI p) st.1 st.2) (0, σ) = some τ ∧ Fs (SW 31 t) σ τ ∧ CE τ 31 t n m sd (hIt (hourS n m bo dr lb lf sd 0 (-1)) p ρ) := by
  have hh := lp_inv (f := fun st : Int32 × Sg => bX6_hours_22 0 (nI p) st.1 st.2) p (fun i τ => Fs (SW 31 t) σ τ ∧ CE τ 31 t n m sd (hIt (hourS n m bo dr lb lf sd 0 (-1)) i ρ)) (fun i τ hi hI => ?_) (fun τ hI => ?_) (σ := σ) ⟨Fs.rf, hc⟩
  · obtain ⟨τ, h1, h2⟩ := hh
    exact ⟨τ, h1, h2⟩
  · obtain ⟨hF, h1, h2, h3, h4⟩ := hI
    obtain ⟨υ, k1, k2, k3, k4, k5, k6⟩ := hour_v (h.sw hF) h2 h3 h4
    refine ⟨υ, ?_, hF.tr k1, by rw [k1.2]; exact h1, k4, k5, k6⟩
    show bX6_hours_22 0 (nI p) (nI i) τ = _
    unfold bX6_hours_22
    rw [if_neg (le_nI (by omega) (by omega) hi)]
    simp only [Nat.zero_add]
    rw [k2, Option.bind_some]
    rw [nI_s]
  · show bX6_hours_22 0 (nI p) (nI p) τ = _
    unfold bX6_hours_22
    rw [if_pos (Int32.le_refl _)]
theorem ag_hours (h : RLp M t t' ℓ n m bo dr lb lf sd kw σ) (p : Int32) : Ag (fX6_hours 0 p) (fX7_hours M p) (RLp M t t' ℓ n m bo dr lb lf sd kw) σ := by
  have hM := h.1.1
  have hn := h.n8
  have hm := h.m6
  have ht : t = 2 ∨ t = 14 := by rcases h.1.2.1 with q | q <;> omega
  show ∃ r σ1 σ2, fX6_hours 0 p σ = some (r, σ1) ∧ fX7_hours M p σ1 = some (r, σ2) ∧ RLp M t t' ℓ n m bo dr lb lf sd kw σ2
  unfold fX6_hours fX7_hours fX7_isLong
  rcases pk_ix p (n := 73) (by omega) with q | q | ⟨k, hk, rfl⟩
  · exact ⟨-1, σ, σ, if_pos q, by rw [in_0 (Or.inl q)]; rfl, h⟩
  · have q0 : ¬ p < 0 := fun z => absurd (Int32.lt_of_lt_of_le z (show (0 : Int32) ≤ nI 73 by decide)) (Int32.not_lt.mpr q)
    have q1 : ¬ p ≤ 72 := fun z => absurd (Int32.le_trans q z) (by decide)
    exact ⟨-1, σ, σ, by rw [if_neg q0, if_neg q1], by rw [in_0 (Or.inr (Int32.not_le.mp q1))]; rfl, h⟩
  · have q0 : (0 : Int32) ≤ nI k := nI_n1 (by omega)
    have q1 : nI k ≤ 72 := nI_le (b := 72) (by omega) (by omega)
    rw [if_neg (Int32.not_lt.mpr q0), if_pos q1]
    by_cases z : k = 0
    · subst z
      refine ⟨σ.1 (M + 30) 84, σ, σ, ?_, ?_, h⟩
      · rw [if_pos (by decide)]
        unfold jX6_hours_20
        have : lp (fun st : Int32 × Sg => bX6_hours_22 0 (nI 0) st.1 st.2) (0, σ) = some σ := lp_r (by show bX6_hours_22 0 (nI 0) 0 σ = _; unfold bX6_hours_22; rw [if_pos (by decide)])
        rw [this, Option.bind_some, ← h.cr.1.1]
      · rw [in_1 q0 q1]; rfl
    · rw [if_neg (show ¬ nI k ≤ 0 from le_nI (b := 0) (by omega) (by omega) (by omega))]
      have hh := mutate (ρ := hIt (hourS n m bo dr lb lf sd 0 (-1)) k (nowR M σ)) h (cm := fun τ => lp (fun st : Int32 × Sg => bX6_hours_22 0 (nI k) st.1 st.2) (0, τ)) (mm := fun υ => fX7_goes M (nI k) υ) (fun τ hc hct => ?_) (fun υ hms hrv hr h49 h50 h51 => ?_)
      · obtain ⟨τ, τ', υ, υ', ω, g1, g2, g3, g4, g5, g6, g7, g8, g9, g10⟩ := hh
        refine ⟨ω.1 (M + 30) 84, τ', ω, ?_, ?_, g8⟩
        · rw [g1, Option.bind_some]
          unfold jX6_hours_20
          rw [g2, Option.bind_some, g9 84 (by omega), ← g10.2.1.1.1]
        · rw [in_1 q0 q1, Option.bind_some]
          dsimp only
          rw [Option.bind_some]
          dsimp only
          rw [if_neg one0, if_neg (show ¬ nI k = 0 from ne_nI (b := 0) (by omega) (by omega) z), g5, Option.bind_some, g6, Option.bind_some, g7, Option.bind_some]
      · obtain ⟨τ', a1, a2, a3⟩ := c_hours (p := k) (by omega) ⟨by omega, hc.1, hct⟩ hc
        exact ⟨τ', a1, (a2.mo (fun k j q => by unfold SW SC at q; unfold SN; omega)).fc, a3⟩
      · obtain ⟨υ', a1, a2, a3, a4⟩ := goes_v hms hrv h49 h50 h51 (k := k) (by omega)
        have tl : ∀ x, 88 ≤ x → ∀ ρ, hourS n m bo dr lb lf sd 0 (-1) ρ x = ρ x := fun x hx ρ => hourS_t hx hn hm
        refine ⟨υ', a2, a1.fx (fun _ _ => SR_SQ) (fun x hx => by rw [a3, hIt_t (tl x hx)]), fun x hx => ?_⟩
        rw [a3, hr]
end MUT
