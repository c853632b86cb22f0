section STAY2
variable {M a b t t' ℓ n m L : Nat} {bo : Nat → Bool} {dr : Nat → Int32} {lb : Nat → Br} {lf : Nat → Rp} {sd : Int32} {kw : Nat → Int64} {σ τ υ : Sg} {ρ ρ' : Nat → Int32}
theorem cnt_tb {s : Nat} (hn : n ≤ 8) (hs : s < 2 ^ n) : cnt8 (tb s) ≤ n := by
  have h : ∀ s : Fin 256, ∀ n : Fin 9, s.1 < 2 ^ n.1 → cnt8 (tb s.1) ≤ n.1 := by decide +kernel
  exact h ⟨s, Nat.lt_of_lt_of_le hs (pow8 hn)⟩ ⟨n, by omega⟩ hs
/-- the fewest, and of these the least -/
def RS (N : Nat) (P : Nat → Bool) (s : Nat) : Prop := s < N ∧ P s = true ∧ (∀ s', s' < N → P s' = true → cnt8 (tb s) ≤ cnt8 (tb s')) ∧ ∀ s', s' < s → P s' = true → cnt8 (tb s') ≠ cnt8 (tb s)
theorem RS.u {N : Nat} {P : Nat → Bool} {s s' : Nat} (h : RS N P s) (h' : RS N P s') : s = s' := by
  obtain ⟨a1, a2, a3, a4⟩ := h
  obtain ⟨b1, b2, b3, b4⟩ := h'
  have e : cnt8 (tb s) = cnt8 (tb s') := Nat.le_antisymm (a3 s' b1 b2) (b3 s a1 a2)
  rcases Nat.lt_trichotomy s s' with q | q | q
  · exact absurd e (b4 s q a2)
  · exact q
  · exact absurd e.symm (a4 s' q b2)
theorem ag_stay (h : RLp M t t' ℓ n m bo dr lb lf sd kw σ) (p1 : Int32) : Ag (fX6_stay 0 p1) (fX7_stay M p1) (RLp M t t' ℓ n m bo dr lb lf sd kw) σ := by
  have hn := h.n8
  have hm := h.m6
  have hM := h.1.1
  have ht := h.t2
  have h8 := pow8 hn
  have hN0 : 0 < 2 ^ n := Nat.two_pow_pos n
  show ∃ r σ1 σ2, fX6_stay 0 p1 σ = some (r, σ1) ∧ fX7_stay M p1 σ1 = some (r, σ2) ∧ RLp M t t' ℓ n m bo dr lb lf sd kw σ2
  unfold fX6_stay fX7_stay
  rcases either p1 with hp | ⟨h0, h1, hp⟩
  · generalize hN : 2 ^ n = N at h8 hN0
    generalize hP : (fun s => decide (nI s &&& nI (mk8 (ktF n (σ.1 (M + 30)) 32)) = 0) && enB n m bo dr lb lf sd (nowR M σ) s) = P
    have pe : ∀ s, P s = (decide (nI s &&& nI (mk8 (ktF n (σ.1 (M + 30)) 32)) = 0) && enB n m bo dr lb lf sd (nowR M σ) s) := fun s => by rw [← hP]
    have ebc : ∀ {s : Nat} (τ : Sg), s < 256 → fJ6_bitCount_0f7a4 (nI s) τ = some (nI (cnt8 (tb s)), τ) := fun {s} τ hs => by
      have := bitCount_v (tb s) τ
      rwa [mk8_tb hs] at this
    have emb : ∀ {s : Nat} (τ : Sg), s < 256 → fX7_bits (nI s) τ = some (nI (cnt8 (tb s)), τ) := fun {s} τ hs => by
      have := bits_v (tb s) τ
      rwa [mk8_tb hs] at this
    have cst : ∀ (z s : Nat) (τ : Sg), z ≤ 8 → s < N → Fx M σ τ → ∃ υ, Fx M σ υ ∧ bX6_stay_30 0 p1 (nI (N - 1)) (nI z) (nI s) τ = if cnt8 (tb s) = z ∧ P s = true then some (Sum.inr (Sum.inl (nI s, υ))) else some (Sum.inl (nI (s + 1), υ)) := by
      intro z s τ hz hs hF
      have hτ := h.fx hF
      have c8 := cnt8_le (tb s)
      have ek : τ.1 31 4 = nI (mk8 (ktF n (σ.1 (M + 30)) 32)) := by
        rw [hτ.cr.1.2.2.2.1]
        exact ktF_c (fun x hx => hF.1 _ _ (by unfold SX; omega))
      unfold bX6_stay_30 jX6_stay_105
      rw [if_neg (Int32.not_lt.mpr (nI_le (by omega) (by omega))), ebc τ (by omega), Option.bind_some]
      simp only [Nat.zero_add]
      rw [ek, nI_s]
      by_cases q1 : cnt8 (tb s) = z
      · rw [if_pos (by rw [q1])]
        by_cases q2 : nI s &&& nI (mk8 (ktF n (σ.1 (M + 30)) 32)) = 0
        · obtain ⟨υ1, υ2, u1, u2, u3⟩ := c_enough hτ (s := s) (by omega)
          rw [nowR_fx hM hF] at u2
          refine ⟨υ2, hF.tr u3, ?_⟩
          have pS : P s = (wFs (oH n (hourS n m bo dr lb lf sd 1 (-1)) (keR n s (nowR M σ))) 72).isNone := (pe s).trans (by rw [decide_eq_true q2, Bool.true_and]; rfl)
          have hl : ∀ j, wFs (oH n (hourS n m bo dr lb lf sd 1 (-1)) (keR n s (nowR M σ))) 72 = some j → j < 72 := fun j hj => wFs_lt _ hj
          generalize wFs (oH n (hourS n m bo dr lb lf sd 1 (-1)) (keR n s (nowR M σ))) 72 = W at u2 pS hl
          rw [if_pos q2, u1, Option.bind_some, u2, Option.bind_some]
          dsimp only
          cases W with
          | none => rw [if_pos (show fsI none = -2 from rfl), if_pos ⟨q1, pS⟩]
          | some j =>
            have hj := hl j rfl
            have : ¬ fsI (some j) = -2 := by
              intro z
              have : (0 : Int32) ≤ nI j := nI_n1 (by omega)
              rw [show nI j = -2 from z] at this
              exact absurd this (by decide)
            rw [if_neg this, if_neg (fun z => by rw [pS] at z; cases z.2)]
        · refine ⟨τ, hF, ?_⟩
          rw [if_neg q2, if_neg (fun z => by rw [pe, decide_eq_false q2] at z; cases z.2)]
      · refine ⟨τ, hF, ?_⟩
        rw [if_neg (ne_nI (by omega) (by omega) q1), if_neg (fun z => q1 z.1)]
    have cin : ∀ (z : Nat), z ≤ 8 → ∀ (d s : Nat) (τ : Sg), s + d = N → Fx M σ τ → (∀ s', s' < s → ¬ (cnt8 (tb s') = z ∧ P s' = true)) → ∃ υ o, Fx M σ υ ∧ lp (fun st : Int32 × Sg => bX6_stay_30 0 p1 (nI (N - 1)) (nI z) st.1 st.2) (nI s, τ) = some o ∧ ((o = Sum.inr υ ∧ ∀ s', s' < N → ¬ (cnt8 (tb s') = z ∧ P s' = true)) ∨ ∃ s', o = Sum.inl (nI s', υ) ∧ s' < N ∧ cnt8 (tb s') = z ∧ P s' = true ∧ ∀ x, x < s' → ¬ (cnt8 (tb x) = z ∧ P x = true)) := by
      intro z hz d
      induction d with
      | zero =>
        intro s τ hs hF hno
        have : s = N := by omega
        subst this
        refine ⟨τ, Sum.inr τ, hF, lp_r ?_, Or.inl ⟨rfl, hno⟩⟩
        show bX6_stay_30 0 p1 (nI (s - 1)) (nI z) (nI s) τ = _
        unfold bX6_stay_30
        rw [if_pos (Int32.not_le.mp (le_nI (by omega) (by omega) (by omega)))]
      | succ d ih =>
        intro s τ hs hF hno
        obtain ⟨υ, u1, u2⟩ := cst z s τ hz (by omega) hF
        by_cases q : cnt8 (tb s) = z ∧ P s = true
        · rw [if_pos q] at u2
          exact ⟨υ, Sum.inl (nI s, υ), u1, lp_r u2, Or.inr ⟨s, rfl, by omega, q.1, q.2, hno⟩⟩
        · rw [if_neg q] at u2
          obtain ⟨ω, o, o1, o2, o3⟩ := ih (s + 1) υ (by omega) u1 (fun s' hs' => by
            by_cases y : s' = s
            · rw [y]; exact q
            · exact hno s' (by omega))
          exact ⟨ω, o, o1, (lp_l u2).trans o2, o3⟩
    have cou : ∀ (d z : Nat) (τ : Sg), z + d = n + 1 → Fx M σ τ → (∀ s, s < N → P s = true → z ≤ cnt8 (tb s)) → ∃ υ o, Fx M σ υ ∧ lp (fun st : Int32 × Sg => bX6_stay_16 0 p1 (nI (N - 1)) st.1 st.2) (nI z, τ) = some o ∧ ((o = Sum.inr υ ∧ ∀ s, s < N → P s = false) ∨ ∃ s, o = Sum.inl (nI (cnt8 (tb s)), nI s, υ) ∧ RS N P s) := by
      intro d
      induction d with
      | zero =>
        intro z τ hz hF hno
        have hτ := h.fx hF
        have : z = n + 1 := by omega
        subst this
        refine ⟨τ, Sum.inr τ, hF, lp_r ?_, Or.inl ⟨rfl, fun s hs => ?_⟩⟩
        · show bX6_stay_16 0 p1 (nI (N - 1)) (nI (n + 1)) τ = _
          unfold bX6_stay_16
          rw [hτ.1.2.2.1, hτ.ct.2.1, if_pos (Int32.not_le.mp (le_nI (by omega) (by omega) (by omega)))]
        · cases hq : P s
          · rfl
          · have := hno s hs hq
            have := cnt_tb hn (s := s) (by omega)
            omega
      | succ d ih =>
        intro z τ hz hF hno
        have hτ := h.fx hF
        obtain ⟨υ, o, u1, u2, u3⟩ := cin z (by omega) N 0 τ (by omega) hF (fun s' hs' => by omega)
        have st : bX6_stay_16 0 p1 (nI (N - 1)) (nI z) τ = (some o).bind (fun o33 => Sum.elim (fun q36 => let y35 := q36.1; let σ34 := q36.2;  some (Sum.inr (Sum.inl (nI z, y35, σ34)))) (fun o33_ => (fun σ37 => (let x3_38 := nI z + (1 : Int32); some (Sum.inl (x3_38, σ37)))) o33_) o33) := by
          unfold bX6_stay_16
          rw [hτ.1.2.2.1, hτ.ct.2.1, if_neg (Int32.not_lt.mpr (nI_le (by omega) (by omega))), show (0 : Int32) = nI 0 from rfl, u2]
        rcases u3 with ⟨rfl, u4⟩ | ⟨s', rfl, u4, u5, u6, u7⟩
        · have st : bX6_stay_16 0 p1 (nI (N - 1)) (nI z) τ = some (Sum.inl (nI (z + 1), υ)) := by rw [st, ← nI_s]; rfl
          obtain ⟨ω, o, o1, o2, o3⟩ := ih (z + 1) υ (by omega) u1 (fun s hs hPs => by
            have := hno s hs hPs
            have := u4 s hs
            by_cases y : cnt8 (tb s) = z
            · exact absurd ⟨y, hPs⟩ this
            · omega)
          exact ⟨ω, o, o1, (lp_l st).trans o2, o3⟩
        · have st : bX6_stay_16 0 p1 (nI (N - 1)) (nI z) τ = some (Sum.inr (Sum.inl (nI z, nI s', υ))) := by rw [st]; rfl
          refine ⟨υ, Sum.inl (nI z, nI s', υ), u1, lp_r st, Or.inr ⟨s', by rw [u5], u4, u6, fun s hs hPs => by rw [u5]; exact hno s hs hPs, fun s hs hPs y => u7 s hs ⟨by rw [y, u5], hPs⟩⟩⟩
    have mcheck : ∀ (s : Nat) (x2 x3 : Int32) (τ : Sg), s < N → Fx M σ τ → ∃ υ, Fx M σ υ ∧ jX7_stay_61 M p1 x2 x3 (nI s) τ = if enB n m bo dr lb lf sd (nowR M σ) s = true then some (Sum.inl (nI s, nI (s + 1), υ)) else some (Sum.inl (x3, nI (s + 1), υ)) := by
      intro s x2 x3 τ hs hF
      obtain ⟨υ, u1, u2⟩ := m_enough (h.fx hF) (s := s) (by omega)
      rw [nowR_fx hM hF] at u1
      refine ⟨υ, hF.tr u2, ?_⟩
      unfold jX7_stay_61 jX7_stay_76
      rw [u1, Option.bind_some]
      dsimp only
      rw [nI_s]
      cases enB n m bo dr lb lf sd (nowR M σ) s
      · rw [if_pos (by decide), if_neg (by decide)]
      · rw [if_neg (by decide), if_pos rfl]
    have mlo : ∀ (d s : Nat) (x3 : Int32) (τ : Sg), s + d = N → Fx M σ τ → ((x3 = -2 ∧ ∀ s', s' < s → P s' = false) ∨ ∃ b, x3 = nI b ∧ b < s ∧ P b = true ∧ (∀ s', s' < s → P s' = true → cnt8 (tb b) ≤ cnt8 (tb s')) ∧ ∀ s', s' < b → P s' = true → cnt8 (tb s') ≠ cnt8 (tb b)) → ∃ υ, Fx M σ υ ∧ ((lp (fun st : Int32 × Int32 × Sg => bX7_stay_22 M p1 (nI (mk8 (ktF n (σ.1 (M + 30)) 32))) st.1 st.2.1 st.2.2) (x3, nI s, τ) = some (-2, υ) ∧ ∀ s, s < N → P s = false) ∨ ∃ b, lp (fun st : Int32 × Int32 × Sg => bX7_stay_22 M p1 (nI (mk8 (ktF n (σ.1 (M + 30)) 32))) st.1 st.2.1 st.2.2) (x3, nI s, τ) = some (nI b, υ) ∧ RS N P b) := by
      intro d
      induction d with
      | zero =>
        intro s x3 τ hs hF hI
        have hX := (h.fx hF).ms.1
        have : s = N := by omega
        subst this
        have st : (fun st : Int32 × Int32 × Sg => bX7_stay_22 M p1 (nI (mk8 (ktF n (σ.1 (M + 30)) 32))) st.1 st.2.1 st.2.2) (x3, nI s, τ) = some (Sum.inr (x3, τ)) := by
          show bX7_stay_22 M p1 _ x3 (nI s) τ = _
          unfold bX7_stay_22
          rw [if_pos hX.vl, hX.cl, hX.2.2.2.1, sh8 hn, hN, if_pos (Int32.le_refl _)]
        refine ⟨τ, hF, ?_⟩
        rw [lp_r st]
        rcases hI with ⟨rfl, q⟩ | ⟨b, rfl, q1, q2, q3, q4⟩
        · exact Or.inl ⟨rfl, q⟩
        · exact Or.inr ⟨b, rfl, q1, q2, q3, q4⟩
      | succ d ih =>
        intro s x3 τ hs hF hI
        have hX := (h.fx hF).ms.1
        have c8 := cnt8_le (tb s)
        -- one step, with what it leaves
        have step : ∃ υ x3', Fx M σ υ ∧ bX7_stay_22 M p1 (nI (mk8 (ktF n (σ.1 (M + 30)) 32))) x3 (nI s) τ = some (Sum.inl (x3', nI (s + 1), υ)) ∧ ((x3' = -2 ∧ ∀ s', s' < s + 1 → P s' = false) ∨ ∃ b, x3' = nI b ∧ b < s + 1 ∧ P b = true ∧ (∀ s', s' < s + 1 → P s' = true → cnt8 (tb b) ≤ cnt8 (tb s')) ∧ ∀ s', s' < b → P s' = true → cnt8 (tb s') ≠ cnt8 (tb b)) := by
          have un : bX7_stay_22 M p1 (nI (mk8 (ktF n (σ.1 (M + 30)) 32))) x3 (nI s) τ = (if (nI s &&& nI (mk8 (ktF n (σ.1 (M + 30)) 32))) = 0 then (if x3 < 0 then (jX7_stay_61 M p1 (nI (mk8 (ktF n (σ.1 (M + 30)) 32))) x3 (nI s) τ) else ((fX7_bits (nI s) τ).bind (fun q23 => (fX7_bits x3 q23.2).bind (fun q28 => if q28.1 ≤ q23.1 then (jX7_stay_76 M p1 (nI (mk8 (ktF n (σ.1 (M + 30)) 32))) x3 (nI s) q28.2) else (jX7_stay_61 M p1 (nI (mk8 (ktF n (σ.1 (M + 30)) 32))) x3 (nI s) q28.2))))) else (jX7_stay_76 M p1 (nI (mk8 (ktF n (σ.1 (M + 30)) 32))) x3 (nI s) τ)) := by
            conv => lhs; unfold bX7_stay_22
            rw [if_pos hX.vl, hX.cl, hX.2.2.2.1, sh8 hn, hN, if_neg (le_nI (by omega) (by omega) (by omega))]
          have kp : ∀ τ, jX7_stay_76 M p1 (nI (mk8 (ktF n (σ.1 (M + 30)) 32))) x3 (nI s) τ = some (Sum.inl (x3, nI (s + 1), τ)) := fun τ => by unfold jX7_stay_76; rw [nI_s]
          rw [un]
          by_cases q0 : nI s &&& nI (mk8 (ktF n (σ.1 (M + 30)) 32)) = 0
          · rw [if_pos q0]
            have pS : P s = enB n m bo dr lb lf sd (nowR M σ) s := by rw [pe, decide_eq_true q0, Bool.true_and]
            obtain ⟨υ, u1, u2⟩ := mcheck s (nI (mk8 (ktF n (σ.1 (M + 30)) 32))) x3 τ (by omega) hF
            rcases hI with ⟨rfl, q⟩ | ⟨b, rfl, q1, q2, q3, q4⟩
            · rw [if_pos (by decide), u2]
              cases he : enB n m bo dr lb lf sd (nowR M σ) s
              · rw [if_neg (by decide)]
                refine ⟨υ, _, u1, rfl, Or.inl ⟨rfl, fun s' hs' => ?_⟩⟩
                by_cases y : s' = s
                · rw [y, pS, he]
                · exact q s' (by omega)
              · rw [if_pos rfl]
                refine ⟨υ, _, u1, rfl, Or.inr ⟨s, rfl, by omega, by rw [pS, he], fun s' hs' hp' => ?_, fun s' hs' hp' => ?_⟩⟩
                · by_cases y : s' = s
                  · rw [y]; exact Nat.le_refl _
                  · rw [q s' (by omega)] at hp'; cases hp'
                · rw [q s' hs'] at hp'; cases hp'
            · have cb8 := cnt8_le (tb b)
              rw [if_neg (Int32.not_lt.mpr (nI_n1 (by omega))), emb τ (by omega), Option.bind_some]
              dsimp only
              rw [emb τ (by omega), Option.bind_some]
              dsimp only
              by_cases y : cnt8 (tb b) ≤ cnt8 (tb s)
              · rw [if_pos (nI_le y (by omega)), kp]
                refine ⟨τ, _, hF, rfl, Or.inr ⟨b, rfl, by omega, q2, fun s' hs' hp' => ?_, q4⟩⟩
                by_cases x : s' = s
                · rw [x]; exact y
                · exact q3 s' (by omega) hp'
              · rw [if_neg (le_nI (by omega) (by omega) (by omega)), u2]
                cases he : enB n m bo dr lb lf sd (nowR M σ) s
                · rw [if_neg (by decide)]
                  refine ⟨υ, _, u1, rfl, Or.inr ⟨b, rfl, by omega, q2, fun s' hs' hp' => ?_, q4⟩⟩
                  by_cases x : s' = s
                  · rw [x, pS, he] at hp'; cases hp'
                  · exact q3 s' (by omega) hp'
                · rw [if_pos rfl]
                  refine ⟨υ, _, u1, rfl, Or.inr ⟨s, rfl, by omega, by rw [pS, he], fun s' hs' hp' => ?_, fun s' hs' hp' => ?_⟩⟩
                  · by_cases x : s' = s
                    · rw [x]; exact Nat.le_refl _
                    · have := q3 s' (by omega) hp'; omega
                  · have := q3 s' hs' hp'; omega
          · rw [if_neg q0, kp]
            have pS : P s = false := by rw [pe, decide_eq_false q0, Bool.false_and]
            refine ⟨τ, x3, hF, rfl, ?_⟩
            rcases hI with ⟨e, q⟩ | ⟨b, e, q1, q2, q3, q4⟩
            · refine Or.inl ⟨e, fun s' hs' => ?_⟩
              by_cases y : s' = s
              · rw [y, pS]
              · exact q s' (by omega)
            · refine Or.inr ⟨b, e, by omega, q2, fun s' hs' hp' => ?_, q4⟩
              by_cases x : s' = s
              · rw [x, pS] at hp'; cases hp'
              · exact q3 s' (by omega) hp'
        obtain ⟨υ, x3', v1, v2, v3⟩ := step
        obtain ⟨ω, o1, o2⟩ := ih (s + 1) x3' υ (by omega) v1 v3
        refine ⟨ω, o1, ?_⟩
        rw [lp_l (a := (x3, nI s, τ)) (a' := (x3', nI (s + 1), υ)) v2]
        exact o2
    obtain ⟨τ, o, c1, c2, c3⟩ := cou (n + 1) 0 σ (by omega) Fc.rf (fun s _ _ => Nat.zero_le _)
    have hτ := h.fx c1
    obtain ⟨υ, m1, m2⟩ := mlo N 0 (-2) τ (by omega) c1 (Or.inl ⟨rfl, fun s' hs' => by omega⟩)
    have ek : fX7_keptBits M τ = some (nI (mk8 (ktF n (σ.1 (M + 30)) 32)), τ) := by
      rw [m_kept hτ.ms.1 hτ.rv, show τ.1 (M + 30) = σ.1 (M + 30) from funext fun x => c1.1 _ _ (by unfold SX; omega)]
    have eall : fX6_allHouses 0 σ = some (nI (N - 1), σ) := by
      unfold fX6_allHouses
      rw [h.1.2.2.1, h.ct.2.1, sh8 hn, hN, nI_p (by omega)]
    rw [c_ei1 hp, Option.bind_some]
    dsimp only
    rw [if_neg one0, eall, Option.bind_some]
    dsimp only
    have c2 : lp (fun st : Int32 × Sg => bX6_stay_16 0 p1 (nI (N - 1)) st.1 st.2) (0, σ) = some o := c2
    rw [c2, Option.bind_some]
    rcases c3 with ⟨rfl, c4⟩ | ⟨s, rfl, c4⟩
    · rcases m2 with ⟨m2, -⟩ | ⟨b, m2, m3⟩
      · refine ⟨-2, τ, υ, rfl, ?_, h.fx m1⟩
        rw [m_ei1 hp, Option.bind_some]
        dsimp only
        rw [if_neg one0, ek, Option.bind_some]
        dsimp only
        rw [show (0 : Int32) = nI 0 from rfl, m2, Option.bind_some]
        dsimp only
        rw [if_pos (by decide)]; rfl
      · have := c4 b m3.1; rw [m3.2.1] at this; cases this
    · rcases m2 with ⟨m2, m3⟩ | ⟨b, m2, m3⟩
      · have := m3 s c4.1; rw [c4.2.1] at this; cases this
      · have e := c4.u m3
        subst e
        have s1 := c4.1
        refine ⟨if p1 = 0 then nI (cnt8 (tb s)) else nI s, τ, υ, ?_, ?_, h.fx m1⟩
        · show (if p1 = 0 then some (nI (cnt8 (tb s)), τ) else some (nI s, τ)) = _
          split <;> rfl
        · rw [m_ei1 hp, Option.bind_some]
          dsimp only
          rw [if_neg one0, ek, Option.bind_some]
          dsimp only
          have m2' : lp (fun st : Int32 × Int32 × Sg => bX7_stay_22 M p1 (nI (mk8 (ktF n (σ.1 (M + 30)) 32))) st.1 st.2.1 st.2.2) (-2, 0, τ) = some (nI s, υ) := m2
          rw [m2', Option.bind_some]
          dsimp only
          rw [if_neg (Int32.not_lt.mpr (nI_n1 (by omega))), emb υ (by omega)]
          unfold jX7_stay_91
          rcases hp with rfl | rfl
          · rw [if_neg (by decide), if_pos rfl]; rfl
          · rw [if_pos rfl, if_neg one0]
  · exact ⟨-1, σ, σ, by rw [c_ei0 h0 h1]; rfl, by rw [in_0 hp]; rfl, h⟩
end STAY2
