/-! the class's constructor -/
theorem gpw {G : Gm} {σ : Sg} {H0 H : Heap} {locs : List Loc} {x v : Nat} (_ : Ws (gPush G 9) σ H0 H locs) (h : x ≠ gN G) (hk : gK G x = v) : gK (gPush G 9) x = v := by rw [gpu, if_neg h]; exact hk
theorem ii2 (i : Nat) : nI i + Int32.ofInt 1 = nI (i + 1) := (ii (k := 1) (by decide)).trans (nI_s i)
def TXt (t : Nat) (σ : Sg) : Prop := (∀ j, σ.1 t j = 0) ∧ ∀ k, k < 4 → LC σ (t + 7) k [] (dfl k)
def RGz (a t : Nat) (σ : Sg) : Prop := (∀ j, σ.1 a j = 0) ∧ σ.2.2.1 a 0 = t
theorem TXt.ag {t N : Nat} {σ τ : Sg} (h : TXt t σ) (hA : AG N σ τ) (hN : t + 9 < N) : TXt t τ := ⟨fun j => by rw [(hA t (by omega)).1]; exact h.1 j, fun k hk => LC.e (h.2 k hk) (fun x x1 x2 => (hA x (by omega)).1)⟩
theorem RGz.ag {a t N : Nat} {σ τ : Sg} (h : RGz a t σ) (hA : AG N σ τ) (hN : a < N) : RGz a t τ := ⟨fun j => by rw [(hA a hN).1]; exact h.1 j, by rw [(hA a hN).2.2]; exact h.2⟩
def LPc (a d i j : Nat) (G0 : Gm) (σ0 : Sg) (G : Gm) (σ : Sg) : Prop := gS G0 G ∧ gN G = a + 55 + 9 * d ∧ (∀ x, x < a → gK G x = gK G0 x) ∧ (∀ x, x < a → σ.1 x = σ0.1 x ∧ σ.2.1 x = σ0.2.1 x ∧ σ.2.2.1 x = σ0.2.2.1 x ∧ σ.2.2.2 x = σ0.2.2.2 x) ∧ (gK G a = 7 ∧ gK G (a + 51) = kA 4 40 ∧ gK G (a + 52) = kA 4 3) ∧ (σ.2.2.1 a 3 = a + 2 ∧ σ.2.2.1 a 4 = a + 14) ∧ TXt (a + 2) σ ∧ RGz (a + 31) (a + 2) σ ∧ (∀ j, σ.1 a j = if j = 2 then (-1) else 0) ∧ (∀ q, q < i → σ.2.2.1 (a + 51) q = a + 55 + 9 * q) ∧ ∀ q, q < j → σ.2.2.1 (a + 52) q = a + 415 + 9 * q
theorem LPc.ring {a d i j : Nat} {G0 G G3 : Gm} {σ0 σ σ3 : Sg} {e : va_E} (h : LPc a d i j G0 σ0 G σ) (g : gS G0 G3) (hp : PBx (gN G) 9 KX2 (gPush G 9) (zE σ (gN G) e) G3 σ3) : LPc a (d + 1) i j G0 σ0 G3 σ3 ∧ gK G3 (gN G) = 3 := by
  obtain ⟨h1, h2, h3, h4, h5, h6, h7, h8, h9, h10, h11⟩ := h
  obtain ⟨p1, p2, p3, p4⟩ := hp
  have kk : ∀ x, x < gN G → gK G3 x = gK G x := fun x hx => by rw [p2 x hx, gpu, if_neg (by omega)]
  have ss : ∀ x, x < gN G → σ3.1 x = σ.1 x ∧ σ3.2.1 x = σ.2.1 x ∧ σ3.2.2.1 x = σ.2.2.1 x ∧ σ3.2.2.2 x = σ.2.2.2 x := fun x hx => by
    obtain ⟨q1, q2, q3, q4⟩ := p4 x hx
    obtain ⟨w1, w2, w3, w4⟩ := oZE (σ := σ) (k := gN G) (e := e) x (by omega)
    exact ⟨q1.trans w1, q2.trans w2, q3.trans w3, q4.trans w4⟩
  have hA : AG (gN G) σ σ3 := fun x hx => ⟨(ss x hx).1, (ss x hx).2.1, (ss x hx).2.2.1⟩
  refine ⟨⟨g, by omega, fun x hx => by rw [kk x (by omega)]; exact h3 x hx, fun x hx => ?_, ⟨by rw [kk _ (by omega)]; exact h5.1, by rw [kk _ (by omega)]; exact h5.2.1, by rw [kk _ (by omega)]; exact h5.2.2⟩, ⟨by rw [(ss a (by omega)).2.2.1]; exact h6.1, by rw [(ss a (by omega)).2.2.1]; exact h6.2⟩, h7.ag hA (by omega), h8.ag hA (by omega), fun q => by rw [(ss a (by omega)).1]; exact h9 q, fun q hq => by rw [(ss _ (by omega)).2.2.1]; exact h10 q hq, fun q hq => by rw [(ss _ (by omega)).2.2.1]; exact h11 q hq⟩, p3 0 (by omega)⟩
  obtain ⟨q1, q2, q3, q4⟩ := ss x (by omega)
  rw [q1, q2, q3, q4]; exact h4 x hx
theorem LPc.set {a d i j : Nat} {G0 G : Gm} {σ0 σ : Sg} (h : LPc a d i j G0 σ0 G σ) {k q v i' j' : Nat} (hk : k = a + 51 ∨ k = a + 52) (h51 : ∀ x, x < i' → (wT σ k q v).2.2.1 (a + 51) x = a + 55 + 9 * x) (h52 : ∀ x, x < j' → (wT σ k q v).2.2.1 (a + 52) x = a + 415 + 9 * x) : LPc a d i' j' G0 σ0 G (wT σ k q v) := by
  obtain ⟨h1, h2, h3, h4, h5, h6, h7, h8, h9, h10, h11⟩ := h
  have o : ∀ x, x ≠ k → (wT σ k q v).2.2.1 x = σ.2.2.1 x := fun x hx => va_up_ne _ _ hx
  refine ⟨h1, h2, h3, fun x hx => ?_, h5, ⟨by rw [o a (by omega)]; exact h6.1, by rw [o a (by omega)]; exact h6.2⟩, h7, ⟨h8.1, by rw [o _ (by omega)]; exact h8.2⟩, h9, h51, h52⟩
  obtain ⟨q1, q2, q3, q4⟩ := h4 x hx
  exact ⟨q1, q2, by rw [o x (by omega)]; exact q3, q4⟩
theorem LPc.s51 {a d i j : Nat} {G0 G : Gm} {σ0 σ : Sg} (h : LPc a d i j G0 σ0 G σ) : LPc a d (i + 1) j G0 σ0 G (wT σ (a + 51) i (a + 55 + 9 * i)) := by
  refine h.set (Or.inl rfl) (fun x hx => ?_) (fun x hx => ?_)
  · show va_up σ.2.2.1 (a + 51) (va_up (σ.2.2.1 (a + 51)) i (a + 55 + 9 * i)) (a + 51) x = _
    rw [up2]
    by_cases z : x = i
    · rw [if_pos ⟨rfl, z⟩, z]
    · rw [if_neg (by omega)]; exact h.2.2.2.2.2.2.2.2.2.1 x (by omega)
  · show va_up σ.2.2.1 (a + 51) (va_up (σ.2.2.1 (a + 51)) i (a + 55 + 9 * i)) (a + 52) x = _
    rw [up2, if_neg (by omega)]; exact h.2.2.2.2.2.2.2.2.2.2 x hx
theorem LPc.s52 {a d i j : Nat} {G0 G : Gm} {σ0 σ : Sg} (h : LPc a d i j G0 σ0 G σ) : LPc a d i (j + 1) G0 σ0 G (wT σ (a + 52) j (a + 415 + 9 * j)) := by
  refine h.set (Or.inr rfl) (fun x hx => ?_) (fun x hx => ?_)
  · show va_up σ.2.2.1 (a + 52) (va_up (σ.2.2.1 (a + 52)) j (a + 415 + 9 * j)) (a + 51) x = _
    rw [up2, if_neg (by omega)]; exact h.2.2.2.2.2.2.2.2.2.1 x hx
  · show va_up σ.2.2.1 (a + 52) (va_up (σ.2.2.1 (a + 52)) j (a + 415 + 9 * j)) (a + 52) x = _
    rw [up2]
    by_cases z : x = j
    · rw [if_pos ⟨rfl, z⟩, z]
    · rw [if_neg (by omega)]; exact h.2.2.2.2.2.2.2.2.2.2 x (by omega)
def KX6 : Nat → Nat := fun i => [7, kA 0 2000, 4, kA 2 8, kA 1 8, kA 1 8, kA 1 8, kA 1 6, kA 1 6, 1, kA 1 408, kA 1 4, kA 1 9, kA 1 24, 4, kA 2 8, kA 1 8, kA 1 8, kA 1 8, kA 1 6, kA 1 6, 1, kA 1 408, kA 1 4, kA 1 9, kA 1 24, 2, 5, kA 1 402, kA 1 402, kA 2 402, 3, kA 1 8, kA 1 8, kA 1 8, kA 1 8, kA 1 8, kA 1 8, kA 1 6, kA 1 6, 3, kA 1 8, kA 1 8, kA 1 8, kA 1 8, kA 1 8, kA 1 8, kA 1 6, kA 1 6, 6, kA 1 8, kA 4 40, kA 4 3, kA 1 20, kA 1 8].getD i 0
theorem kiX6_init : KI yX6_init cX6_init 2 0 := ⟨⟨w_128, w_109, w_129⟩, rfl, ⟨by decide, by decide, by decide +kernel⟩⟩
set_option maxRecDepth 100000 in
set_option maxHeartbeats 8000000 in
theorem nX6_init {l : Launch} {G : Gm} {a b : Nat} {σ : Sg} (hb : gB G = b) (hN : gN G = a + 1) (hk : gK G a = 9) (hE : σ.2.2.2 a = .inr (6, [.null, .int 0, .int 0, .null, .null, .null, .null, .null, .null, .null, .int 0, .int 0, .null, .int 0, .null, .int 0, .int 0, .null])) : Mx l G yX6_init cX6_init 2 5 106 441 7911 [.ref (b + a)] σ (fun G' σ' => LPc a 43 40 3 G σ G' σ') := by
  subst hb
  unfold Mx
  refine of_Wn "RightKeys" rfl (by decide) (Nat.le_of_ble_eq_true rfl) ?_
  intro p e s m args below meth c Q hQ C hr hlk hin2 hW ls hl
  have hl : lv_has ls 2 [(0, .ref (gB G + a))] := hl
  have hI : IV a 6 [.null, .int 0, .int 0, .null, .null, .null, .null, .null, .null, .null, .int 0, .int 0, .null, .int 0, .null, .int 0, .int 0, .null] KX6 1 G σ G σ := IV.en hN hk hE
  refine lv_aload_n C.1.1 C.1.2.1 dX6_init_0 rfl (lv_at hl 0 rfl) ?_
  refine W.objInit C.1.1 C.1.2.1 C.1.2.2.2.1 (C.w w_130) (C.w w_131) (C.w w_132) rfl (hl.1.trans C.1.2.2.1.symm) rfl dX6_init_1 (Nat.le_of_ble_eq_true rfl) (Nat.le_of_ble_eq_true rfl) ?_
  refine W.eq (g2 := F0 m 4 ls []) rfl ?_
  refine lv_aload_n C.1.1 C.1.2.1 dX6_init_4 rfl (lv_at hl 0 rfl) ?_
  refine lv_sipush (v := 2000) C.1.1 C.1.2.1 dX6_init_5 (by decide) ?_
  refine xnB C hW hI w_176 (N := 2000) (by decide) (by decide) (Nat.le_of_ble_eq_true rfl) (Nat.le_of_ble_eq_true rfl) (Nat.le_of_ble_eq_true rfl) rfl dX6_init_8 (fun Gx σx H hI hA hz hW => ?_)
  refine xpF C hW hI hin2 tbX6 tyX6 tyX6_ok nmX6 rfl 0 (by decide) w_405 rfl rfl (ty := .array .byte) (by decide +kernel) rfl rfl (fs' := [.ref (gB G + (a + 1)), .int 0, .int 0, .null, .null, .null, .null, .null, .null, .null, .int 0, .int 0, .null, .int 0, .null, .int 0, .int 0, .null]) rfl (Nat.le_of_ble_eq_true rfl) dX6_init_10 (fun σx H locs hI hA hW => ?_)
  refine lv_aload_n C.1.1 C.1.2.1 dX6_init_13 rfl (lv_at hl 0 rfl) ?_
  refine lv_iconst (v := 0) C.1.1 C.1.2.1 dX6_init_14 (by decide) ?_
  refine xpR C hW hI tbX6 tyX6 tyX6_ok nmX6 rfl 1 (by decide) w_406 rfl (ty := .int) (by decide +kernel) rfl rfl (fs' := [.ref (gB G + (a + 1)), .int 0, .int 0, .null, .null, .null, .null, .null, .null, .null, .int 0, .int 0, .null, .int 0, .null, .int 0, .int 0, .null]) rfl (Nat.le_of_ble_eq_true rfl) dX6_init_15 (fun σx H locs hI hA hW => ?_)
  refine lv_aload_n C.1.1 C.1.2.1 dX6_init_18 rfl (lv_at hl 0 rfl) ?_
  refine lv_iconst (v := (-1)) C.1.1 C.1.2.1 dX6_init_19 (by decide) ?_
  refine xpR C hW hI tbX6 tyX6 tyX6_ok nmX6 rfl 2 (by decide) w_407 rfl (ty := .int) (by decide +kernel) rfl rfl (fs' := [.ref (gB G + (a + 1)), .int 0, .int (-1), .null, .null, .null, .null, .null, .null, .null, .int 0, .int 0, .null, .int 0, .null, .int 0, .int 0, .null]) rfl (Nat.le_of_ble_eq_true rfl) dX6_init_20 (fun σx H locs hI hA hW => ?_)
  refine lv_aload_n C.1.1 C.1.2.1 dX6_init_23 rfl (lv_at hl 0 rfl) ?_
  refine xnew C hW hI tbX3 tyX3 tyX3_ok (ci2 := 3) rfl w_133 w_134 w_110 (fs2 := [.int 0, .int 0, .int 0, .int 0, .null, .null, .null, .null, .null, .null, .null]) df3 (Nat.le_of_ble_eq_true rfl) (Nat.le_of_ble_eq_true rfl) dX6_init_24 (fun Gx σx H hI hA hW => ?_)
  refine lv_dup C.1.1 C.1.2.1 dX6_init_27 rfl ?_
  refine xcI C hW hI (cnt := 12) (KK2 := KX3) (nX3_init hI.1.B hI.2.1 hI.2.2.2.2.2.2.2.2.1 hI.2.2.2.2.2.2.2.2.2) (fun i hi => (by decide : ∀ i : Fin 12, KX3 i.1 = KX6 (2 + i.1)) ⟨i, hi⟩) kiX3_init (Or.inr (by decide)) ⟨(Nat.le_of_ble_eq_true rfl), (Nat.le_of_ble_eq_true rfl)⟩ ⟨(Nat.le_of_ble_eq_true rfl), (Nat.le_of_ble_eq_true rfl)⟩ rfl hl.1 (rest := [.ref _, .ref _]) rfl (Nat.le_of_ble_eq_true rfl) dX6_init_28 (fun Gx σx H locs hI hA hP hW => ?_)
  have hT : TXt (a + 2) σx := hP
  refine xpR C hW hI tbX6 tyX6 tyX6_ok nmX6 rfl 3 (by decide) w_408 rfl (ty := .object "RightKeys$Text") (by decide +kernel) rfl rfl (fs' := [.ref (gB G + (a + 1)), .int 0, .int (-1), .ref (gB G + (a + 2)), .null, .null, .null, .null, .null, .null, .int 0, .int 0, .null, .int 0, .null, .int 0, .int 0, .null]) rfl (Nat.le_of_ble_eq_true rfl) dX6_init_31 (fun σx H locs hI hA hW => ?_)
  replace hT := hT.ag hA (by omega)
  refine lv_aload_n C.1.1 C.1.2.1 dX6_init_34 rfl (lv_at hl 0 rfl) ?_
  refine xnew C hW hI tbX3 tyX3 tyX3_ok (ci2 := 3) rfl w_133 w_134 w_110 (fs2 := [.int 0, .int 0, .int 0, .int 0, .null, .null, .null, .null, .null, .null, .null]) df3 (Nat.le_of_ble_eq_true rfl) (Nat.le_of_ble_eq_true rfl) dX6_init_35 (fun Gx σx H hI hA hW => ?_)
  replace hT := hT.ag hA (by omega)
  refine lv_dup C.1.1 C.1.2.1 dX6_init_38 rfl ?_
  refine xcI C hW hI (cnt := 12) (KK2 := KX3) (nX3_init hI.1.B hI.2.1 hI.2.2.2.2.2.2.2.2.1 hI.2.2.2.2.2.2.2.2.2) (fun i hi => (by decide : ∀ i : Fin 12, KX3 i.1 = KX6 (14 + i.1)) ⟨i, hi⟩) kiX3_init (Or.inr (by decide)) ⟨(Nat.le_of_ble_eq_true rfl), (Nat.le_of_ble_eq_true rfl)⟩ ⟨(Nat.le_of_ble_eq_true rfl), (Nat.le_of_ble_eq_true rfl)⟩ rfl hl.1 (rest := [.ref _, .ref _]) rfl (Nat.le_of_ble_eq_true rfl) dX6_init_39 (fun Gx σx H locs hI hA hP hW => ?_)
  replace hT := hT.ag hA (by omega)
  refine xpR C hW hI tbX6 tyX6 tyX6_ok nmX6 rfl 4 (by decide) w_409 rfl (ty := .object "RightKeys$Text") (by decide +kernel) rfl rfl (fs' := [.ref (gB G + (a + 1)), .int 0, .int (-1), .ref (gB G + (a + 2)), .ref (gB G + (a + 14)), .null, .null, .null, .null, .null, .int 0, .int 0, .null, .int 0, .null, .int 0, .int 0, .null]) rfl (Nat.le_of_ble_eq_true rfl) dX6_init_42 (fun σx H locs hI hA hW => ?_)
  replace hT := hT.ag hA (by omega)
  refine lv_aload_n C.1.1 C.1.2.1 dX6_init_45 rfl (lv_at hl 0 rfl) ?_
  refine xnew C hW hI tbX1 tyX1 tyX1_ok (ci2 := 1) rfl w_239 w_240 w_112 (fs2 := [.null, .int 0, .null, .int 0, .int 0, .int 0, .int 0]) df1 (Nat.le_of_ble_eq_true rfl) (Nat.le_of_ble_eq_true rfl) dX6_init_46 (fun Gx σx H hI hA hW => ?_)
  replace hT := hT.ag hA (by omega)
  refine lv_dup C.1.1 C.1.2.1 dX6_init_49 rfl ?_
  refine lv_aload_n C.1.1 C.1.2.1 dX6_init_50 rfl (lv_at hl 0 rfl) ?_
  refine xgR C hW hI.1 hI.2.2.2.1 hI.2.2.2.2.1 tbX6 (ci := 6) rfl 4 (by decide) w_409 rfl dX6_init_51 ?_
  refine xcI C hW hI (cnt := 5) (KK2 := KX1) (nX1_init hI.1.B hI.2.1 hI.2.2.2.2.2.2.2.2.1 hI.2.2.2.2.2.2.2.2.2 (a1 := a + 14) (hI.2.2.2.2.2.2.1 14 (by decide) (by decide)) (by omega)) (fun i hi => (by decide : ∀ i : Fin 5, KX1 i.1 = KX6 (26 + i.1)) ⟨i, hi⟩) kiX1_init (Or.inl w_241) ⟨(Nat.le_of_ble_eq_true rfl), (Nat.le_of_ble_eq_true rfl)⟩ ⟨(Nat.le_of_ble_eq_true rfl), (Nat.le_of_ble_eq_true rfl)⟩ rfl hl.1 (rest := [.ref _, .ref _]) rfl (Nat.le_of_ble_eq_true rfl) dX6_init_54 (fun Gx σx H locs hI hA hP hW => ?_)
  replace hT := hT.ag hA (by omega)
  refine xpF C hW hI hin2 tbX6 tyX6 tyX6_ok nmX6 rfl 5 (by decide) w_410 rfl rfl (ty := .object "RightKeys$Reader") (by decide +kernel) rfl rfl (fs' := [.ref (gB G + (a + 1)), .int 0, .int (-1), .ref (gB G + (a + 2)), .ref (gB G + (a + 14)), .ref (gB G + (a + 26)), .null, .null, .null, .null, .int 0, .int 0, .null, .int 0, .null, .int 0, .int 0, .null]) rfl (Nat.le_of_ble_eq_true rfl) dX6_init_57 (fun σx H locs hI hA hW => ?_)
  replace hT := hT.ag hA (by omega)
  refine lv_aload_n C.1.1 C.1.2.1 dX6_init_60 rfl (lv_at hl 0 rfl) ?_
  refine xnew C hW hI tbX2 tyX2 tyX2_ok (ci2 := 2) rfl w_291 w_292 w_114 (fs2 := [.null, .int 0, .int 0, .int 0, .int 0, .int 0, .int 0, .int 0, .int 0, .int 0, .int 0, .int 0, .null, .null, .null, .null, .null, .null, .null, .null]) df2 (Nat.le_of_ble_eq_true rfl) (Nat.le_of_ble_eq_true rfl) dX6_init_61 (fun Gx σx H hI hA hW => ?_)
  replace hT := hT.ag hA (by omega)
  refine lv_dup C.1.1 C.1.2.1 dX6_init_64 rfl ?_
  refine lv_aload_n C.1.1 C.1.2.1 dX6_init_65 rfl (lv_at hl 0 rfl) ?_
  refine xgR C hW hI.1 hI.2.2.2.1 hI.2.2.2.2.1 tbX6 (ci := 6) rfl 3 (by decide) w_408 rfl dX6_init_66 ?_
  refine xcI C hW hI (cnt := 9) (KK2 := KX2) (nX2_init hI.1.B hI.2.1 hI.2.2.2.2.2.2.2.2.1 hI.2.2.2.2.2.2.2.2.2 (a1 := a + 2) (hI.2.2.2.2.2.2.1 2 (by decide) (by decide)) (by omega)) (fun i hi => (by decide : ∀ i : Fin 9, KX2 i.1 = KX6 (31 + i.1)) ⟨i, hi⟩) kiX2_init (Or.inl w_293) ⟨(Nat.le_of_ble_eq_true rfl), (Nat.le_of_ble_eq_true rfl)⟩ ⟨(Nat.le_of_ble_eq_true rfl), (Nat.le_of_ble_eq_true rfl)⟩ rfl hl.1 (rest := [.ref _, .ref _]) rfl (Nat.le_of_ble_eq_true rfl) dX6_init_69 (fun Gx σx H locs hI hA hP hW => ?_)
  replace hT := hT.ag hA (by omega)
  have hR : RGz (a + 31) (a + 2) σx := hP
  refine xpF C hW hI hin2 tbX6 tyX6 tyX6_ok nmX6 rfl 6 (by decide) w_411 rfl rfl (ty := .object "RightKeys$Ring") (by decide +kernel) rfl rfl (fs' := [.ref (gB G + (a + 1)), .int 0, .int (-1), .ref (gB G + (a + 2)), .ref (gB G + (a + 14)), .ref (gB G + (a + 26)), .ref (gB G + (a + 31)), .null, .null, .null, .int 0, .int 0, .null, .int 0, .null, .int 0, .int 0, .null]) rfl (Nat.le_of_ble_eq_true rfl) dX6_init_72 (fun σx H locs hI hA hW => ?_)
  replace hT := hT.ag hA (by omega)
  replace hR := hR.ag hA (by omega)
  refine lv_aload_n C.1.1 C.1.2.1 dX6_init_75 rfl (lv_at hl 0 rfl) ?_
  refine xnew C hW hI tbX2 tyX2 tyX2_ok (ci2 := 2) rfl w_291 w_292 w_114 (fs2 := [.null, .int 0, .int 0, .int 0, .int 0, .int 0, .int 0, .int 0, .int 0, .int 0, .int 0, .int 0, .null, .null, .null, .null, .null, .null, .null, .null]) df2 (Nat.le_of_ble_eq_true rfl) (Nat.le_of_ble_eq_true rfl) dX6_init_76 (fun Gx σx H hI hA hW => ?_)
  replace hT := hT.ag hA (by omega)
  replace hR := hR.ag hA (by omega)
  refine lv_dup C.1.1 C.1.2.1 dX6_init_79 rfl ?_
  refine lv_aload_n C.1.1 C.1.2.1 dX6_init_80 rfl (lv_at hl 0 rfl) ?_
  refine xgR C hW hI.1 hI.2.2.2.1 hI.2.2.2.2.1 tbX6 (ci := 6) rfl 3 (by decide) w_408 rfl dX6_init_81 ?_
  refine xcI C hW hI (cnt := 9) (KK2 := KX2) (nX2_init hI.1.B hI.2.1 hI.2.2.2.2.2.2.2.2.1 hI.2.2.2.2.2.2.2.2.2 (a1 := a + 2) (hI.2.2.2.2.2.2.1 2 (by decide) (by decide)) (by omega)) (fun i hi => (by decide : ∀ i : Fin 9, KX2 i.1 = KX6 (40 + i.1)) ⟨i, hi⟩) kiX2_init (Or.inl w_293) ⟨(Nat.le_of_ble_eq_true rfl), (Nat.le_of_ble_eq_true rfl)⟩ ⟨(Nat.le_of_ble_eq_true rfl), (Nat.le_of_ble_eq_true rfl)⟩ rfl hl.1 (rest := [.ref _, .ref _]) rfl (Nat.le_of_ble_eq_true rfl) dX6_init_84 (fun Gx σx H locs hI hA hP hW => ?_)
  replace hT := hT.ag hA (by omega)
  replace hR := hR.ag hA (by omega)
  refine xpF C hW hI hin2 tbX6 tyX6 tyX6_ok nmX6 rfl 7 (by decide) w_412 rfl rfl (ty := .object "RightKeys$Ring") (by decide +kernel) rfl rfl (fs' := [.ref (gB G + (a + 1)), .int 0, .int (-1), .ref (gB G + (a + 2)), .ref (gB G + (a + 14)), .ref (gB G + (a + 26)), .ref (gB G + (a + 31)), .ref (gB G + (a + 40)), .null, .null, .int 0, .int 0, .null, .int 0, .null, .int 0, .int 0, .null]) rfl (Nat.le_of_ble_eq_true rfl) dX6_init_87 (fun σx H locs hI hA hW => ?_)
  replace hT := hT.ag hA (by omega)
  replace hR := hR.ag hA (by omega)
  refine lv_aload_n C.1.1 C.1.2.1 dX6_init_90 rfl (lv_at hl 0 rfl) ?_
  refine xnew C hW hI tbX5 tyX5 tyX5_ok (ci2 := 5) rfl w_377 w_378 w_115 (fs2 := [.null, .int 0, .int 0, .int 0, .int 0]) df5 (Nat.le_of_ble_eq_true rfl) (Nat.le_of_ble_eq_true rfl) dX6_init_91 (fun Gx σx H hI hA hW => ?_)
  replace hT := hT.ag hA (by omega)
  replace hR := hR.ag hA (by omega)
  refine lv_dup C.1.1 C.1.2.1 dX6_init_94 rfl ?_
  refine xcI C hW hI (cnt := 2) (KK2 := KX5) (nX5_init hI.1.B hI.2.1 hI.2.2.2.2.2.2.2.2.1 hI.2.2.2.2.2.2.2.2.2) (fun i hi => (by decide : ∀ i : Fin 2, KX5 i.1 = KX6 (49 + i.1)) ⟨i, hi⟩) kiX5_init (Or.inr (by decide)) ⟨(Nat.le_of_ble_eq_true rfl), (Nat.le_of_ble_eq_true rfl)⟩ ⟨(Nat.le_of_ble_eq_true rfl), (Nat.le_of_ble_eq_true rfl)⟩ rfl hl.1 (rest := [.ref _, .ref _]) rfl (Nat.le_of_ble_eq_true rfl) dX6_init_95 (fun Gx σx H locs hI hA hP hW => ?_)
  replace hT := hT.ag hA (by omega)
  replace hR := hR.ag hA (by omega)
  refine xpF C hW hI hin2 tbX6 tyX6 tyX6_ok nmX6 rfl 8 (by decide) w_413 rfl rfl (ty := .object "RightKeys$Watch") (by decide +kernel) rfl rfl (fs' := [.ref (gB G + (a + 1)), .int 0, .int (-1), .ref (gB G + (a + 2)), .ref (gB G + (a + 14)), .ref (gB G + (a + 26)), .ref (gB G + (a + 31)), .ref (gB G + (a + 40)), .ref (gB G + (a + 49)), .null, .int 0, .int 0, .null, .int 0, .null, .int 0, .int 0, .null]) rfl (Nat.le_of_ble_eq_true rfl) dX6_init_98 (fun σx H locs hI hA hW => ?_)
  replace hT := hT.ag hA (by omega)
  replace hR := hR.ag hA (by omega)
  refine lv_aload_n C.1.1 C.1.2.1 dX6_init_101 rfl (lv_at hl 0 rfl) ?_
  refine lv_bipush (v := 40) C.1.1 C.1.2.1 dX6_init_102 (by decide) ?_
  refine xnQ C hW hI w_291 (N := 40) (by decide) (by decide) (Nat.le_of_ble_eq_true rfl) (Nat.le_of_ble_eq_true rfl) (Nat.le_of_ble_eq_true rfl) rfl dX6_init_104 (fun Gx σx H hI hA hz hW => ?_)
  replace hT := hT.ag hA (by omega)
  replace hR := hR.ag hA (by omega)
  refine xpF C hW hI hin2 tbX6 tyX6 tyX6_ok nmX6 rfl 9 (by decide) w_414 rfl rfl (ty := .array (.object "RightKeys$Ring")) (by decide +kernel) rfl rfl (fs' := [.ref (gB G + (a + 1)), .int 0, .int (-1), .ref (gB G + (a + 2)), .ref (gB G + (a + 14)), .ref (gB G + (a + 26)), .ref (gB G + (a + 31)), .ref (gB G + (a + 40)), .ref (gB G + (a + 49)), .ref (gB G + (a + 51)), .int 0, .int 0, .null, .int 0, .null, .int 0, .int 0, .null]) rfl (Nat.le_of_ble_eq_true rfl) dX6_init_107 (fun σx H locs hI hA hW => ?_)
  replace hT := hT.ag hA (by omega)
  replace hR := hR.ag hA (by omega)
  refine lv_aload_n C.1.1 C.1.2.1 dX6_init_110 rfl (lv_at hl 0 rfl) ?_
  refine lv_iconst (v := 0) C.1.1 C.1.2.1 dX6_init_111 (by decide) ?_
  refine xpR C hW hI tbX6 tyX6 tyX6_ok nmX6 rfl 10 (by decide) w_415 rfl (ty := .int) (by decide +kernel) rfl rfl (fs' := [.ref (gB G + (a + 1)), .int 0, .int (-1), .ref (gB G + (a + 2)), .ref (gB G + (a + 14)), .ref (gB G + (a + 26)), .ref (gB G + (a + 31)), .ref (gB G + (a + 40)), .ref (gB G + (a + 49)), .ref (gB G + (a + 51)), .int 0, .int 0, .null, .int 0, .null, .int 0, .int 0, .null]) rfl (Nat.le_of_ble_eq_true rfl) dX6_init_112 (fun σx H locs hI hA hW => ?_)
  replace hT := hT.ag hA (by omega)
  replace hR := hR.ag hA (by omega)
  refine lv_aload_n C.1.1 C.1.2.1 dX6_init_115 rfl (lv_at hl 0 rfl) ?_
  refine lv_iconst (v := 0) C.1.1 C.1.2.1 dX6_init_116 (by decide) ?_
  refine xpR C hW hI tbX6 tyX6 tyX6_ok nmX6 rfl 11 (by decide) w_416 rfl (ty := .int) (by decide +kernel) rfl rfl (fs' := [.ref (gB G + (a + 1)), .int 0, .int (-1), .ref (gB G + (a + 2)), .ref (gB G + (a + 14)), .ref (gB G + (a + 26)), .ref (gB G + (a + 31)), .ref (gB G + (a + 40)), .ref (gB G + (a + 49)), .ref (gB G + (a + 51)), .int 0, .int 0, .null, .int 0, .null, .int 0, .int 0, .null]) rfl (Nat.le_of_ble_eq_true rfl) dX6_init_117 (fun σx H locs hI hA hW => ?_)
  replace hT := hT.ag hA (by omega)
  replace hR := hR.ag hA (by omega)
  refine lv_aload_n C.1.1 C.1.2.1 dX6_init_120 rfl (lv_at hl 0 rfl) ?_
  refine lv_iconst (v := 3) C.1.1 C.1.2.1 dX6_init_121 (by decide) ?_
  refine xnQ C hW hI w_291 (N := 3) (by decide) (by decide) (Nat.le_of_ble_eq_true rfl) (Nat.le_of_ble_eq_true rfl) (Nat.le_of_ble_eq_true rfl) rfl dX6_init_122 (fun Gx σx H hI hA hz hW => ?_)
  replace hT := hT.ag hA (by omega)
  replace hR := hR.ag hA (by omega)
  refine xpF C hW hI hin2 tbX6 tyX6 tyX6_ok nmX6 rfl 12 (by decide) w_417 rfl rfl (ty := .array (.object "RightKeys$Ring")) (by decide +kernel) rfl rfl (fs' := [.ref (gB G + (a + 1)), .int 0, .int (-1), .ref (gB G + (a + 2)), .ref (gB G + (a + 14)), .ref (gB G + (a + 26)), .ref (gB G + (a + 31)), .ref (gB G + (a + 40)), .ref (gB G + (a + 49)), .ref (gB G + (a + 51)), .int 0, .int 0, .ref (gB G + (a + 52)), .int 0, .null, .int 0, .int 0, .null]) rfl (Nat.le_of_ble_eq_true rfl) dX6_init_125 (fun σx H locs hI hA hW => ?_)
  replace hT := hT.ag hA (by omega)
  replace hR := hR.ag hA (by omega)
  refine lv_aload_n C.1.1 C.1.2.1 dX6_init_128 rfl (lv_at hl 0 rfl) ?_
  refine lv_iconst (v := 0) C.1.1 C.1.2.1 dX6_init_129 (by decide) ?_
  refine xpR C hW hI tbX6 tyX6 tyX6_ok nmX6 rfl 13 (by decide) w_418 rfl (ty := .int) (by decide +kernel) rfl rfl (fs' := [.ref (gB G + (a + 1)), .int 0, .int (-1), .ref (gB G + (a + 2)), .ref (gB G + (a + 14)), .ref (gB G + (a + 26)), .ref (gB G + (a + 31)), .ref (gB G + (a + 40)), .ref (gB G + (a + 49)), .ref (gB G + (a + 51)), .int 0, .int 0, .ref (gB G + (a + 52)), .int 0, .null, .int 0, .int 0, .null]) rfl (Nat.le_of_ble_eq_true rfl) dX6_init_130 (fun σx H locs hI hA hW => ?_)
  replace hT := hT.ag hA (by omega)
  replace hR := hR.ag hA (by omega)
  refine lv_aload_n C.1.1 C.1.2.1 dX6_init_133 rfl (lv_at hl 0 rfl) ?_
  refine lv_bipush (v := 20) C.1.1 C.1.2.1 dX6_init_134 (by decide) ?_
  refine xnI C hW hI w_178 (N := 20) (by decide) (by decide) (Nat.le_of_ble_eq_true rfl) (Nat.le_of_ble_eq_true rfl) (Nat.le_of_ble_eq_true rfl) rfl dX6_init_136 (fun Gx σx H hI hA hz hW => ?_)
  replace hT := hT.ag hA (by omega)
  replace hR := hR.ag hA (by omega)
  refine xpF C hW hI hin2 tbX6 tyX6 tyX6_ok nmX6 rfl 14 (by decide) w_419 rfl rfl (ty := .array .int) (by decide +kernel) rfl rfl (fs' := [.ref (gB G + (a + 1)), .int 0, .int (-1), .ref (gB G + (a + 2)), .ref (gB G + (a + 14)), .ref (gB G + (a + 26)), .ref (gB G + (a + 31)), .ref (gB G + (a + 40)), .ref (gB G + (a + 49)), .ref (gB G + (a + 51)), .int 0, .int 0, .ref (gB G + (a + 52)), .int 0, .ref (gB G + (a + 53)), .int 0, .int 0, .null]) rfl (Nat.le_of_ble_eq_true rfl) dX6_init_138 (fun σx H locs hI hA hW => ?_)
  replace hT := hT.ag hA (by omega)
  replace hR := hR.ag hA (by omega)
  refine lv_aload_n C.1.1 C.1.2.1 dX6_init_141 rfl (lv_at hl 0 rfl) ?_
  refine lv_iconst (v := 0) C.1.1 C.1.2.1 dX6_init_142 (by decide) ?_
  refine xpR C hW hI tbX6 tyX6 tyX6_ok nmX6 rfl 15 (by decide) w_420 rfl (ty := .int) (by decide +kernel) rfl rfl (fs' := [.ref (gB G + (a + 1)), .int 0, .int (-1), .ref (gB G + (a + 2)), .ref (gB G + (a + 14)), .ref (gB G + (a + 26)), .ref (gB G + (a + 31)), .ref (gB G + (a + 40)), .ref (gB G + (a + 49)), .ref (gB G + (a + 51)), .int 0, .int 0, .ref (gB G + (a + 52)), .int 0, .ref (gB G + (a + 53)), .int 0, .int 0, .null]) rfl (Nat.le_of_ble_eq_true rfl) dX6_init_143 (fun σx H locs hI hA hW => ?_)
  replace hT := hT.ag hA (by omega)
  replace hR := hR.ag hA (by omega)
  refine lv_aload_n C.1.1 C.1.2.1 dX6_init_146 rfl (lv_at hl 0 rfl) ?_
  refine lv_iconst (v := 0) C.1.1 C.1.2.1 dX6_init_147 (by decide) ?_
  refine xpR C hW hI tbX6 tyX6 tyX6_ok nmX6 rfl 16 (by decide) w_421 rfl (ty := .int) (by decide +kernel) rfl rfl (fs' := [.ref (gB G + (a + 1)), .int 0, .int (-1), .ref (gB G + (a + 2)), .ref (gB G + (a + 14)), .ref (gB G + (a + 26)), .ref (gB G + (a + 31)), .ref (gB G + (a + 40)), .ref (gB G + (a + 49)), .ref (gB G + (a + 51)), .int 0, .int 0, .ref (gB G + (a + 52)), .int 0, .ref (gB G + (a + 53)), .int 0, .int 0, .null]) rfl (Nat.le_of_ble_eq_true rfl) dX6_init_148 (fun σx H locs hI hA hW => ?_)
  replace hT := hT.ag hA (by omega)
  replace hR := hR.ag hA (by omega)
  refine lv_aload_n C.1.1 C.1.2.1 dX6_init_151 rfl (lv_at hl 0 rfl) ?_
  refine lv_bipush (v := 8) C.1.1 C.1.2.1 dX6_init_152 (by decide) ?_
  refine xnI C hW hI w_178 (N := 8) (by decide) (by decide) (Nat.le_of_ble_eq_true rfl) (Nat.le_of_ble_eq_true rfl) (Nat.le_of_ble_eq_true rfl) rfl dX6_init_154 (fun Gx σx H hI hA hz hW => ?_)
  replace hT := hT.ag hA (by omega)
  replace hR := hR.ag hA (by omega)
  refine xpF C hW hI hin2 tbX6 tyX6 tyX6_ok nmX6 rfl 17 (by decide) w_422 rfl rfl (ty := .array .int) (by decide +kernel) rfl rfl (fs' := [.ref (gB G + (a + 1)), .int 0, .int (-1), .ref (gB G + (a + 2)), .ref (gB G + (a + 14)), .ref (gB G + (a + 26)), .ref (gB G + (a + 31)), .ref (gB G + (a + 40)), .ref (gB G + (a + 49)), .ref (gB G + (a + 51)), .int 0, .int 0, .ref (gB G + (a + 52)), .int 0, .ref (gB G + (a + 53)), .int 0, .int 0, .ref (gB G + (a + 54))]) rfl (Nat.le_of_ble_eq_true rfl) dX6_init_156 (fun σx H locs hI hA hW => ?_)
  replace hT := hT.ag hA (by omega)
  replace hR := hR.ag hA (by omega)
  have hr3 : gK Gx ((wT (wT (wR σx a (fun j => if j = 2 then (-1) else 0)) a 3 (a + 2)) a 4 (a + 14)).2.2.1 a 3) = 4 := by
    have z : (wT (wT (wR σx a (fun j => if j = 2 then (-1) else 0)) a 3 (a + 2)) a 4 (a + 14)).2.2.1 a 3 = a + 2 := by simp [wT, va_up]
    rw [z]; exact hI.2.2.2.2.2.2.1 2 (by decide) (by decide)
  have hr4 : gK Gx ((wT (wT (wR σx a (fun j => if j = 2 then (-1) else 0)) a 3 (a + 2)) a 4 (a + 14)).2.2.1 a 4) = 4 := by
    have z : (wT (wT (wR σx a (fun j => if j = 2 then (-1) else 0)) a 3 (a + 2)) a 4 (a + 14)).2.2.1 a 4 = a + 14 := by simp [wT, va_up]
    rw [z]; exact hI.2.2.2.2.2.2.1 14 (by decide) (by decide)
  obtain ⟨hW, hG, hPB⟩ := hI.kind hW (σ' := wT (wT (wR σx a (fun j => if j = 2 then (-1) else 0)) a 3 (a + 2)) a 4 (a + 14)) (by rw [hI.1.B]; show clE _ _ _ a 7 = _; simp [clE, obE, wT, wR, va_up]) (fun x hx => by simp [wT, wR, va_up, hx]) (sh_kind hW.1.2.2.2 hI.2.2.2.1 ⟨by decide, by decide⟩ (fun x hx => by simp [wT, wR, va_up, hx]) (fun h => absurd h (by decide)) (fun h => absurd h (by decide)) (fun h => absurd h (by decide)) (fun h => absurd h (by decide)) (fun h => absurd h (by decide)) (fun h => absurd h (by decide)) (fun _ => ⟨(hI.2.2.2.2.2.2.1 1 (by decide) (by decide)), hr3, hr4, (hI.2.2.2.2.2.2.1 26 (by decide) (by decide)), (hI.2.2.2.2.2.2.1 31 (by decide) (by decide)), (hI.2.2.2.2.2.2.1 40 (by decide) (by decide)), (hI.2.2.2.2.2.2.1 49 (by decide) (by decide)), (hI.2.2.2.2.2.2.1 51 (by decide) (by decide)), (hI.2.2.2.2.2.2.1 52 (by decide) (by decide)), (hI.2.2.2.2.2.2.1 53 (by decide) (by decide)), (hI.2.2.2.2.2.2.1 54 (by decide) (by decide))⟩) (fun h => absurd h (by decide))) rfl
  have hT2 : TXt (a + 2) (wT (wT (wR σx a (fun j => if j = 2 then (-1) else 0)) a 3 (a + 2)) a 4 (a + 14)) := ⟨fun j => by show (wR σx a _).1 (a + 2) j = 0; rw [wR_n (by omega)]; exact hT.1 j, fun k hk => LC.e (hT.2 k hk) (fun x x1 x2 => by show (wR σx a _).1 x = _; rw [wR_n (by omega)])⟩
  have hR2 : RGz (a + 31) (a + 2) (wT (wT (wR σx a (fun j => if j = 2 then (-1) else 0)) a 3 (a + 2)) a 4 (a + 14)) := ⟨fun j => by show (wR σx a _).1 (a + 31) j = 0; rw [wR_n (by omega)]; exact hR.1 j, by rw [(oT (a + 31) (by omega)).2.2.1, (oT (a + 31) (by omega)).2.2.1]; exact hR.2⟩
  have hF2 : ∀ j, (wT (wT (wR σx a (fun j => if j = 2 then (-1) else 0)) a 3 (a + 2)) a 4 (a + 14)).1 a j = if j = 2 then (-1) else 0 := fun j => by show (wR σx a _).1 a j = _; rw [wR_k]
  have z3 : (wT (wT (wR σx a (fun j => if j = 2 then (-1) else 0)) a 3 (a + 2)) a 4 (a + 14)).2.2.1 a 3 = a + 2 := by simp [wT, va_up]
  have z4 : (wT (wT (wR σx a (fun j => if j = 2 then (-1) else 0)) a 3 (a + 2)) a 4 (a + 14)).2.2.1 a 4 = a + 14 := by simp [wT, va_up]
  generalize wT (wT (wR σx a (fun j => if j = 2 then (-1) else 0)) a 3 (a + 2)) a 4 (a + 14) = σy at hW hPB hT2 hR2 hF2 z3 z4
  generalize gKind Gx a (6 + 1) = Gy at hW hG hPB
  have hLP : LPc a 0 0 0 G σ Gy σy := ⟨hG, hPB.1, hPB.2.1, hPB.2.2.2, ⟨hPB.2.2.1 0 (by decide), hPB.2.2.1 51 (by decide), hPB.2.2.1 52 (by decide)⟩, ⟨z3, z4⟩, hT2, hR2, hF2, fun q hq => by omega, fun q hq => by omega⟩
  have L1 : ∀ (k i : Nat), i + k = 40 → ∀ (G1 : Gm) (σ1 : Sg) (H : Heap) (locs : List Loc) (ls : Array Slot), LPc a (i) (i) 0 G σ G1 σ1 → Ws G1 σ1 s.heap H locs → lv_has ls 2 [(0, .ref (gB G + a)), (1, .int (nI i))] → (∀ (G1 : Gm) (σ1 : Sg) (H : Heap) (locs : List Loc) (ls : Array Slot), LPc a (40) (40) 0 G σ G1 σ1 → Ws G1 σ1 s.heap H locs → lv_has ls 2 [(0, .ref (gB G + a))] → W p l e { frames := 5, cells := 441, slots := 7911, locals := 106 } s m args below meth c H locs (54 + 9 * 40) (4471 + 80 * 40) Q (F0 m 190 ls [])) → W p l e { frames := 5, cells := 441, slots := 7911, locals := 106 } s m args below meth c H locs (54 + 9 * i) (4471 + 80 * i) Q (F0 m 161 ls []) := by
    intro k
    induction k with
    | zero =>
      intro i hi G1 σ1 H locs ls hLP hW hl K
      have hi : i = 40 := by omega
      subst hi
      refine lv_iload_n C.1.1 C.1.2.1 dX6_init_161 rfl (lv_at hl 1 rfl) ?_
      refine lv_bipush (v := 40) C.1.1 C.1.2.1 dX6_init_162 (by decide) ?_
      refine lv_icmp_ge (tgt := 190) C.1.1 C.1.2.1 dX6_init_164 (by decide) (fun h9 => ?_) (fun h9 => absurd (show (40 : Int32) ≤ nI 40 by decide) h9)
      exact K _ _ _ _ _ hLP hW (lv_sub hl [0] rfl)
    | succ k ih =>
      intro i hi G1 σ1 H locs ls hLP hW hl K
      refine lv_iload_n C.1.1 C.1.2.1 dX6_init_161 rfl (lv_at hl 1 rfl) ?_
      refine lv_bipush (v := 40) C.1.1 C.1.2.1 dX6_init_162 (by decide) ?_
      refine lv_icmp_ge (tgt := 190) C.1.1 C.1.2.1 dX6_init_164 (by decide) (fun h9 => absurd h9 (show ¬ (40 : Int32) ≤ nI i from le_nI (a := 40) (by omega) (by omega) (by omega))) (fun h9 => ?_)
      have hLP0 := hLP
      have hS := hLP.1
      obtain ⟨N9, kd9, rfl⟩ := hS
      have hS := hLP0.1
      have C1 := hS.Cx C
      have hN9 : N9 = a + 55 + 9 * (i) := hLP.2.1
      subst hN9
      have hk1 := hLP.2.2.2.2.1.1
      refine lv_aload_n C.1.1 C.1.2.1 dX6_init_167 rfl (lv_at hl 0 rfl) ?_
      refine gf6_9 C1 hW hk1 w_414 dX6_init_168 ?_
      refine lv_iload_n C.1.1 C.1.2.1 dX6_init_171 rfl (lv_at hl 1 rfl) ?_
      refine wnew C1 hW tbX2 tyX2 tyX2_ok (ci := 2) rfl w_291 w_292 w_114 (fs := [.null, .int 0, .int 0, .int 0, .int 0, .int 0, .int 0, .int 0, .int 0, .int 0, .int 0, .int 0, .null, .null, .null, .null, .null, .null, .null, .null]) df2 (by show _ ≤ 441; omega) (by show _ ≤ 7911; omega) dX6_init_172 (fun H hW => ?_)
      have C2 := (gS.push _ 9).Cx C1
      have hk2 := gpw hW (x := a) (show a ≠ a + 55 + 9 * (i) by omega) hk1
      have hr9 := gpk9 hW
      have hE9 := zEk9 hW
      have e3 : (zE σ1 (a + 55 + 9 * (i)) (.inr (2, [.null, .int 0, .int 0, .int 0, .int 0, .int 0, .int 0, .int 0, .int 0, .int 0, .int 0, .int 0, .null, .null, .null, .null, .null, .null, .null, .null]))).2.2.1 a 3 = a + 2 := by rw [(oZE (σ := σ1) (k := a + 55 + 9 * (i)) a (by omega)).2.2.1]; exact hLP.2.2.2.2.2.1.1
      have h4 := sh6_3 hW hk2
      have h4 := (congrArg (gK _) e3).symm.trans h4
      refine lv_dup C.1.1 C.1.2.1 dX6_init_175 rfl ?_
      refine lv_aload_n C.1.1 C.1.2.1 dX6_init_176 rfl (lv_at hl 0 rfl) ?_
      refine gf6_3 C2 hW hk2 w_408 dX6_init_177 ?_
      refine W.eq (g2 := F0 m 180 ls (.ref (gB G + (a + 2)) :: .ref (gB G + (a + 55 + 9 * (i))) :: .ref (gB G + (a + 55 + 9 * (i))) :: .int (nI i) :: .ref (gB G + (a + 51)) :: [])) (by rw [← e3]; rfl) ?_
      refine cMx C (hS.tr (gS.push _ 9)) hW (nX2_init (a := a + 55 + 9 * (i)) (a1 := a + 2) (b := gB G) rfl rfl hr9 hE9 h4 (by omega)) kiX2_init (Or.inl w_293) ⟨(Nat.le_of_ble_eq_true rfl), (Nat.le_of_ble_eq_true rfl)⟩ ⟨by show _ ≤ 441; omega, by show _ ≤ 7911; omega⟩ rfl hl.1 (rest := [.ref _, .int _, .ref _]) rfl (Nat.le_of_ble_eq_true rfl) dX6_init_180 (fun G3 σ3 H locs g3 hP3 hW => ?_)
      obtain ⟨hLP3, hk3⟩ := hLP.ring g3 hP3.1
      have g33 := g3
      obtain ⟨N8, kd8, rfl⟩ := g3
      have C3 := g33.Cx C
      refine wsQ C3 hW (k := a + 51) (n := 40) (v := a + 55 + 9 * (i)) hLP3.2.2.2.2.1.2.1 hk3 (by omega) (vin_p (vin_nI (by omega) (by omega))) dX6_init_183 (fun H locs hW => ?_)
      rw [nI_clamp (by omega)] at hW
      refine lv_iinc (v := nI (i + 1)) (lv' := [(1, .int _), (0, .ref _)]) C.1.1 C.1.2.1 dX6_init_184 hl (k := 1) rfl (ii2 i) (by decide) rfl (fun ls hl => ?_)
      refine lv_goto (tgt := 161) C.1.1 C.1.2.1 dX6_init_187 (by decide) ?_
      rw [show 54 + 9 * i + 1 + 8 = 54 + 9 * (i + 1) by omega, show 4471 + 80 * i + 20 + 60 = 4471 + 80 * (i + 1) by omega]
      have hLP4 := hLP3.s51
      exact ih (i + 1) (by omega) _ _ _ _ _ hLP4 hW (lv_sub hl [1, 0] rfl) K
  have L2 : ∀ (k i : Nat), i + k = 3 → ∀ (G1 : Gm) (σ1 : Sg) (H : Heap) (locs : List Loc) (ls : Array Slot), LPc a (40 + i) 40 (i) G σ G1 σ1 → Ws G1 σ1 s.heap H locs → lv_has ls 2 [(0, .ref (gB G + a)), (1, .int (nI i))] → (∀ (G1 : Gm) (σ1 : Sg) (H : Heap) (locs : List Loc) (ls : Array Slot), LPc a (40 + 3) 40 (3) G σ G1 σ1 → Ws G1 σ1 s.heap H locs → lv_has ls 2 [(0, .ref (gB G + a))] → W p l e { frames := 5, cells := 441, slots := 7911, locals := 106 } s m args below meth c H locs (414 + 9 * 3) (7671 + 80 * 3) Q (F0 m 220 ls [])) → W p l e { frames := 5, cells := 441, slots := 7911, locals := 106 } s m args below meth c H locs (414 + 9 * i) (7671 + 80 * i) Q (F0 m 192 ls []) := by
    intro k
    induction k with
    | zero =>
      intro i hi G1 σ1 H locs ls hLP hW hl K
      have hi : i = 3 := by omega
      subst hi
      refine lv_iload_n C.1.1 C.1.2.1 dX6_init_192 rfl (lv_at hl 1 rfl) ?_
      refine lv_iconst (v := 3) C.1.1 C.1.2.1 dX6_init_193 (by decide) ?_
      refine lv_icmp_ge (tgt := 220) C.1.1 C.1.2.1 dX6_init_194 (by decide) (fun h9 => ?_) (fun h9 => absurd (show (3 : Int32) ≤ nI 3 by decide) h9)
      exact K _ _ _ _ _ hLP hW (lv_sub hl [0] rfl)
    | succ k ih =>
      intro i hi G1 σ1 H locs ls hLP hW hl K
      refine lv_iload_n C.1.1 C.1.2.1 dX6_init_192 rfl (lv_at hl 1 rfl) ?_
      refine lv_iconst (v := 3) C.1.1 C.1.2.1 dX6_init_193 (by decide) ?_
      refine lv_icmp_ge (tgt := 220) C.1.1 C.1.2.1 dX6_init_194 (by decide) (fun h9 => absurd h9 (show ¬ (3 : Int32) ≤ nI i from le_nI (a := 3) (by omega) (by omega) (by omega))) (fun h9 => ?_)
      have hLP0 := hLP
      have hS := hLP.1
      obtain ⟨N9, kd9, rfl⟩ := hS
      have hS := hLP0.1
      have C1 := hS.Cx C
      have hN9 : N9 = a + 55 + 9 * (40 + i) := hLP.2.1
      subst hN9
      have hk1 := hLP.2.2.2.2.1.1
      refine lv_aload_n C.1.1 C.1.2.1 dX6_init_197 rfl (lv_at hl 0 rfl) ?_
      refine gf6_12 C1 hW hk1 w_417 dX6_init_198 ?_
      refine lv_iload_n C.1.1 C.1.2.1 dX6_init_201 rfl (lv_at hl 1 rfl) ?_
      refine wnew C1 hW tbX2 tyX2 tyX2_ok (ci := 2) rfl w_291 w_292 w_114 (fs := [.null, .int 0, .int 0, .int 0, .int 0, .int 0, .int 0, .int 0, .int 0, .int 0, .int 0, .int 0, .null, .null, .null, .null, .null, .null, .null, .null]) df2 (by show _ ≤ 441; omega) (by show _ ≤ 7911; omega) dX6_init_202 (fun H hW => ?_)
      have C2 := (gS.push _ 9).Cx C1
      have hk2 := gpw hW (x := a) (show a ≠ a + 55 + 9 * (40 + i) by omega) hk1
      have hr9 := gpk9 hW
      have hE9 := zEk9 hW
      have e3 : (zE σ1 (a + 55 + 9 * (40 + i)) (.inr (2, [.null, .int 0, .int 0, .int 0, .int 0, .int 0, .int 0, .int 0, .int 0, .int 0, .int 0, .int 0, .null, .null, .null, .null, .null, .null, .null, .null]))).2.2.1 a 3 = a + 2 := by rw [(oZE (σ := σ1) (k := a + 55 + 9 * (40 + i)) a (by omega)).2.2.1]; exact hLP.2.2.2.2.2.1.1
      have h4 := sh6_3 hW hk2
      have h4 := (congrArg (gK _) e3).symm.trans h4
      refine lv_dup C.1.1 C.1.2.1 dX6_init_205 rfl ?_
      refine lv_aload_n C.1.1 C.1.2.1 dX6_init_206 rfl (lv_at hl 0 rfl) ?_
      refine gf6_3 C2 hW hk2 w_408 dX6_init_207 ?_
      refine W.eq (g2 := F0 m 210 ls (.ref (gB G + (a + 2)) :: .ref (gB G + (a + 55 + 9 * (40 + i))) :: .ref (gB G + (a + 55 + 9 * (40 + i))) :: .int (nI i) :: .ref (gB G + (a + 52)) :: [])) (by rw [← e3]; rfl) ?_
      refine cMx C (hS.tr (gS.push _ 9)) hW (nX2_init (a := a + 55 + 9 * (40 + i)) (a1 := a + 2) (b := gB G) rfl rfl hr9 hE9 h4 (by omega)) kiX2_init (Or.inl w_293) ⟨(Nat.le_of_ble_eq_true rfl), (Nat.le_of_ble_eq_true rfl)⟩ ⟨by show _ ≤ 441; omega, by show _ ≤ 7911; omega⟩ rfl hl.1 (rest := [.ref _, .int _, .ref _]) rfl (Nat.le_of_ble_eq_true rfl) dX6_init_210 (fun G3 σ3 H locs g3 hP3 hW => ?_)
      obtain ⟨hLP3, hk3⟩ := hLP.ring g3 hP3.1
      have g33 := g3
      obtain ⟨N8, kd8, rfl⟩ := g3
      have C3 := g33.Cx C
      refine wsQ C3 hW (k := a + 52) (n := 3) (v := a + 55 + 9 * (40 + i)) hLP3.2.2.2.2.1.2.2 hk3 (by omega) (vin_p (vin_nI (by omega) (by omega))) dX6_init_213 (fun H locs hW => ?_)
      rw [nI_clamp (by omega)] at hW
      refine lv_iinc (v := nI (i + 1)) (lv' := [(1, .int _), (0, .ref _)]) C.1.1 C.1.2.1 dX6_init_214 hl (k := 1) rfl (ii2 i) (by decide) rfl (fun ls hl => ?_)
      refine lv_goto (tgt := 192) C.1.1 C.1.2.1 dX6_init_217 (by decide) ?_
      rw [show 414 + 9 * i + 1 + 8 = 414 + 9 * (i + 1) by omega, show 7671 + 80 * i + 20 + 60 = 7671 + 80 * (i + 1) by omega]
      have hLP4 := hLP3.s52
      rw [show a + 415 + 9 * i = a + 55 + 9 * (40 + i) by omega] at hLP4
      exact ih (i + 1) (by omega) _ _ _ _ _ hLP4 hW (lv_sub hl [1, 0] rfl) K
  refine lv_iconst (v := 0) C.1.1 C.1.2.1 dX6_init_159 (by decide) ?_
  refine lv_istore_n (lv' := [(1, .int _), (0, .ref _)]) C.1.1 C.1.2.1 dX6_init_160 rfl hl (by decide) rfl (fun ls hl => ?_)
  refine L1 40 0 rfl _ _ _ _ _ hLP hW (lv_sub hl [1, 0] rfl) (fun G1 σ1 H locs ls hLP hW hl => ?_)
  refine lv_iconst (v := 0) C.1.1 C.1.2.1 dX6_init_190 (by decide) ?_
  refine lv_istore_n (lv' := [(1, .int _), (0, .ref _)]) C.1.1 C.1.2.1 dX6_init_191 rfl hl (by decide) rfl (fun ls hl => ?_)
  refine L2 3 0 rfl _ _ _ _ _ hLP hW (lv_sub hl [1, 0] rfl) (fun G1 σ1 H locs ls hLP hW hl => ?_)
  exact rx hQ C hr hlk hLP.1 hLP hW dX6_init_220
