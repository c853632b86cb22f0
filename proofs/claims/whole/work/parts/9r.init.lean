theorem LC.e {L k : Nat} {bs : Br} {f : Rp} {σ τ : Sg} (h : LC σ L k bs f) (e : ∀ x, L ≤ x → x ≤ L + 2 → τ.1 x = σ.1 x) : LC τ L k bs f := by
  obtain ⟨w, p, size, h1, h2, h3, h4, h5⟩ := h
  refine ⟨w, p, size, ?_, h2, ?_, ?_, h5⟩
  · rw [e (L + 2) (by omega) (by omega)]; exact h1
  · rw [e L (by omega) (by omega)]; exact h3
  · rw [e (L + 1) (by omega) (by omega)]; exact h4
theorem PBx.fs {a n : Nat} {KK : Nat → Nat} {G G' : Gm} {σ σ' τ : Sg} {S : Nat → Nat → Prop} (h : PBx a n KK G σ G' σ') (hF : Fs S σ' τ) (hS : ∀ x j, S x j → a ≤ x) : PBx a n KK G σ G' τ := by
  obtain ⟨h1, h2, h3, h4⟩ := h
  refine ⟨h1, h2, h3, fun x hx => ?_⟩
  obtain ⟨q1, q2, q3, q4⟩ := h4 x hx
  exact ⟨(funext fun j => hF.1 x j (fun z => by have := hS x j z; omega)).trans q1, by rw [hF.2]; exact q2, by rw [hF.2]; exact q3, by rw [hF.2]; exact q4⟩
def KX0 : Nat → Nat := fun i => [1, kA 1 408, kA 1 4, kA 1 9, kA 1 24].getD i 0
def KX3 : Nat → Nat := fun i => [4, kA 2 8, kA 1 8, kA 1 8, kA 1 8, kA 1 6, kA 1 6, 1, kA 1 408, kA 1 4, kA 1 9, kA 1 24].getD i 0
def KX4 : Nat → Nat := fun i => [5, kA 1 402, kA 1 402, kA 2 402].getD i 0
def KX1 : Nat → Nat := fun i => [2, 5, kA 1 402, kA 1 402, kA 2 402].getD i 0
def KX2 : Nat → Nat := fun i => [3, kA 1 8, kA 1 8, kA 1 8, kA 1 8, kA 1 8, kA 1 8, kA 1 6, kA 1 6].getD i 0
def KX5 : Nat → Nat := fun i => [6, kA 1 8].getD i 0
set_option maxRecDepth 100000 in
set_option maxHeartbeats 4000000 in
theorem nX0_init {l : Launch} {G : Gm} {a b : Nat} {σ : Sg} (hb : gB G = b) (hN : gN G = a + 1) (hk : gK G a = 9) (hE : σ.2.2.2 a = .inr (0, [.null, .int 0, .null, .null, .null])) : Mx l G yX0_init cX0_init 1 3 66 4 445 [.ref (b + a)] σ (fun G' σ' => PBx a 5 KX0 G σ G' σ' ∧ (∀ k, k < 4 → LC σ' a k [] (dfl k))) := by
  subst hb
  unfold Mx
  refine of_Wn "RightKeys$Laws" rfl (by decide) (Nat.le_of_ble_eq_true rfl) ?_
  intro p e s m args below meth c Q hQ C hr hlk hin2 hW ls hl
  have hl : lv_has ls 1 [(0, .ref (gB G + a))] := hl
  have hI : IV a 0 [.null, .int 0, .null, .null, .null] KX0 1 G σ G σ := IV.en hN hk hE
  refine lv_aload_n C.1.1 C.1.2.1 dX0_init_0 rfl (lv_at hl 0 rfl) ?_
  refine W.objInit C.1.1 C.1.2.1 C.1.2.2.2.1 (C.w w_144) (C.w w_131) (C.w w_132) rfl (hl.1.trans C.1.2.2.1.symm) rfl dX0_init_1 (Nat.le_of_ble_eq_true rfl) (Nat.le_of_ble_eq_true rfl) ?_
  refine W.eq (g2 := F0 m 4 ls []) rfl ?_
  refine lv_aload_n C.1.1 C.1.2.1 dX0_init_4 rfl (lv_at hl 0 rfl) ?_
  refine lv_sipush (v := 408) C.1.1 C.1.2.1 dX0_init_5 (by decide) ?_
  refine xnI C hW hI w_178 (N := 408) (by decide) (by decide) (Nat.le_of_ble_eq_true rfl) (Nat.le_of_ble_eq_true rfl) (Nat.le_of_ble_eq_true rfl) rfl dX0_init_8 (fun Gx σx H hI hA hz hW => ?_)
  refine xpF C hW hI hin2 tbX0 tyX0 tyX0_ok nmX0 rfl 0 (by decide) w_157 rfl rfl (ty := .array .int) (by decide +kernel) rfl rfl (fs' := [.ref (gB G + (a + 1)), .int 0, .null, .null, .null]) rfl (Nat.le_of_ble_eq_true rfl) dX0_init_10 (fun σx H locs hI hA hW => ?_)
  refine lv_aload_n C.1.1 C.1.2.1 dX0_init_13 rfl (lv_at hl 0 rfl) ?_
  refine lv_iconst (v := 0) C.1.1 C.1.2.1 dX0_init_14 (by decide) ?_
  refine xpR C hW hI tbX0 tyX0 tyX0_ok nmX0 rfl 1 (by decide) w_158 rfl (ty := .int) (by decide +kernel) rfl rfl (fs' := [.ref (gB G + (a + 1)), .int 0, .null, .null, .null]) rfl (Nat.le_of_ble_eq_true rfl) dX0_init_15 (fun σx H locs hI hA hW => ?_)
  refine lv_aload_n C.1.1 C.1.2.1 dX0_init_18 rfl (lv_at hl 0 rfl) ?_
  refine lv_iconst (v := 4) C.1.1 C.1.2.1 dX0_init_19 (by decide) ?_
  refine xnI C hW hI w_178 (N := 4) (by decide) (by decide) (Nat.le_of_ble_eq_true rfl) (Nat.le_of_ble_eq_true rfl) (Nat.le_of_ble_eq_true rfl) rfl dX0_init_20 (fun Gx σx H hI hA hz hW => ?_)
  refine xpF C hW hI hin2 tbX0 tyX0 tyX0_ok nmX0 rfl 2 (by decide) w_160 rfl rfl (ty := .array .int) (by decide +kernel) rfl rfl (fs' := [.ref (gB G + (a + 1)), .int 0, .ref (gB G + (a + 2)), .null, .null]) rfl (Nat.le_of_ble_eq_true rfl) dX0_init_22 (fun σx H locs hI hA hW => ?_)
  refine lv_aload_n C.1.1 C.1.2.1 dX0_init_25 rfl (lv_at hl 0 rfl) ?_
  refine lv_bipush (v := 9) C.1.1 C.1.2.1 dX0_init_26 (by decide) ?_
  refine xnI C hW hI w_178 (N := 9) (by decide) (by decide) (Nat.le_of_ble_eq_true rfl) (Nat.le_of_ble_eq_true rfl) (Nat.le_of_ble_eq_true rfl) rfl dX0_init_28 (fun Gx σx H hI hA hz hW => ?_)
  refine xpF C hW hI hin2 tbX0 tyX0 tyX0_ok nmX0 rfl 3 (by decide) w_162 rfl rfl (ty := .array .int) (by decide +kernel) rfl rfl (fs' := [.ref (gB G + (a + 1)), .int 0, .ref (gB G + (a + 2)), .ref (gB G + (a + 3)), .null]) rfl (Nat.le_of_ble_eq_true rfl) dX0_init_30 (fun σx H locs hI hA hW => ?_)
  refine lv_aload_n C.1.1 C.1.2.1 dX0_init_33 rfl (lv_at hl 0 rfl) ?_
  refine lv_bipush (v := 24) C.1.1 C.1.2.1 dX0_init_34 (by decide) ?_
  refine xnI C hW hI w_178 (N := 24) (by decide) (by decide) (Nat.le_of_ble_eq_true rfl) (Nat.le_of_ble_eq_true rfl) (Nat.le_of_ble_eq_true rfl) rfl dX0_init_36 (fun Gx σx H hI hA hz hW => ?_)
  refine xpF C hW hI hin2 tbX0 tyX0 tyX0_ok nmX0 rfl 4 (by decide) w_164 rfl rfl (ty := .array .int) (by decide +kernel) rfl rfl (fs' := [.ref (gB G + (a + 1)), .int 0, .ref (gB G + (a + 2)), .ref (gB G + (a + 3)), .ref (gB G + (a + 4))]) rfl (Nat.le_of_ble_eq_true rfl) dX0_init_38 (fun σx H locs hI hA hW => ?_)
  obtain ⟨hW, hG, hPB⟩ := hI.kind hW (σ' := wR σx a (fun _ => 0)) (by rw [hI.1.B]; show clE _ _ _ a 1 = _; simp [clE, obE, wT, wR, va_up]) (fun x hx => by simp [wT, wR, va_up, hx]) (sh_kind hW.1.2.2.2 hI.2.2.2.1 ⟨by decide, by decide⟩ (fun x hx => by simp [wT, wR, va_up, hx]) (fun _ => ⟨(hI.2.2.2.2.2.2.1 1 (by decide) (by decide)), (hI.2.2.2.2.2.2.1 2 (by decide) (by decide)), (hI.2.2.2.2.2.2.1 3 (by decide) (by decide)), (hI.2.2.2.2.2.2.1 4 (by decide) (by decide))⟩) (fun h => absurd h (by decide)) (fun h => absurd h (by decide)) (fun h => absurd h (by decide)) (fun h => absurd h (by decide)) (fun h => absurd h (by decide)) (fun h => absurd h (by decide)) (fun h => absurd h (by decide))) rfl
  have hk9 : gK (gKind Gx a (0 + 1)) a = 1 := hPB.2.2.1 0 (by decide)
  generalize gKind Gx a (0 + 1) = Gy at hW hG hPB hk9
  have hG2 := hG
  obtain ⟨N9, kd9, rfl⟩ := hG
  have C2 := hG2.Cx C
  obtain ⟨τ, c1, c2, c3⟩ := clear0_v (a := a) (σ := wR σx a (fun _ => 0))
  refine lv_aload_n C.1.1 C.1.2.1 dX0_init_41 rfl (lv_at hl 0 rfl) ?_
  refine cVv C2 hW (mX0_clear hk9 c1) hk9 kvX0_clear w_145 ⟨(Nat.le_of_ble_eq_true rfl), (Nat.le_of_ble_eq_true rfl)⟩ ⟨(Nat.le_of_ble_eq_true rfl), (Nat.le_of_ble_eq_true rfl)⟩ rfl hl.1 (rest := []) rfl (Nat.le_of_ble_eq_true rfl) dX0_init_42 (fun H locs hW => ?_)
  exact rx hQ C hr hlk hG2 ⟨hPB.fs c2 (fun x j q => by omega), c3⟩ hW dX0_init_45
set_option maxRecDepth 100000 in
set_option maxHeartbeats 4000000 in
theorem nX3_init {l : Launch} {G : Gm} {a b : Nat} {σ : Sg} (hb : gB G = b) (hN : gN G = a + 1) (hk : gK G a = 9) (hE : σ.2.2.2 a = .inr (3, [.int 0, .int 0, .int 0, .int 0, .null, .null, .null, .null, .null, .null, .null])) : Mx l G yX3_init cX3_init 1 4 86 11 494 [.ref (b + a)] σ (fun G' σ' => PBx a 12 KX3 G σ G' σ' ∧ ((∀ j, σ'.1 a j = 0) ∧ ∀ k, k < 4 → LC σ' (a + 7) k [] (dfl k))) := by
  subst hb
  unfold Mx
  refine of_Wn "RightKeys$Text" rfl (by decide) (Nat.le_of_ble_eq_true rfl) ?_
  intro p e s m args below meth c Q hQ C hr hlk hin2 hW ls hl
  have hl : lv_has ls 1 [(0, .ref (gB G + a))] := hl
  have hI : IV a 3 [.int 0, .int 0, .int 0, .int 0, .null, .null, .null, .null, .null, .null, .null] KX3 1 G σ G σ := IV.en hN hk hE
  refine lv_aload_n C.1.1 C.1.2.1 dX3_init_0 rfl (lv_at hl 0 rfl) ?_
  refine W.objInit C.1.1 C.1.2.1 C.1.2.2.2.1 (C.w w_138) (C.w w_131) (C.w w_132) rfl (hl.1.trans C.1.2.2.1.symm) rfl dX3_init_1 (Nat.le_of_ble_eq_true rfl) (Nat.le_of_ble_eq_true rfl) ?_
  refine W.eq (g2 := F0 m 4 ls []) rfl ?_
  refine lv_aload_n C.1.1 C.1.2.1 dX3_init_4 rfl (lv_at hl 0 rfl) ?_
  refine lv_iconst (v := 0) C.1.1 C.1.2.1 dX3_init_5 (by decide) ?_
  refine xpR C hW hI tbX3 tyX3 tyX3_ok nmX3 rfl 0 (by decide) w_179 rfl (ty := .int) (by decide +kernel) rfl rfl (fs' := [.int 0, .int 0, .int 0, .int 0, .null, .null, .null, .null, .null, .null, .null]) rfl (Nat.le_of_ble_eq_true rfl) dX3_init_6 (fun σx H locs hI hA hW => ?_)
  refine lv_aload_n C.1.1 C.1.2.1 dX3_init_9 rfl (lv_at hl 0 rfl) ?_
  refine lv_iconst (v := 0) C.1.1 C.1.2.1 dX3_init_10 (by decide) ?_
  refine xpR C hW hI tbX3 tyX3 tyX3_ok nmX3 rfl 1 (by decide) w_183 rfl (ty := .int) (by decide +kernel) rfl rfl (fs' := [.int 0, .int 0, .int 0, .int 0, .null, .null, .null, .null, .null, .null, .null]) rfl (Nat.le_of_ble_eq_true rfl) dX3_init_11 (fun σx H locs hI hA hW => ?_)
  refine lv_aload_n C.1.1 C.1.2.1 dX3_init_14 rfl (lv_at hl 0 rfl) ?_
  refine lv_iconst (v := 0) C.1.1 C.1.2.1 dX3_init_15 (by decide) ?_
  refine xpR C hW hI tbX3 tyX3 tyX3_ok nmX3 rfl 2 (by decide) w_187 rfl (ty := .int) (by decide +kernel) rfl rfl (fs' := [.int 0, .int 0, .int 0, .int 0, .null, .null, .null, .null, .null, .null, .null]) rfl (Nat.le_of_ble_eq_true rfl) dX3_init_16 (fun σx H locs hI hA hW => ?_)
  refine lv_aload_n C.1.1 C.1.2.1 dX3_init_19 rfl (lv_at hl 0 rfl) ?_
  refine lv_iconst (v := 0) C.1.1 C.1.2.1 dX3_init_20 (by decide) ?_
  refine xpR C hW hI tbX3 tyX3 tyX3_ok nmX3 rfl 3 (by decide) w_191 rfl (ty := .int) (by decide +kernel) rfl rfl (fs' := [.int 0, .int 0, .int 0, .int 0, .null, .null, .null, .null, .null, .null, .null]) rfl (Nat.le_of_ble_eq_true rfl) dX3_init_21 (fun σx H locs hI hA hW => ?_)
  refine lv_aload_n C.1.1 C.1.2.1 dX3_init_24 rfl (lv_at hl 0 rfl) ?_
  refine lv_bipush (v := 8) C.1.1 C.1.2.1 dX3_init_25 (by decide) ?_
  refine xnJ C hW hI w_177 (N := 8) (by decide) (by decide) (Nat.le_of_ble_eq_true rfl) (Nat.le_of_ble_eq_true rfl) (Nat.le_of_ble_eq_true rfl) rfl dX3_init_27 (fun Gx σx H hI hA hz hW => ?_)
  refine xpF C hW hI hin2 tbX3 tyX3 tyX3_ok nmX3 rfl 4 (by decide) w_195 rfl rfl (ty := .array .long) (by decide +kernel) rfl rfl (fs' := [.int 0, .int 0, .int 0, .int 0, .ref (gB G + (a + 1)), .null, .null, .null, .null, .null, .null]) rfl (Nat.le_of_ble_eq_true rfl) dX3_init_29 (fun σx H locs hI hA hW => ?_)
  refine lv_aload_n C.1.1 C.1.2.1 dX3_init_32 rfl (lv_at hl 0 rfl) ?_
  refine lv_bipush (v := 8) C.1.1 C.1.2.1 dX3_init_33 (by decide) ?_
  refine xnI C hW hI w_178 (N := 8) (by decide) (by decide) (Nat.le_of_ble_eq_true rfl) (Nat.le_of_ble_eq_true rfl) (Nat.le_of_ble_eq_true rfl) rfl dX3_init_35 (fun Gx σx H hI hA hz hW => ?_)
  refine xpF C hW hI hin2 tbX3 tyX3 tyX3_ok nmX3 rfl 5 (by decide) w_197 rfl rfl (ty := .array .int) (by decide +kernel) rfl rfl (fs' := [.int 0, .int 0, .int 0, .int 0, .ref (gB G + (a + 1)), .ref (gB G + (a + 2)), .null, .null, .null, .null, .null]) rfl (Nat.le_of_ble_eq_true rfl) dX3_init_37 (fun σx H locs hI hA hW => ?_)
  refine lv_aload_n C.1.1 C.1.2.1 dX3_init_40 rfl (lv_at hl 0 rfl) ?_
  refine lv_bipush (v := 8) C.1.1 C.1.2.1 dX3_init_41 (by decide) ?_
  refine xnI C hW hI w_178 (N := 8) (by decide) (by decide) (Nat.le_of_ble_eq_true rfl) (Nat.le_of_ble_eq_true rfl) (Nat.le_of_ble_eq_true rfl) rfl dX3_init_43 (fun Gx σx H hI hA hz hW => ?_)
  refine xpF C hW hI hin2 tbX3 tyX3 tyX3_ok nmX3 rfl 6 (by decide) w_200 rfl rfl (ty := .array .int) (by decide +kernel) rfl rfl (fs' := [.int 0, .int 0, .int 0, .int 0, .ref (gB G + (a + 1)), .ref (gB G + (a + 2)), .ref (gB G + (a + 3)), .null, .null, .null, .null]) rfl (Nat.le_of_ble_eq_true rfl) dX3_init_45 (fun σx H locs hI hA hW => ?_)
  refine lv_aload_n C.1.1 C.1.2.1 dX3_init_48 rfl (lv_at hl 0 rfl) ?_
  refine lv_bipush (v := 8) C.1.1 C.1.2.1 dX3_init_49 (by decide) ?_
  refine xnI C hW hI w_178 (N := 8) (by decide) (by decide) (Nat.le_of_ble_eq_true rfl) (Nat.le_of_ble_eq_true rfl) (Nat.le_of_ble_eq_true rfl) rfl dX3_init_51 (fun Gx σx H hI hA hz hW => ?_)
  refine xpF C hW hI hin2 tbX3 tyX3 tyX3_ok nmX3 rfl 7 (by decide) w_203 rfl rfl (ty := .array .int) (by decide +kernel) rfl rfl (fs' := [.int 0, .int 0, .int 0, .int 0, .ref (gB G + (a + 1)), .ref (gB G + (a + 2)), .ref (gB G + (a + 3)), .ref (gB G + (a + 4)), .null, .null, .null]) rfl (Nat.le_of_ble_eq_true rfl) dX3_init_53 (fun σx H locs hI hA hW => ?_)
  refine lv_aload_n C.1.1 C.1.2.1 dX3_init_56 rfl (lv_at hl 0 rfl) ?_
  refine lv_bipush (v := 6) C.1.1 C.1.2.1 dX3_init_57 (by decide) ?_
  refine xnI C hW hI w_178 (N := 6) (by decide) (by decide) (Nat.le_of_ble_eq_true rfl) (Nat.le_of_ble_eq_true rfl) (Nat.le_of_ble_eq_true rfl) rfl dX3_init_59 (fun Gx σx H hI hA hz hW => ?_)
  refine xpF C hW hI hin2 tbX3 tyX3 tyX3_ok nmX3 rfl 8 (by decide) w_206 rfl rfl (ty := .array .int) (by decide +kernel) rfl rfl (fs' := [.int 0, .int 0, .int 0, .int 0, .ref (gB G + (a + 1)), .ref (gB G + (a + 2)), .ref (gB G + (a + 3)), .ref (gB G + (a + 4)), .ref (gB G + (a + 5)), .null, .null]) rfl (Nat.le_of_ble_eq_true rfl) dX3_init_61 (fun σx H locs hI hA hW => ?_)
  refine lv_aload_n C.1.1 C.1.2.1 dX3_init_64 rfl (lv_at hl 0 rfl) ?_
  refine lv_bipush (v := 6) C.1.1 C.1.2.1 dX3_init_65 (by decide) ?_
  refine xnI C hW hI w_178 (N := 6) (by decide) (by decide) (Nat.le_of_ble_eq_true rfl) (Nat.le_of_ble_eq_true rfl) (Nat.le_of_ble_eq_true rfl) rfl dX3_init_67 (fun Gx σx H hI hA hz hW => ?_)
  refine xpF C hW hI hin2 tbX3 tyX3 tyX3_ok nmX3 rfl 9 (by decide) w_210 rfl rfl (ty := .array .int) (by decide +kernel) rfl rfl (fs' := [.int 0, .int 0, .int 0, .int 0, .ref (gB G + (a + 1)), .ref (gB G + (a + 2)), .ref (gB G + (a + 3)), .ref (gB G + (a + 4)), .ref (gB G + (a + 5)), .ref (gB G + (a + 6)), .null]) rfl (Nat.le_of_ble_eq_true rfl) dX3_init_69 (fun σx H locs hI hA hW => ?_)
  refine lv_aload_n C.1.1 C.1.2.1 dX3_init_72 rfl (lv_at hl 0 rfl) ?_
  refine xnew C hW hI tbX0 tyX0 tyX0_ok (ci2 := 0) rfl w_139 w_140 w_111 (fs2 := [.null, .int 0, .null, .null, .null]) df0 (Nat.le_of_ble_eq_true rfl) (Nat.le_of_ble_eq_true rfl) dX3_init_73 (fun Gx σx H hI hA hW => ?_)
  refine lv_dup C.1.1 C.1.2.1 dX3_init_76 rfl ?_
  refine xcI C hW hI (cnt := 5) (KK2 := KX0) (nX0_init hI.1.B hI.2.1 hI.2.2.2.2.2.2.2.2.1 hI.2.2.2.2.2.2.2.2.2) (fun i hi => (by decide : ∀ i : Fin 5, KX0 i.1 = KX3 (7 + i.1)) ⟨i, hi⟩) kiX0_init (Or.inl w_141) ⟨(Nat.le_of_ble_eq_true rfl), (Nat.le_of_ble_eq_true rfl)⟩ ⟨(Nat.le_of_ble_eq_true rfl), (Nat.le_of_ble_eq_true rfl)⟩ rfl hl.1 (rest := [.ref _, .ref _]) rfl (Nat.le_of_ble_eq_true rfl) dX3_init_77 (fun Gx σx H locs hI hA hP hW => ?_)
  refine xpF C hW hI hin2 tbX3 tyX3 tyX3_ok nmX3 rfl 10 (by decide) w_213 rfl rfl (ty := .object "RightKeys$Laws") (by decide +kernel) rfl rfl (fs' := [.int 0, .int 0, .int 0, .int 0, .ref (gB G + (a + 1)), .ref (gB G + (a + 2)), .ref (gB G + (a + 3)), .ref (gB G + (a + 4)), .ref (gB G + (a + 5)), .ref (gB G + (a + 6)), .ref (gB G + (a + 7))]) rfl (Nat.le_of_ble_eq_true rfl) dX3_init_80 (fun σx H locs hI hA hW => ?_)
  replace hP := fun k hk => LC.e (hP k hk) (fun x x1 x2 => (hA x (by omega)).1)
  obtain ⟨hW, hG, hPB⟩ := hI.kind hW (σ' := wR σx a (fun _ => 0)) (by rw [hI.1.B]; show clE _ _ _ a 4 = _; simp [clE, obE, wT, wR, va_up]) (fun x hx => by simp [wT, wR, va_up, hx]) (sh_kind hW.1.2.2.2 hI.2.2.2.1 ⟨by decide, by decide⟩ (fun x hx => by simp [wT, wR, va_up, hx]) (fun h => absurd h (by decide)) (fun h => absurd h (by decide)) (fun h => absurd h (by decide)) (fun _ => ⟨(hI.2.2.2.2.2.2.1 1 (by decide) (by decide)), (hI.2.2.2.2.2.2.1 2 (by decide) (by decide)), (hI.2.2.2.2.2.2.1 3 (by decide) (by decide)), (hI.2.2.2.2.2.2.1 4 (by decide) (by decide)), (hI.2.2.2.2.2.2.1 5 (by decide) (by decide)), (hI.2.2.2.2.2.2.1 6 (by decide) (by decide)), (hI.2.2.2.2.2.2.1 7 (by decide) (by decide))⟩) (fun h => absurd h (by decide)) (fun h => absurd h (by decide)) (fun h => absurd h (by decide)) (fun h => absurd h (by decide))) rfl
  refine rx hQ C hr hlk hG ⟨hPB, fun j => by simp [wR, va_up], fun k hk => LC.e (hP k hk) (fun x x1 x2 => by rw [wR_n (by omega)])⟩ hW dX3_init_83
set_option maxRecDepth 100000 in
set_option maxHeartbeats 4000000 in
theorem nX4_init {l : Launch} {G : Gm} {a b : Nat} {σ : Sg} (hb : gB G = b) (hN : gN G = a + 1) (hk : gK G a = 9) (hE : σ.2.2.2 a = .inr (4, [.null, .null, .null, .int 0])) : Mx l G yX4_init cX4_init 1 1 40 3 1206 [.ref (b + a)] σ (fun G' σ' => PBx a 4 KX4 G σ G' σ' ∧ (True)) := by
  subst hb
  unfold Mx
  refine of_Wn "RightKeys$Tokens" rfl (by decide) (Nat.le_of_ble_eq_true rfl) ?_
  intro p e s m args below meth c Q hQ C hr hlk hin2 hW ls hl
  have hl : lv_has ls 1 [(0, .ref (gB G + a))] := hl
  have hI : IV a 4 [.null, .null, .null, .int 0] KX4 1 G σ G σ := IV.en hN hk hE
  refine lv_aload_n C.1.1 C.1.2.1 dX4_init_0 rfl (lv_at hl 0 rfl) ?_
  refine W.objInit C.1.1 C.1.2.1 C.1.2.2.2.1 (C.w w_250) (C.w w_131) (C.w w_132) rfl (hl.1.trans C.1.2.2.1.symm) rfl dX4_init_1 (Nat.le_of_ble_eq_true rfl) (Nat.le_of_ble_eq_true rfl) ?_
  refine W.eq (g2 := F0 m 4 ls []) rfl ?_
  refine lv_aload_n C.1.1 C.1.2.1 dX4_init_4 rfl (lv_at hl 0 rfl) ?_
  refine lv_sipush (v := 402) C.1.1 C.1.2.1 dX4_init_5 (by decide) ?_
  refine xnI C hW hI w_178 (N := 402) (by decide) (by decide) (Nat.le_of_ble_eq_true rfl) (Nat.le_of_ble_eq_true rfl) (Nat.le_of_ble_eq_true rfl) rfl dX4_init_8 (fun Gx σx H hI hA hz hW => ?_)
  refine xpF C hW hI hin2 tbX4 tyX4 tyX4_ok nmX4 rfl 0 (by decide) w_251 rfl rfl (ty := .array .int) (by decide +kernel) rfl rfl (fs' := [.ref (gB G + (a + 1)), .null, .null, .int 0]) rfl (Nat.le_of_ble_eq_true rfl) dX4_init_10 (fun σx H locs hI hA hW => ?_)
  refine lv_aload_n C.1.1 C.1.2.1 dX4_init_13 rfl (lv_at hl 0 rfl) ?_
  refine lv_sipush (v := 402) C.1.1 C.1.2.1 dX4_init_14 (by decide) ?_
  refine xnI C hW hI w_178 (N := 402) (by decide) (by decide) (Nat.le_of_ble_eq_true rfl) (Nat.le_of_ble_eq_true rfl) (Nat.le_of_ble_eq_true rfl) rfl dX4_init_17 (fun Gx σx H hI hA hz hW => ?_)
  refine xpF C hW hI hin2 tbX4 tyX4 tyX4_ok nmX4 rfl 1 (by decide) w_253 rfl rfl (ty := .array .int) (by decide +kernel) rfl rfl (fs' := [.ref (gB G + (a + 1)), .ref (gB G + (a + 2)), .null, .int 0]) rfl (Nat.le_of_ble_eq_true rfl) dX4_init_19 (fun σx H locs hI hA hW => ?_)
  refine lv_aload_n C.1.1 C.1.2.1 dX4_init_22 rfl (lv_at hl 0 rfl) ?_
  refine lv_sipush (v := 402) C.1.1 C.1.2.1 dX4_init_23 (by decide) ?_
  refine xnJ C hW hI w_177 (N := 402) (by decide) (by decide) (Nat.le_of_ble_eq_true rfl) (Nat.le_of_ble_eq_true rfl) (Nat.le_of_ble_eq_true rfl) rfl dX4_init_26 (fun Gx σx H hI hA hz hW => ?_)
  refine xpF C hW hI hin2 tbX4 tyX4 tyX4_ok nmX4 rfl 2 (by decide) w_255 rfl rfl (ty := .array .long) (by decide +kernel) rfl rfl (fs' := [.ref (gB G + (a + 1)), .ref (gB G + (a + 2)), .ref (gB G + (a + 3)), .int 0]) rfl (Nat.le_of_ble_eq_true rfl) dX4_init_28 (fun σx H locs hI hA hW => ?_)
  refine lv_aload_n C.1.1 C.1.2.1 dX4_init_31 rfl (lv_at hl 0 rfl) ?_
  refine lv_iconst (v := 0) C.1.1 C.1.2.1 dX4_init_32 (by decide) ?_
  refine xpR C hW hI tbX4 tyX4 tyX4_ok nmX4 rfl 3 (by decide) w_257 rfl (ty := .int) (by decide +kernel) rfl rfl (fs' := [.ref (gB G + (a + 1)), .ref (gB G + (a + 2)), .ref (gB G + (a + 3)), .int 0]) rfl (Nat.le_of_ble_eq_true rfl) dX4_init_33 (fun σx H locs hI hA hW => ?_)
  obtain ⟨hW, hG, hPB⟩ := hI.kind hW (σ' := wR σx a (fun _ => 0)) (by rw [hI.1.B]; show clE _ _ _ a 5 = _; simp [clE, obE, wT, wR, va_up]) (fun x hx => by simp [wT, wR, va_up, hx]) (sh_kind hW.1.2.2.2 hI.2.2.2.1 ⟨by decide, by decide⟩ (fun x hx => by simp [wT, wR, va_up, hx]) (fun h => absurd h (by decide)) (fun h => absurd h (by decide)) (fun h => absurd h (by decide)) (fun h => absurd h (by decide)) (fun _ => ⟨(hI.2.2.2.2.2.2.1 1 (by decide) (by decide)), (hI.2.2.2.2.2.2.1 2 (by decide) (by decide)), (hI.2.2.2.2.2.2.1 3 (by decide) (by decide))⟩) (fun h => absurd h (by decide)) (fun h => absurd h (by decide)) (fun h => absurd h (by decide))) rfl
  exact rx hQ C hr hlk hG ⟨hPB, trivial⟩ hW dX4_init_36
set_option maxRecDepth 100000 in
set_option maxHeartbeats 4000000 in
theorem nX1_init {l : Launch} {G : Gm} {a a1 b : Nat} {σ : Sg} (hb : gB G = b) (hN : gN G = a + 1) (hk : gK G a = 9) (hE : σ.2.2.2 a = .inr (1, [.null, .int 0, .null, .int 0, .int 0, .int 0, .int 0])) (h1 : gK G a1 = 4) (h1a : a1 < a) : Mx l G yX1_init cX1_init 2 2 60 4 1210 [.ref (b + a), .ref (b + a1)] σ (fun G' σ' => PBx a 5 KX1 G σ G' σ' ∧ (True)) := by
  subst hb
  unfold Mx
  refine of_Wn "RightKeys$Reader" rfl (by decide) (Nat.le_of_ble_eq_true rfl) ?_
  intro p e s m args below meth c Q hQ C hr hlk hin2 hW ls hl
  have hl : lv_has ls 2 [(0, .ref (gB G + a)), (1, .ref (gB G + a1))] := hl
  have hI : IV a 1 [.null, .int 0, .null, .int 0, .int 0, .int 0, .int 0] KX1 1 G σ G σ := IV.en hN hk hE
  refine lv_aload_n C.1.1 C.1.2.1 dX1_init_0 rfl (lv_at hl 0 rfl) ?_
  refine W.objInit C.1.1 C.1.2.1 C.1.2.2.2.1 (C.w w_244) (C.w w_131) (C.w w_132) rfl (hl.1.trans C.1.2.2.1.symm) rfl dX1_init_1 (Nat.le_of_ble_eq_true rfl) (Nat.le_of_ble_eq_true rfl) ?_
  refine W.eq (g2 := F0 m 4 ls []) rfl ?_
  refine lv_aload_n C.1.1 C.1.2.1 dX1_init_4 rfl (lv_at hl 0 rfl) ?_
  refine xnew C hW hI tbX4 tyX4 tyX4_ok (ci2 := 4) rfl w_245 w_246 w_113 (fs2 := [.null, .null, .null, .int 0]) df4 (Nat.le_of_ble_eq_true rfl) (Nat.le_of_ble_eq_true rfl) dX1_init_5 (fun Gx σx H hI hA hW => ?_)
  refine lv_dup C.1.1 C.1.2.1 dX1_init_8 rfl ?_
  refine xcI C hW hI (cnt := 4) (KK2 := KX4) (nX4_init hI.1.B hI.2.1 hI.2.2.2.2.2.2.2.2.1 hI.2.2.2.2.2.2.2.2.2) (fun i hi => (by decide : ∀ i : Fin 4, KX4 i.1 = KX1 (1 + i.1)) ⟨i, hi⟩) kiX4_init (Or.inr (by decide)) ⟨(Nat.le_of_ble_eq_true rfl), (Nat.le_of_ble_eq_true rfl)⟩ ⟨(Nat.le_of_ble_eq_true rfl), (Nat.le_of_ble_eq_true rfl)⟩ rfl hl.1 (rest := [.ref _, .ref _]) rfl (Nat.le_of_ble_eq_true rfl) dX1_init_9 (fun Gx σx H locs hI hA hP hW => ?_)
  refine xpF C hW hI hin2 tbX1 tyX1 tyX1_ok nmX1 rfl 0 (by decide) w_268 rfl rfl (ty := .object "RightKeys$Tokens") (by decide +kernel) rfl rfl (fs' := [.ref (gB G + (a + 1)), .int 0, .null, .int 0, .int 0, .int 0, .int 0]) rfl (Nat.le_of_ble_eq_true rfl) dX1_init_12 (fun σx H locs hI hA hW => ?_)
  refine lv_aload_n C.1.1 C.1.2.1 dX1_init_15 rfl (lv_at hl 0 rfl) ?_
  refine lv_iconst (v := 0) C.1.1 C.1.2.1 dX1_init_16 (by decide) ?_
  refine xpR C hW hI tbX1 tyX1 tyX1_ok nmX1 rfl 1 (by decide) w_269 rfl (ty := .int) (by decide +kernel) rfl rfl (fs' := [.ref (gB G + (a + 1)), .int 0, .null, .int 0, .int 0, .int 0, .int 0]) rfl (Nat.le_of_ble_eq_true rfl) dX1_init_17 (fun σx H locs hI hA hW => ?_)
  refine lv_aload_n C.1.1 C.1.2.1 dX1_init_20 rfl (lv_at hl 0 rfl) ?_
  refine lv_iconst (v := 0) C.1.1 C.1.2.1 dX1_init_21 (by decide) ?_
  refine xpR C hW hI tbX1 tyX1 tyX1_ok nmX1 rfl 3 (by decide) w_271 rfl (ty := .int) (by decide +kernel) rfl rfl (fs' := [.ref (gB G + (a + 1)), .int 0, .null, .int 0, .int 0, .int 0, .int 0]) rfl (Nat.le_of_ble_eq_true rfl) dX1_init_22 (fun σx H locs hI hA hW => ?_)
  refine lv_aload_n C.1.1 C.1.2.1 dX1_init_25 rfl (lv_at hl 0 rfl) ?_
  refine lv_iconst (v := (-1)) C.1.1 C.1.2.1 dX1_init_26 (by decide) ?_
  refine xpR C hW hI tbX1 tyX1 tyX1_ok nmX1 rfl 4 (by decide) w_272 rfl (ty := .int) (by decide +kernel) rfl rfl (fs' := [.ref (gB G + (a + 1)), .int 0, .null, .int 0, .int (-1), .int 0, .int 0]) rfl (Nat.le_of_ble_eq_true rfl) dX1_init_27 (fun σx H locs hI hA hW => ?_)
  refine lv_aload_n C.1.1 C.1.2.1 dX1_init_30 rfl (lv_at hl 0 rfl) ?_
  refine lv_iconst (v := 0) C.1.1 C.1.2.1 dX1_init_31 (by decide) ?_
  refine xpR C hW hI tbX1 tyX1 tyX1_ok nmX1 rfl 5 (by decide) w_274 rfl (ty := .int) (by decide +kernel) rfl rfl (fs' := [.ref (gB G + (a + 1)), .int 0, .null, .int 0, .int (-1), .int 0, .int 0]) rfl (Nat.le_of_ble_eq_true rfl) dX1_init_32 (fun σx H locs hI hA hW => ?_)
  refine lv_aload_n C.1.1 C.1.2.1 dX1_init_35 rfl (lv_at hl 0 rfl) ?_
  refine lv_iconst (v := (-1)) C.1.1 C.1.2.1 dX1_init_36 (by decide) ?_
  refine xpR C hW hI tbX1 tyX1 tyX1_ok nmX1 rfl 6 (by decide) w_275 rfl (ty := .int) (by decide +kernel) rfl rfl (fs' := [.ref (gB G + (a + 1)), .int 0, .null, .int 0, .int (-1), .int 0, .int (-1)]) rfl (Nat.le_of_ble_eq_true rfl) dX1_init_37 (fun σx H locs hI hA hW => ?_)
  refine lv_aload_n C.1.1 C.1.2.1 dX1_init_40 rfl (lv_at hl 0 rfl) ?_
  refine lv_aload_n C.1.1 C.1.2.1 dX1_init_41 rfl (lv_at hl 1 rfl) ?_
  refine xpR C hW hI tbX1 tyX1 tyX1_ok nmX1 rfl 2 (by decide) w_270 rfl (ty := .object "RightKeys$Text") (by decide +kernel) rfl rfl (fs' := [.ref (gB G + (a + 1)), .int 0, .ref (gB G + a1), .int 0, .int (-1), .int 0, .int (-1)]) rfl (Nat.le_of_ble_eq_true rfl) dX1_init_42 (fun σx H locs hI hA hW => ?_)
  have hrx : gK Gx ((wT (wR σx a (fun j => if j = 4 then (-1) else if j = 6 then (-1) else 0)) a 2 (a1)).2.2.1 a 2) = 4 := by
    have z : (wT (wR σx a (fun j => if j = 4 then (-1) else if j = 6 then (-1) else 0)) a 2 (a1)).2.2.1 a 2 = a1 := by simp [wT, va_up]
    rw [z, hI.2.2.2.2.2.1 a1 h1a]; exact h1
  obtain ⟨hW, hG, hPB⟩ := hI.kind hW (σ' := wT (wR σx a (fun j => if j = 4 then (-1) else if j = 6 then (-1) else 0)) a 2 (a1)) (by rw [hI.1.B]; show clE _ _ _ a 2 = _; simp [clE, obE, wT, wR, va_up]) (fun x hx => by simp [wT, wR, va_up, hx]) (sh_kind hW.1.2.2.2 hI.2.2.2.1 ⟨by decide, by decide⟩ (fun x hx => by simp [wT, wR, va_up, hx]) (fun h => absurd h (by decide)) (fun _ => ⟨(hI.2.2.2.2.2.2.1 1 (by decide) (by decide)), hrx⟩) (fun h => absurd h (by decide)) (fun h => absurd h (by decide)) (fun h => absurd h (by decide)) (fun h => absurd h (by decide)) (fun h => absurd h (by decide)) (fun h => absurd h (by decide))) rfl
  exact rx hQ C hr hlk hG ⟨hPB, trivial⟩ hW dX1_init_45
set_option maxRecDepth 100000 in
set_option maxHeartbeats 4000000 in
theorem nX2_init {l : Launch} {G : Gm} {a a1 b : Nat} {σ : Sg} (hb : gB G = b) (hN : gN G = a + 1) (hk : gK G a = 9) (hE : σ.2.2.2 a = .inr (2, [.null, .int 0, .int 0, .int 0, .int 0, .int 0, .int 0, .int 0, .int 0, .int 0, .int 0, .int 0, .null, .null, .null, .null, .null, .null, .null, .null])) (h1 : gK G a1 = 4) (h1a : a1 < a) : Mx l G yX2_init cX2_init 2 1 40 8 60 [.ref (b + a), .ref (b + a1)] σ (fun G' σ' => PBx a 9 KX2 G σ G' σ' ∧ ((∀ j, σ'.1 a j = 0) ∧ σ'.2.2.1 a 0 = a1)) := by
  subst hb
  unfold Mx
  refine of_Wn "RightKeys$Ring" rfl (by decide) (Nat.le_of_ble_eq_true rfl) ?_
  intro p e s m args below meth c Q hQ C hr hlk hin2 hW ls hl
  have hl : lv_has ls 2 [(0, .ref (gB G + a)), (1, .ref (gB G + a1))] := hl
  have hI : IV a 2 [.null, .int 0, .int 0, .int 0, .int 0, .int 0, .int 0, .int 0, .int 0, .int 0, .int 0, .int 0, .null, .null, .null, .null, .null, .null, .null, .null] KX2 1 G σ G σ := IV.en hN hk hE
  refine lv_aload_n C.1.1 C.1.2.1 dX2_init_0 rfl (lv_at hl 0 rfl) ?_
  refine W.objInit C.1.1 C.1.2.1 C.1.2.2.2.1 (C.w w_296) (C.w w_131) (C.w w_132) rfl (hl.1.trans C.1.2.2.1.symm) rfl dX2_init_1 (Nat.le_of_ble_eq_true rfl) (Nat.le_of_ble_eq_true rfl) ?_
  refine W.eq (g2 := F0 m 4 ls []) rfl ?_
  refine lv_aload_n C.1.1 C.1.2.1 dX2_init_4 rfl (lv_at hl 0 rfl) ?_
  refine lv_iconst (v := 0) C.1.1 C.1.2.1 dX2_init_5 (by decide) ?_
  refine xpR C hW hI tbX2 tyX2 tyX2_ok nmX2 rfl 1 (by decide) w_298 rfl (ty := .int) (by decide +kernel) rfl rfl (fs' := [.null, .int 0, .int 0, .int 0, .int 0, .int 0, .int 0, .int 0, .int 0, .int 0, .int 0, .int 0, .null, .null, .null, .null, .null, .null, .null, .null]) rfl (Nat.le_of_ble_eq_true rfl) dX2_init_6 (fun σx H locs hI hA hW => ?_)
  refine lv_aload_n C.1.1 C.1.2.1 dX2_init_9 rfl (lv_at hl 0 rfl) ?_
  refine lv_iconst (v := 0) C.1.1 C.1.2.1 dX2_init_10 (by decide) ?_
  refine xpR C hW hI tbX2 tyX2 tyX2_ok nmX2 rfl 2 (by decide) w_300 rfl (ty := .int) (by decide +kernel) rfl rfl (fs' := [.null, .int 0, .int 0, .int 0, .int 0, .int 0, .int 0, .int 0, .int 0, .int 0, .int 0, .int 0, .null, .null, .null, .null, .null, .null, .null, .null]) rfl (Nat.le_of_ble_eq_true rfl) dX2_init_11 (fun σx H locs hI hA hW => ?_)
  refine lv_aload_n C.1.1 C.1.2.1 dX2_init_14 rfl (lv_at hl 0 rfl) ?_
  refine lv_iconst (v := 0) C.1.1 C.1.2.1 dX2_init_15 (by decide) ?_
  refine xpR C hW hI tbX2 tyX2 tyX2_ok nmX2 rfl 3 (by decide) w_302 rfl (ty := .int) (by decide +kernel) rfl rfl (fs' := [.null, .int 0, .int 0, .int 0, .int 0, .int 0, .int 0, .int 0, .int 0, .int 0, .int 0, .int 0, .null, .null, .null, .null, .null, .null, .null, .null]) rfl (Nat.le_of_ble_eq_true rfl) dX2_init_16 (fun σx H locs hI hA hW => ?_)
  refine lv_aload_n C.1.1 C.1.2.1 dX2_init_19 rfl (lv_at hl 0 rfl) ?_
  refine lv_iconst (v := 0) C.1.1 C.1.2.1 dX2_init_20 (by decide) ?_
  refine xpR C hW hI tbX2 tyX2 tyX2_ok nmX2 rfl 4 (by decide) w_305 rfl (ty := .int) (by decide +kernel) rfl rfl (fs' := [.null, .int 0, .int 0, .int 0, .int 0, .int 0, .int 0, .int 0, .int 0, .int 0, .int 0, .int 0, .null, .null, .null, .null, .null, .null, .null, .null]) rfl (Nat.le_of_ble_eq_true rfl) dX2_init_21 (fun σx H locs hI hA hW => ?_)
  refine lv_aload_n C.1.1 C.1.2.1 dX2_init_24 rfl (lv_at hl 0 rfl) ?_
  refine lv_iconst (v := 0) C.1.1 C.1.2.1 dX2_init_25 (by decide) ?_
  refine xpR C hW hI tbX2 tyX2 tyX2_ok nmX2 rfl 5 (by decide) w_307 rfl (ty := .int) (by decide +kernel) rfl rfl (fs' := [.null, .int 0, .int 0, .int 0, .int 0, .int 0, .int 0, .int 0, .int 0, .int 0, .int 0, .int 0, .null, .null, .null, .null, .null, .null, .null, .null]) rfl (Nat.le_of_ble_eq_true rfl) dX2_init_26 (fun σx H locs hI hA hW => ?_)
  refine lv_aload_n C.1.1 C.1.2.1 dX2_init_29 rfl (lv_at hl 0 rfl) ?_
  refine lv_iconst (v := 0) C.1.1 C.1.2.1 dX2_init_30 (by decide) ?_
  refine xpR C hW hI tbX2 tyX2 tyX2_ok nmX2 rfl 6 (by decide) w_309 rfl (ty := .int) (by decide +kernel) rfl rfl (fs' := [.null, .int 0, .int 0, .int 0, .int 0, .int 0, .int 0, .int 0, .int 0, .int 0, .int 0, .int 0, .null, .null, .null, .null, .null, .null, .null, .null]) rfl (Nat.le_of_ble_eq_true rfl) dX2_init_31 (fun σx H locs hI hA hW => ?_)
  refine lv_aload_n C.1.1 C.1.2.1 dX2_init_34 rfl (lv_at hl 0 rfl) ?_
  refine lv_iconst (v := 0) C.1.1 C.1.2.1 dX2_init_35 (by decide) ?_
  refine xpR C hW hI tbX2 tyX2 tyX2_ok nmX2 rfl 7 (by decide) w_310 rfl (ty := .boolean) (by decide +kernel) rfl rfl (fs' := [.null, .int 0, .int 0, .int 0, .int 0, .int 0, .int 0, .int 0, .int 0, .int 0, .int 0, .int 0, .null, .null, .null, .null, .null, .null, .null, .null]) rfl (Nat.le_of_ble_eq_true rfl) dX2_init_36 (fun σx H locs hI hA hW => ?_)
  refine lv_aload_n C.1.1 C.1.2.1 dX2_init_39 rfl (lv_at hl 0 rfl) ?_
  refine lv_iconst (v := 0) C.1.1 C.1.2.1 dX2_init_40 (by decide) ?_
  refine xpR C hW hI tbX2 tyX2 tyX2_ok nmX2 rfl 8 (by decide) w_312 rfl (ty := .int) (by decide +kernel) rfl rfl (fs' := [.null, .int 0, .int 0, .int 0, .int 0, .int 0, .int 0, .int 0, .int 0, .int 0, .int 0, .int 0, .null, .null, .null, .null, .null, .null, .null, .null]) rfl (Nat.le_of_ble_eq_true rfl) dX2_init_41 (fun σx H locs hI hA hW => ?_)
  refine lv_aload_n C.1.1 C.1.2.1 dX2_init_44 rfl (lv_at hl 0 rfl) ?_
  refine lv_iconst (v := 0) C.1.1 C.1.2.1 dX2_init_45 (by decide) ?_
  refine xpR C hW hI tbX2 tyX2 tyX2_ok nmX2 rfl 9 (by decide) w_314 rfl (ty := .int) (by decide +kernel) rfl rfl (fs' := [.null, .int 0, .int 0, .int 0, .int 0, .int 0, .int 0, .int 0, .int 0, .int 0, .int 0, .int 0, .null, .null, .null, .null, .null, .null, .null, .null]) rfl (Nat.le_of_ble_eq_true rfl) dX2_init_46 (fun σx H locs hI hA hW => ?_)
  refine lv_aload_n C.1.1 C.1.2.1 dX2_init_49 rfl (lv_at hl 0 rfl) ?_
  refine lv_iconst (v := 0) C.1.1 C.1.2.1 dX2_init_50 (by decide) ?_
  refine xpR C hW hI tbX2 tyX2 tyX2_ok nmX2 rfl 10 (by decide) w_316 rfl (ty := .int) (by decide +kernel) rfl rfl (fs' := [.null, .int 0, .int 0, .int 0, .int 0, .int 0, .int 0, .int 0, .int 0, .int 0, .int 0, .int 0, .null, .null, .null, .null, .null, .null, .null, .null]) rfl (Nat.le_of_ble_eq_true rfl) dX2_init_51 (fun σx H locs hI hA hW => ?_)
  refine lv_aload_n C.1.1 C.1.2.1 dX2_init_54 rfl (lv_at hl 0 rfl) ?_
  refine lv_iconst (v := 0) C.1.1 C.1.2.1 dX2_init_55 (by decide) ?_
  refine xpR C hW hI tbX2 tyX2 tyX2_ok nmX2 rfl 11 (by decide) w_318 rfl (ty := .int) (by decide +kernel) rfl rfl (fs' := [.null, .int 0, .int 0, .int 0, .int 0, .int 0, .int 0, .int 0, .int 0, .int 0, .int 0, .int 0, .null, .null, .null, .null, .null, .null, .null, .null]) rfl (Nat.le_of_ble_eq_true rfl) dX2_init_56 (fun σx H locs hI hA hW => ?_)
  refine lv_aload_n C.1.1 C.1.2.1 dX2_init_59 rfl (lv_at hl 0 rfl) ?_
  refine lv_bipush (v := 8) C.1.1 C.1.2.1 dX2_init_60 (by decide) ?_
  refine xnI C hW hI w_178 (N := 8) (by decide) (by decide) (Nat.le_of_ble_eq_true rfl) (Nat.le_of_ble_eq_true rfl) (Nat.le_of_ble_eq_true rfl) rfl dX2_init_62 (fun Gx σx H hI hA hz hW => ?_)
  refine xpF C hW hI hin2 tbX2 tyX2 tyX2_ok nmX2 rfl 12 (by decide) w_320 rfl rfl (ty := .array .int) (by decide +kernel) rfl rfl (fs' := [.null, .int 0, .int 0, .int 0, .int 0, .int 0, .int 0, .int 0, .int 0, .int 0, .int 0, .int 0, .ref (gB G + (a + 1)), .null, .null, .null, .null, .null, .null, .null]) rfl (Nat.le_of_ble_eq_true rfl) dX2_init_64 (fun σx H locs hI hA hW => ?_)
  refine lv_aload_n C.1.1 C.1.2.1 dX2_init_67 rfl (lv_at hl 0 rfl) ?_
  refine lv_bipush (v := 8) C.1.1 C.1.2.1 dX2_init_68 (by decide) ?_
  refine xnI C hW hI w_178 (N := 8) (by decide) (by decide) (Nat.le_of_ble_eq_true rfl) (Nat.le_of_ble_eq_true rfl) (Nat.le_of_ble_eq_true rfl) rfl dX2_init_70 (fun Gx σx H hI hA hz hW => ?_)
  refine xpF C hW hI hin2 tbX2 tyX2 tyX2_ok nmX2 rfl 13 (by decide) w_322 rfl rfl (ty := .array .int) (by decide +kernel) rfl rfl (fs' := [.null, .int 0, .int 0, .int 0, .int 0, .int 0, .int 0, .int 0, .int 0, .int 0, .int 0, .int 0, .ref (gB G + (a + 1)), .ref (gB G + (a + 2)), .null, .null, .null, .null, .null, .null]) rfl (Nat.le_of_ble_eq_true rfl) dX2_init_72 (fun σx H locs hI hA hW => ?_)
  refine lv_aload_n C.1.1 C.1.2.1 dX2_init_75 rfl (lv_at hl 0 rfl) ?_
  refine lv_bipush (v := 8) C.1.1 C.1.2.1 dX2_init_76 (by decide) ?_
  refine xnI C hW hI w_178 (N := 8) (by decide) (by decide) (Nat.le_of_ble_eq_true rfl) (Nat.le_of_ble_eq_true rfl) (Nat.le_of_ble_eq_true rfl) rfl dX2_init_78 (fun Gx σx H hI hA hz hW => ?_)
  refine xpF C hW hI hin2 tbX2 tyX2 tyX2_ok nmX2 rfl 14 (by decide) w_324 rfl rfl (ty := .array .int) (by decide +kernel) rfl rfl (fs' := [.null, .int 0, .int 0, .int 0, .int 0, .int 0, .int 0, .int 0, .int 0, .int 0, .int 0, .int 0, .ref (gB G + (a + 1)), .ref (gB G + (a + 2)), .ref (gB G + (a + 3)), .null, .null, .null, .null, .null]) rfl (Nat.le_of_ble_eq_true rfl) dX2_init_80 (fun σx H locs hI hA hW => ?_)
  refine lv_aload_n C.1.1 C.1.2.1 dX2_init_83 rfl (lv_at hl 0 rfl) ?_
  refine lv_bipush (v := 8) C.1.1 C.1.2.1 dX2_init_84 (by decide) ?_
  refine xnI C hW hI w_178 (N := 8) (by decide) (by decide) (Nat.le_of_ble_eq_true rfl) (Nat.le_of_ble_eq_true rfl) (Nat.le_of_ble_eq_true rfl) rfl dX2_init_86 (fun Gx σx H hI hA hz hW => ?_)
  refine xpF C hW hI hin2 tbX2 tyX2 tyX2_ok nmX2 rfl 15 (by decide) w_326 rfl rfl (ty := .array .int) (by decide +kernel) rfl rfl (fs' := [.null, .int 0, .int 0, .int 0, .int 0, .int 0, .int 0, .int 0, .int 0, .int 0, .int 0, .int 0, .ref (gB G + (a + 1)), .ref (gB G + (a + 2)), .ref (gB G + (a + 3)), .ref (gB G + (a + 4)), .null, .null, .null, .null]) rfl (Nat.le_of_ble_eq_true rfl) dX2_init_88 (fun σx H locs hI hA hW => ?_)
  refine lv_aload_n C.1.1 C.1.2.1 dX2_init_91 rfl (lv_at hl 0 rfl) ?_
  refine lv_bipush (v := 8) C.1.1 C.1.2.1 dX2_init_92 (by decide) ?_
  refine xnI C hW hI w_178 (N := 8) (by decide) (by decide) (Nat.le_of_ble_eq_true rfl) (Nat.le_of_ble_eq_true rfl) (Nat.le_of_ble_eq_true rfl) rfl dX2_init_94 (fun Gx σx H hI hA hz hW => ?_)
  refine xpF C hW hI hin2 tbX2 tyX2 tyX2_ok nmX2 rfl 16 (by decide) w_328 rfl rfl (ty := .array .int) (by decide +kernel) rfl rfl (fs' := [.null, .int 0, .int 0, .int 0, .int 0, .int 0, .int 0, .int 0, .int 0, .int 0, .int 0, .int 0, .ref (gB G + (a + 1)), .ref (gB G + (a + 2)), .ref (gB G + (a + 3)), .ref (gB G + (a + 4)), .ref (gB G + (a + 5)), .null, .null, .null]) rfl (Nat.le_of_ble_eq_true rfl) dX2_init_96 (fun σx H locs hI hA hW => ?_)
  refine lv_aload_n C.1.1 C.1.2.1 dX2_init_99 rfl (lv_at hl 0 rfl) ?_
  refine lv_bipush (v := 8) C.1.1 C.1.2.1 dX2_init_100 (by decide) ?_
  refine xnI C hW hI w_178 (N := 8) (by decide) (by decide) (Nat.le_of_ble_eq_true rfl) (Nat.le_of_ble_eq_true rfl) (Nat.le_of_ble_eq_true rfl) rfl dX2_init_102 (fun Gx σx H hI hA hz hW => ?_)
  refine xpF C hW hI hin2 tbX2 tyX2 tyX2_ok nmX2 rfl 17 (by decide) w_330 rfl rfl (ty := .array .int) (by decide +kernel) rfl rfl (fs' := [.null, .int 0, .int 0, .int 0, .int 0, .int 0, .int 0, .int 0, .int 0, .int 0, .int 0, .int 0, .ref (gB G + (a + 1)), .ref (gB G + (a + 2)), .ref (gB G + (a + 3)), .ref (gB G + (a + 4)), .ref (gB G + (a + 5)), .ref (gB G + (a + 6)), .null, .null]) rfl (Nat.le_of_ble_eq_true rfl) dX2_init_104 (fun σx H locs hI hA hW => ?_)
  refine lv_aload_n C.1.1 C.1.2.1 dX2_init_107 rfl (lv_at hl 0 rfl) ?_
  refine lv_bipush (v := 6) C.1.1 C.1.2.1 dX2_init_108 (by decide) ?_
  refine xnI C hW hI w_178 (N := 6) (by decide) (by decide) (Nat.le_of_ble_eq_true rfl) (Nat.le_of_ble_eq_true rfl) (Nat.le_of_ble_eq_true rfl) rfl dX2_init_110 (fun Gx σx H hI hA hz hW => ?_)
  refine xpF C hW hI hin2 tbX2 tyX2 tyX2_ok nmX2 rfl 18 (by decide) w_332 rfl rfl (ty := .array .int) (by decide +kernel) rfl rfl (fs' := [.null, .int 0, .int 0, .int 0, .int 0, .int 0, .int 0, .int 0, .int 0, .int 0, .int 0, .int 0, .ref (gB G + (a + 1)), .ref (gB G + (a + 2)), .ref (gB G + (a + 3)), .ref (gB G + (a + 4)), .ref (gB G + (a + 5)), .ref (gB G + (a + 6)), .ref (gB G + (a + 7)), .null]) rfl (Nat.le_of_ble_eq_true rfl) dX2_init_112 (fun σx H locs hI hA hW => ?_)
  refine lv_aload_n C.1.1 C.1.2.1 dX2_init_115 rfl (lv_at hl 0 rfl) ?_
  refine lv_bipush (v := 6) C.1.1 C.1.2.1 dX2_init_116 (by decide) ?_
  refine xnI C hW hI w_178 (N := 6) (by decide) (by decide) (Nat.le_of_ble_eq_true rfl) (Nat.le_of_ble_eq_true rfl) (Nat.le_of_ble_eq_true rfl) rfl dX2_init_118 (fun Gx σx H hI hA hz hW => ?_)
  refine xpF C hW hI hin2 tbX2 tyX2 tyX2_ok nmX2 rfl 19 (by decide) w_334 rfl rfl (ty := .array .int) (by decide +kernel) rfl rfl (fs' := [.null, .int 0, .int 0, .int 0, .int 0, .int 0, .int 0, .int 0, .int 0, .int 0, .int 0, .int 0, .ref (gB G + (a + 1)), .ref (gB G + (a + 2)), .ref (gB G + (a + 3)), .ref (gB G + (a + 4)), .ref (gB G + (a + 5)), .ref (gB G + (a + 6)), .ref (gB G + (a + 7)), .ref (gB G + (a + 8))]) rfl (Nat.le_of_ble_eq_true rfl) dX2_init_120 (fun σx H locs hI hA hW => ?_)
  refine lv_aload_n C.1.1 C.1.2.1 dX2_init_123 rfl (lv_at hl 0 rfl) ?_
  refine lv_aload_n C.1.1 C.1.2.1 dX2_init_124 rfl (lv_at hl 1 rfl) ?_
  refine xpR C hW hI tbX2 tyX2 tyX2_ok nmX2 rfl 0 (by decide) w_297 rfl (ty := .object "RightKeys$Text") (by decide +kernel) rfl rfl (fs' := [.ref (gB G + a1), .int 0, .int 0, .int 0, .int 0, .int 0, .int 0, .int 0, .int 0, .int 0, .int 0, .int 0, .ref (gB G + (a + 1)), .ref (gB G + (a + 2)), .ref (gB G + (a + 3)), .ref (gB G + (a + 4)), .ref (gB G + (a + 5)), .ref (gB G + (a + 6)), .ref (gB G + (a + 7)), .ref (gB G + (a + 8))]) rfl (Nat.le_of_ble_eq_true rfl) dX2_init_125 (fun σx H locs hI hA hW => ?_)
  have hrx : gK Gx ((wT (wR σx a (fun _ => 0)) a 0 (a1)).2.2.1 a 0) = 4 := by
    have z : (wT (wR σx a (fun _ => 0)) a 0 (a1)).2.2.1 a 0 = a1 := by simp [wT, va_up]
    rw [z, hI.2.2.2.2.2.1 a1 h1a]; exact h1
  obtain ⟨hW, hG, hPB⟩ := hI.kind hW (σ' := wT (wR σx a (fun _ => 0)) a 0 (a1)) (by rw [hI.1.B]; show clE _ _ _ a 3 = _; simp [clE, obE, wT, wR, va_up]) (fun x hx => by simp [wT, wR, va_up, hx]) (sh_kind hW.1.2.2.2 hI.2.2.2.1 ⟨by decide, by decide⟩ (fun x hx => by simp [wT, wR, va_up, hx]) (fun h => absurd h (by decide)) (fun h => absurd h (by decide)) (fun _ => ⟨hrx, (hI.2.2.2.2.2.2.1 1 (by decide) (by decide)), (hI.2.2.2.2.2.2.1 2 (by decide) (by decide)), (hI.2.2.2.2.2.2.1 3 (by decide) (by decide)), (hI.2.2.2.2.2.2.1 4 (by decide) (by decide)), (hI.2.2.2.2.2.2.1 5 (by decide) (by decide)), (hI.2.2.2.2.2.2.1 6 (by decide) (by decide)), (hI.2.2.2.2.2.2.1 7 (by decide) (by decide)), (hI.2.2.2.2.2.2.1 8 (by decide) (by decide))⟩) (fun h => absurd h (by decide)) (fun h => absurd h (by decide)) (fun h => absurd h (by decide)) (fun h => absurd h (by decide)) (fun h => absurd h (by decide))) rfl
  exact rx hQ C hr hlk hG ⟨hPB, fun j => by simp [wT, wR, va_up], by simp [wT, va_up]⟩ hW dX2_init_128
set_option maxRecDepth 100000 in
set_option maxHeartbeats 4000000 in
theorem nX5_init {l : Launch} {G : Gm} {a b : Nat} {σ : Sg} (hb : gB G = b) (hN : gN G = a + 1) (hk : gK G a = 9) (hE : σ.2.2.2 a = .inr (5, [.null, .int 0, .int 0, .int 0, .int 0])) : Mx l G yX5_init cX5_init 1 1 40 1 8 [.ref (b + a)] σ (fun G' σ' => PBx a 2 KX5 G σ G' σ' ∧ (True)) := by
  subst hb
  unfold Mx
  refine of_Wn "RightKeys$Watch" rfl (by decide) (Nat.le_of_ble_eq_true rfl) ?_
  intro p e s m args below meth c Q hQ C hr hlk hin2 hW ls hl
  have hl : lv_has ls 1 [(0, .ref (gB G + a))] := hl
  have hI : IV a 5 [.null, .int 0, .int 0, .int 0, .int 0] KX5 1 G σ G σ := IV.en hN hk hE
  refine lv_aload_n C.1.1 C.1.2.1 dX5_init_0 rfl (lv_at hl 0 rfl) ?_
  refine W.objInit C.1.1 C.1.2.1 C.1.2.2.2.1 (C.w w_382) (C.w w_131) (C.w w_132) rfl (hl.1.trans C.1.2.2.1.symm) rfl dX5_init_1 (Nat.le_of_ble_eq_true rfl) (Nat.le_of_ble_eq_true rfl) ?_
  refine W.eq (g2 := F0 m 4 ls []) rfl ?_
  refine lv_aload_n C.1.1 C.1.2.1 dX5_init_4 rfl (lv_at hl 0 rfl) ?_
  refine lv_bipush (v := 8) C.1.1 C.1.2.1 dX5_init_5 (by decide) ?_
  refine xnI C hW hI w_178 (N := 8) (by decide) (by decide) (Nat.le_of_ble_eq_true rfl) (Nat.le_of_ble_eq_true rfl) (Nat.le_of_ble_eq_true rfl) rfl dX5_init_7 (fun Gx σx H hI hA hz hW => ?_)
  refine xpF C hW hI hin2 tbX5 tyX5 tyX5_ok nmX5 rfl 0 (by decide) w_383 rfl rfl (ty := .array .int) (by decide +kernel) rfl rfl (fs' := [.ref (gB G + (a + 1)), .int 0, .int 0, .int 0, .int 0]) rfl (Nat.le_of_ble_eq_true rfl) dX5_init_9 (fun σx H locs hI hA hW => ?_)
  refine lv_aload_n C.1.1 C.1.2.1 dX5_init_12 rfl (lv_at hl 0 rfl) ?_
  refine lv_iconst (v := 0) C.1.1 C.1.2.1 dX5_init_13 (by decide) ?_
  refine xpR C hW hI tbX5 tyX5 tyX5_ok nmX5 rfl 1 (by decide) w_385 rfl (ty := .int) (by decide +kernel) rfl rfl (fs' := [.ref (gB G + (a + 1)), .int 0, .int 0, .int 0, .int 0]) rfl (Nat.le_of_ble_eq_true rfl) dX5_init_14 (fun σx H locs hI hA hW => ?_)
  refine lv_aload_n C.1.1 C.1.2.1 dX5_init_17 rfl (lv_at hl 0 rfl) ?_
  refine lv_iconst (v := 0) C.1.1 C.1.2.1 dX5_init_18 (by decide) ?_
  refine xpR C hW hI tbX5 tyX5 tyX5_ok nmX5 rfl 2 (by decide) w_387 rfl (ty := .int) (by decide +kernel) rfl rfl (fs' := [.ref (gB G + (a + 1)), .int 0, .int 0, .int 0, .int 0]) rfl (Nat.le_of_ble_eq_true rfl) dX5_init_19 (fun σx H locs hI hA hW => ?_)
  refine lv_aload_n C.1.1 C.1.2.1 dX5_init_22 rfl (lv_at hl 0 rfl) ?_
  refine lv_iconst (v := 0) C.1.1 C.1.2.1 dX5_init_23 (by decide) ?_
  refine xpR C hW hI tbX5 tyX5 tyX5_ok nmX5 rfl 3 (by decide) w_389 rfl (ty := .int) (by decide +kernel) rfl rfl (fs' := [.ref (gB G + (a + 1)), .int 0, .int 0, .int 0, .int 0]) rfl (Nat.le_of_ble_eq_true rfl) dX5_init_24 (fun σx H locs hI hA hW => ?_)
  refine lv_aload_n C.1.1 C.1.2.1 dX5_init_27 rfl (lv_at hl 0 rfl) ?_
  refine lv_iconst (v := 0) C.1.1 C.1.2.1 dX5_init_28 (by decide) ?_
  refine xpR C hW hI tbX5 tyX5 tyX5_ok nmX5 rfl 4 (by decide) w_391 rfl (ty := .int) (by decide +kernel) rfl rfl (fs' := [.ref (gB G + (a + 1)), .int 0, .int 0, .int 0, .int 0]) rfl (Nat.le_of_ble_eq_true rfl) dX5_init_29 (fun σx H locs hI hA hW => ?_)
  obtain ⟨hW, hG, hPB⟩ := hI.kind hW (σ' := wR σx a (fun _ => 0)) (by rw [hI.1.B]; show clE _ _ _ a 6 = _; simp [clE, obE, wT, wR, va_up]) (fun x hx => by simp [wT, wR, va_up, hx]) (sh_kind hW.1.2.2.2 hI.2.2.2.1 ⟨by decide, by decide⟩ (fun x hx => by simp [wT, wR, va_up, hx]) (fun h => absurd h (by decide)) (fun h => absurd h (by decide)) (fun h => absurd h (by decide)) (fun h => absurd h (by decide)) (fun h => absurd h (by decide)) (fun _ => (hI.2.2.2.2.2.2.1 1 (by decide) (by decide))) (fun h => absurd h (by decide)) (fun h => absurd h (by decide))) rfl
  exact rx hQ C hr hlk hG ⟨hPB, trivial⟩ hW dX5_init_32
