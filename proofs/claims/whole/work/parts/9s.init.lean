/-! the model's constructor -/
def apW (x : Int64) (c : Int32) : Int64 := if c = 0 then x else 27 * x + (c - 97 + 1).toInt64
theorem apW_v (x : Int64) (c : Int32) (σ : Sg) : fX7_appends x c σ = some (apW x c, σ) := by
  unfold fX7_appends apW
  split <;> rfl
theorem word_v {p0 p1 p2 p3 p4 p5 p6 : Int32} {v : Int64} {σ : Sg} (h : apW (apW (apW (apW (apW (apW (apW 0 p0) p1) p2) p3) p4) p5) p6 = v) : fX7_word p0 p1 p2 p3 p4 p5 p6 σ = some (v, σ) := by
  unfold fX7_word
  simp only [apW_v, Option.bind_some]
  rw [h]
theorem jst {a i : Nat} {σ τ : Sg} (hJ : ∀ k, k < i → σ.2.1 (a + 7) k = lN (wvN k)) (e1 : σ.1 = τ.1) (e2 : σ.2.2 = τ.2.2) (e3 : ∀ x, x ≠ a + 7 → σ.2.1 x = τ.2.1 x) : (∀ k, k < i + 1 → (wJ σ (a + 7) i (lN (wvN i))).2.1 (a + 7) k = lN (wvN k)) ∧ (wJ σ (a + 7) i (lN (wvN i))).1 = τ.1 ∧ (wJ σ (a + 7) i (lN (wvN i))).2.2 = τ.2.2 ∧ ∀ x, x ≠ a + 7 → (wJ σ (a + 7) i (lN (wvN i))).2.1 x = τ.2.1 x := by
  refine ⟨fun k hk => ?_, e1, e2, fun x hx => ?_⟩
  · rw [wJ_k]
    by_cases z : k = i
    · rw [z, pk_uLs]
    · rw [pk_uLn z]; exact hJ k (by omega)
  · rw [wJ_n hx]; exact e3 x hx
def KX7 : Nat → Nat := fun i => [8, kA 0 2000, kA 0 2000, kA 1 403, kA 1 403, kA 1 403, kA 2 403, kA 2 20, kA 2 8, kA 1 2, kA 1 16, kA 1 16, kA 1 16, kA 3 16, kA 1 2, kA 1 12, kA 1 12, kA 1 2, kA 1 8, kA 1 8, kA 3 260, kA 1 260, kA 1 260, kA 1 260, kA 1 260, kA 1 840, kA 1 840, kA 1 64, kA 1 9, kA 1 400, kA 1 88, kA 1 88, kA 3 8, kA 1 3520, kA 1 8, kA 1 20, kA 1 20, kA 1 8, kA 3 3, kA 1 264].getD i 0
theorem kiX7_init : KI yX7_init cX7_init 1 0 := ⟨⟨w_1009, w_116, w_1010⟩, rfl, ⟨by decide, by decide, by decide +kernel⟩⟩
theorem wd_0 : apW (apW (apW (apW (apW (apW (apW 0 104) 111) 117) 115) 101) 0) 0 = lN (wvN 0) := by decide +kernel
theorem wd_1 : apW (apW (apW (apW (apW (apW (apW 0 115) 112) 97) 114) 101) 0) 0 = lN (wvN 1) := by decide +kernel
theorem wd_2 : apW (apW (apW (apW (apW (apW (apW 0 98) 111) 116) 104) 0) 0) 0 = lN (wvN 2) := by decide +kernel
theorem wd_3 : apW (apW (apW (apW (apW (apW (apW 0 108) 101) 116) 115) 0) 0) 0 = lN (wvN 3) := by decide +kernel
theorem wd_4 : apW (apW (apW (apW (apW (apW (apW 0 113) 117) 97) 114) 114) 101) 108 = lN (wvN 4) := by decide +kernel
theorem wd_5 : apW (apW (apW (apW (apW (apW (apW 0 114) 101) 110) 116) 0) 0) 0 = lN (wvN 5) := by decide +kernel
theorem wd_6 : apW (apW (apW (apW (apW (apW (apW 0 108) 97) 116) 101) 0) 0) 0 = lN (wvN 6) := by decide +kernel
theorem wd_7 : apW (apW (apW (apW (apW (apW (apW 0 115) 101) 101) 100) 0) 0) 0 = lN (wvN 7) := by decide +kernel
theorem wd_8 : apW (apW (apW (apW (apW (apW (apW 0 105) 102) 0) 0) 0) 0) 0 = lN (wvN 8) := by decide +kernel
theorem wd_9 : apW (apW (apW (apW (apW (apW (apW 0 116) 104) 101) 110) 0) 0) 0 = lN (wvN 9) := by decide +kernel
theorem wd_10 : apW (apW (apW (apW (apW (apW (apW 0 101) 108) 115) 101) 0) 0) 0 = lN (wvN 10) := by decide +kernel
theorem wd_11 : apW (apW (apW (apW (apW (apW (apW 0 104) 111) 117) 114) 0) 0) 0 = lN (wvN 11) := by decide +kernel
theorem wd_12 : apW (apW (apW (apW (apW (apW (apW 0 100) 97) 121) 0) 0) 0) 0 = lN (wvN 12) := by decide +kernel
theorem wd_13 : apW (apW (apW (apW (apW (apW (apW 0 119) 97) 105) 116) 101) 100) 0 = lN (wvN 13) := by decide +kernel
theorem wd_14 : apW (apW (apW (apW (apW (apW (apW 0 116) 101) 109) 112) 101) 114) 0 = lN (wvN 14) := by decide +kernel
theorem wd_15 : apW (apW (apW (apW (apW (apW (apW 0 111) 116) 104) 101) 114) 0) 0 = lN (wvN 15) := by decide +kernel
theorem wd_16 : apW (apW (apW (apW (apW (apW (apW 0 119) 104) 105) 99) 104) 0) 0 = lN (wvN 16) := by decide +kernel
theorem wd_17 : apW (apW (apW (apW (apW (apW (apW 0 105) 110) 115) 105) 100) 101) 0 = lN (wvN 17) := by decide +kernel
theorem wd_18 : apW (apW (apW (apW (apW (apW (apW 0 111) 117) 116) 115) 105) 100) 101 = lN (wvN 18) := by decide +kernel
theorem wd_19 : apW (apW (apW (apW (apW (apW (apW 0 107) 101) 121) 115) 0) 0) 0 = lN (wvN 19) := by decide +kernel
set_option maxRecDepth 100000 in
set_option maxHeartbeats 8000000 in
theorem nX7_init {l : Launch} {G : Gm} {a b : Nat} {σ : Sg} (hb : gB G = b) (hN : gN G = a + 1) (hk : gK G a = 9) (hE : σ.2.2.2 a = .inr (7, [.int 0, .null, .int 0, .null, .int 0, .null, .null, .null, .null, .null, .int 0, .int 0, .int 0, .int 0, .int 0, .int 0, .int 0, .int 0, .int 0, .int 0, .int 0, .null, .null, .null, .null, .null, .null, .null, .null, .null, .null, .null, .null, .int 0, .null, .null, .null, .null, .null, .int 0, .null, .null, .null, .int 0, .null, .null, .int 0, .null, .null, .int 0, .int 0, .int 0, .null, .int 0, .null, .null, .int 0, .int 0, .int 0, .int 0, .int 0, .int 0, .null, .null, .null, .null, .null])) : Mx l G yX7_init cX7_init 1 2 48 39 13230 [.ref (b + a)] σ (fun G' σ' => PBx a 40 KX7 G σ G' σ' ∧ (σ'.1 a 17 = -1 ∧ (∀ j, j = 2 ∨ j = 18 ∨ j = 53 ∨ j = 61 → σ'.1 a j = 0) ∧ (σ'.1 (a + 9) 0 = 0 ∧ σ'.1 (a + 14) 0 = 0 ∧ σ'.1 (a + 17) 0 = 0) ∧ (∀ k, k < 4 → σ'.1 (a + 18) k = 0 ∧ σ'.1 (a + 19) k = 0) ∧ (∀ s, s < 3 → σ'.1 (a + 38) s = 0) ∧ (∀ x, 84 ≤ x → x < 88 → σ'.1 (a + 30) x = 0) ∧ ∀ k, k < 20 → σ'.2.1 (a + 7) k = lN (wvN k))) := by
  subst hb
  unfold Mx
  refine of_Wn "RightKeysModel" rfl (by decide) (Nat.le_of_ble_eq_true rfl) ?_
  intro p e s m args below meth c Q hQ C hr hlk hin2 hW ls hl
  have hl : lv_has ls 1 [(0, .ref (gB G + a))] := hl
  have hI : IV a 7 [.int 0, .null, .int 0, .null, .int 0, .null, .null, .null, .null, .null, .int 0, .int 0, .int 0, .int 0, .int 0, .int 0, .int 0, .int 0, .int 0, .int 0, .int 0, .null, .null, .null, .null, .null, .null, .null, .null, .null, .null, .null, .null, .int 0, .null, .null, .null, .null, .null, .int 0, .null, .null, .null, .int 0, .null, .null, .int 0, .null, .null, .int 0, .int 0, .int 0, .null, .int 0, .null, .null, .int 0, .int 0, .int 0, .int 0, .int 0, .int 0, .null, .null, .null, .null, .null] KX7 1 G σ G σ := IV.en hN hk hE
  have hZ : ZV a 1 σ := fun i h1 h2 => by omega
  refine lv_aload_n C.1.1 C.1.2.1 dX7_init_0 rfl (lv_at hl 0 rfl) ?_
  refine W.objInit C.1.1 C.1.2.1 C.1.2.2.2.1 (C.w w_1011) (C.w w_131) (C.w w_132) rfl (hl.1.trans C.1.2.2.1.symm) rfl dX7_init_1 (Nat.le_of_ble_eq_true rfl) (Nat.le_of_ble_eq_true rfl) ?_
  refine W.eq (g2 := F0 m 4 ls []) rfl ?_
  refine lv_aload_n C.1.1 C.1.2.1 dX7_init_4 rfl (lv_at hl 0 rfl) ?_
  refine lv_sipush (v := 2000) C.1.1 C.1.2.1 dX7_init_5 (by decide) ?_
  refine xnB C hW hI w_176 (N := 2000) (by decide) (by decide) (Nat.le_of_ble_eq_true rfl) (Nat.le_of_ble_eq_true rfl) (Nat.le_of_ble_eq_true rfl) rfl dX7_init_8 (fun Gx σx H hI hA hz hW => ?_)
  replace hZ := hZ.push hA hz
  refine xpF C hW hI hin2 tbX7 tyX7 tyX7_ok nmX7 rfl 1 (by decide) w_1031 rfl rfl (ty := .array .byte) (by decide +kernel) rfl rfl (fs' := [.int 0, .ref (gB G + (a + 1)), .int 0, .null, .int 0, .null, .null, .null, .null, .null, .int 0, .int 0, .int 0, .int 0, .int 0, .int 0, .int 0, .int 0, .int 0, .int 0, .int 0, .null, .null, .null, .null, .null, .null, .null, .null, .null, .null, .null, .null, .int 0, .null, .null, .null, .null, .null, .int 0, .null, .null, .null, .int 0, .null, .null, .int 0, .null, .null, .int 0, .int 0, .int 0, .null, .int 0, .null, .null, .int 0, .int 0, .int 0, .int 0, .int 0, .int 0, .null, .null, .null, .null, .null]) rfl (Nat.le_of_ble_eq_true rfl) dX7_init_10 (fun σx H locs hI hA hW => ?_)
  replace hZ := hZ.ag hA
  refine lv_aload_n C.1.1 C.1.2.1 dX7_init_13 rfl (lv_at hl 0 rfl) ?_
  refine lv_sipush (v := 2000) C.1.1 C.1.2.1 dX7_init_14 (by decide) ?_
  refine xnB C hW hI w_176 (N := 2000) (by decide) (by decide) (Nat.le_of_ble_eq_true rfl) (Nat.le_of_ble_eq_true rfl) (Nat.le_of_ble_eq_true rfl) rfl dX7_init_17 (fun Gx σx H hI hA hz hW => ?_)
  replace hZ := hZ.push hA hz
  refine xpF C hW hI hin2 tbX7 tyX7 tyX7_ok nmX7 rfl 3 (by decide) w_1033 rfl rfl (ty := .array .byte) (by decide +kernel) rfl rfl (fs' := [.int 0, .ref (gB G + (a + 1)), .int 0, .ref (gB G + (a + 2)), .int 0, .null, .null, .null, .null, .null, .int 0, .int 0, .int 0, .int 0, .int 0, .int 0, .int 0, .int 0, .int 0, .int 0, .int 0, .null, .null, .null, .null, .null, .null, .null, .null, .null, .null, .null, .null, .int 0, .null, .null, .null, .null, .null, .int 0, .null, .null, .null, .int 0, .null, .null, .int 0, .null, .null, .int 0, .int 0, .int 0, .null, .int 0, .null, .null, .int 0, .int 0, .int 0, .int 0, .int 0, .int 0, .null, .null, .null, .null, .null]) rfl (Nat.le_of_ble_eq_true rfl) dX7_init_19 (fun σx H locs hI hA hW => ?_)
  replace hZ := hZ.ag hA
  refine lv_aload_n C.1.1 C.1.2.1 dX7_init_22 rfl (lv_at hl 0 rfl) ?_
  refine lv_sipush (v := 403) C.1.1 C.1.2.1 dX7_init_23 (by decide) ?_
  refine xnI C hW hI w_178 (N := 403) (by decide) (by decide) (Nat.le_of_ble_eq_true rfl) (Nat.le_of_ble_eq_true rfl) (Nat.le_of_ble_eq_true rfl) rfl dX7_init_26 (fun Gx σx H hI hA hz hW => ?_)
  replace hZ := hZ.push hA hz
  refine xpF C hW hI hin2 tbX7 tyX7 tyX7_ok nmX7 rfl 5 (by decide) w_1035 rfl rfl (ty := .array .int) (by decide +kernel) rfl rfl (fs' := [.int 0, .ref (gB G + (a + 1)), .int 0, .ref (gB G + (a + 2)), .int 0, .ref (gB G + (a + 3)), .null, .null, .null, .null, .int 0, .int 0, .int 0, .int 0, .int 0, .int 0, .int 0, .int 0, .int 0, .int 0, .int 0, .null, .null, .null, .null, .null, .null, .null, .null, .null, .null, .null, .null, .int 0, .null, .null, .null, .null, .null, .int 0, .null, .null, .null, .int 0, .null, .null, .int 0, .null, .null, .int 0, .int 0, .int 0, .null, .int 0, .null, .null, .int 0, .int 0, .int 0, .int 0, .int 0, .int 0, .null, .null, .null, .null, .null]) rfl (Nat.le_of_ble_eq_true rfl) dX7_init_28 (fun σx H locs hI hA hW => ?_)
  replace hZ := hZ.ag hA
  refine lv_aload_n C.1.1 C.1.2.1 dX7_init_31 rfl (lv_at hl 0 rfl) ?_
  refine lv_sipush (v := 403) C.1.1 C.1.2.1 dX7_init_32 (by decide) ?_
  refine xnI C hW hI w_178 (N := 403) (by decide) (by decide) (Nat.le_of_ble_eq_true rfl) (Nat.le_of_ble_eq_true rfl) (Nat.le_of_ble_eq_true rfl) rfl dX7_init_35 (fun Gx σx H hI hA hz hW => ?_)
  replace hZ := hZ.push hA hz
  refine xpF C hW hI hin2 tbX7 tyX7 tyX7_ok nmX7 rfl 6 (by decide) w_1036 rfl rfl (ty := .array .int) (by decide +kernel) rfl rfl (fs' := [.int 0, .ref (gB G + (a + 1)), .int 0, .ref (gB G + (a + 2)), .int 0, .ref (gB G + (a + 3)), .ref (gB G + (a + 4)), .null, .null, .null, .int 0, .int 0, .int 0, .int 0, .int 0, .int 0, .int 0, .int 0, .int 0, .int 0, .int 0, .null, .null, .null, .null, .null, .null, .null, .null, .null, .null, .null, .null, .int 0, .null, .null, .null, .null, .null, .int 0, .null, .null, .null, .int 0, .null, .null, .int 0, .null, .null, .int 0, .int 0, .int 0, .null, .int 0, .null, .null, .int 0, .int 0, .int 0, .int 0, .int 0, .int 0, .null, .null, .null, .null, .null]) rfl (Nat.le_of_ble_eq_true rfl) dX7_init_37 (fun σx H locs hI hA hW => ?_)
  replace hZ := hZ.ag hA
  refine lv_aload_n C.1.1 C.1.2.1 dX7_init_40 rfl (lv_at hl 0 rfl) ?_
  refine lv_sipush (v := 403) C.1.1 C.1.2.1 dX7_init_41 (by decide) ?_
  refine xnI C hW hI w_178 (N := 403) (by decide) (by decide) (Nat.le_of_ble_eq_true rfl) (Nat.le_of_ble_eq_true rfl) (Nat.le_of_ble_eq_true rfl) rfl dX7_init_44 (fun Gx σx H hI hA hz hW => ?_)
  replace hZ := hZ.push hA hz
  refine xpF C hW hI hin2 tbX7 tyX7 tyX7_ok nmX7 rfl 7 (by decide) w_1037 rfl rfl (ty := .array .int) (by decide +kernel) rfl rfl (fs' := [.int 0, .ref (gB G + (a + 1)), .int 0, .ref (gB G + (a + 2)), .int 0, .ref (gB G + (a + 3)), .ref (gB G + (a + 4)), .ref (gB G + (a + 5)), .null, .null, .int 0, .int 0, .int 0, .int 0, .int 0, .int 0, .int 0, .int 0, .int 0, .int 0, .int 0, .null, .null, .null, .null, .null, .null, .null, .null, .null, .null, .null, .null, .int 0, .null, .null, .null, .null, .null, .int 0, .null, .null, .null, .int 0, .null, .null, .int 0, .null, .null, .int 0, .int 0, .int 0, .null, .int 0, .null, .null, .int 0, .int 0, .int 0, .int 0, .int 0, .int 0, .null, .null, .null, .null, .null]) rfl (Nat.le_of_ble_eq_true rfl) dX7_init_46 (fun σx H locs hI hA hW => ?_)
  replace hZ := hZ.ag hA
  refine lv_aload_n C.1.1 C.1.2.1 dX7_init_49 rfl (lv_at hl 0 rfl) ?_
  refine lv_sipush (v := 403) C.1.1 C.1.2.1 dX7_init_50 (by decide) ?_
  refine xnJ C hW hI w_177 (N := 403) (by decide) (by decide) (Nat.le_of_ble_eq_true rfl) (Nat.le_of_ble_eq_true rfl) (Nat.le_of_ble_eq_true rfl) rfl dX7_init_53 (fun Gx σx H hI hA hz hW => ?_)
  replace hZ := hZ.push hA hz
  refine xpF C hW hI hin2 tbX7 tyX7 tyX7_ok nmX7 rfl 8 (by decide) w_1038 rfl rfl (ty := .array .long) (by decide +kernel) rfl rfl (fs' := [.int 0, .ref (gB G + (a + 1)), .int 0, .ref (gB G + (a + 2)), .int 0, .ref (gB G + (a + 3)), .ref (gB G + (a + 4)), .ref (gB G + (a + 5)), .ref (gB G + (a + 6)), .null, .int 0, .int 0, .int 0, .int 0, .int 0, .int 0, .int 0, .int 0, .int 0, .int 0, .int 0, .null, .null, .null, .null, .null, .null, .null, .null, .null, .null, .null, .null, .int 0, .null, .null, .null, .null, .null, .int 0, .null, .null, .null, .int 0, .null, .null, .int 0, .null, .null, .int 0, .int 0, .int 0, .null, .int 0, .null, .null, .int 0, .int 0, .int 0, .int 0, .int 0, .int 0, .null, .null, .null, .null, .null]) rfl (Nat.le_of_ble_eq_true rfl) dX7_init_55 (fun σx H locs hI hA hW => ?_)
  replace hZ := hZ.ag hA
  refine lv_aload_n C.1.1 C.1.2.1 dX7_init_58 rfl (lv_at hl 0 rfl) ?_
  refine lv_bipush (v := 20) C.1.1 C.1.2.1 dX7_init_59 (by decide) ?_
  refine xnJ C hW hI w_177 (N := 20) (by decide) (by decide) (Nat.le_of_ble_eq_true rfl) (Nat.le_of_ble_eq_true rfl) (Nat.le_of_ble_eq_true rfl) rfl dX7_init_61 (fun Gx σx H hI hA hz hW => ?_)
  replace hZ := hZ.push hA hz
  refine xpF C hW hI hin2 tbX7 tyX7 tyX7_ok nmX7 rfl 9 (by decide) w_1039 rfl rfl (ty := .array .long) (by decide +kernel) rfl rfl (fs' := [.int 0, .ref (gB G + (a + 1)), .int 0, .ref (gB G + (a + 2)), .int 0, .ref (gB G + (a + 3)), .ref (gB G + (a + 4)), .ref (gB G + (a + 5)), .ref (gB G + (a + 6)), .ref (gB G + (a + 7)), .int 0, .int 0, .int 0, .int 0, .int 0, .int 0, .int 0, .int 0, .int 0, .int 0, .int 0, .null, .null, .null, .null, .null, .null, .null, .null, .null, .null, .null, .null, .int 0, .null, .null, .null, .null, .null, .int 0, .null, .null, .null, .int 0, .null, .null, .int 0, .null, .null, .int 0, .int 0, .int 0, .null, .int 0, .null, .null, .int 0, .int 0, .int 0, .int 0, .int 0, .int 0, .null, .null, .null, .null, .null]) rfl (Nat.le_of_ble_eq_true rfl) dX7_init_63 (fun σx H locs hI hA hW => ?_)
  replace hZ := hZ.ag hA
  refine lv_aload_n C.1.1 C.1.2.1 dX7_init_66 rfl (lv_at hl 0 rfl) ?_
  refine lv_iconst (v := (-1)) C.1.1 C.1.2.1 dX7_init_67 (by decide) ?_
  refine xpR C hW hI tbX7 tyX7 tyX7_ok nmX7 rfl 17 (by decide) w_1047 rfl (ty := .int) (by decide +kernel) rfl rfl (fs' := [.int 0, .ref (gB G + (a + 1)), .int 0, .ref (gB G + (a + 2)), .int 0, .ref (gB G + (a + 3)), .ref (gB G + (a + 4)), .ref (gB G + (a + 5)), .ref (gB G + (a + 6)), .ref (gB G + (a + 7)), .int 0, .int 0, .int 0, .int 0, .int 0, .int 0, .int 0, .int (-1), .int 0, .int 0, .int 0, .null, .null, .null, .null, .null, .null, .null, .null, .null, .null, .null, .null, .int 0, .null, .null, .null, .null, .null, .int 0, .null, .null, .null, .int 0, .null, .null, .int 0, .null, .null, .int 0, .int 0, .int 0, .null, .int 0, .null, .null, .int 0, .int 0, .int 0, .int 0, .int 0, .int 0, .null, .null, .null, .null, .null]) rfl (Nat.le_of_ble_eq_true rfl) dX7_init_68 (fun σx H locs hI hA hW => ?_)
  replace hZ := hZ.ag hA
  refine lv_aload_n C.1.1 C.1.2.1 dX7_init_71 rfl (lv_at hl 0 rfl) ?_
  refine lv_bipush (v := 8) C.1.1 C.1.2.1 dX7_init_72 (by decide) ?_
  refine xnJ C hW hI w_177 (N := 8) (by decide) (by decide) (Nat.le_of_ble_eq_true rfl) (Nat.le_of_ble_eq_true rfl) (Nat.le_of_ble_eq_true rfl) rfl dX7_init_74 (fun Gx σx H hI hA hz hW => ?_)
  replace hZ := hZ.push hA hz
  refine xpF C hW hI hin2 tbX7 tyX7 tyX7_ok nmX7 rfl 21 (by decide) w_1051 rfl rfl (ty := .array .long) (by decide +kernel) rfl rfl (fs' := [.int 0, .ref (gB G + (a + 1)), .int 0, .ref (gB G + (a + 2)), .int 0, .ref (gB G + (a + 3)), .ref (gB G + (a + 4)), .ref (gB G + (a + 5)), .ref (gB G + (a + 6)), .ref (gB G + (a + 7)), .int 0, .int 0, .int 0, .int 0, .int 0, .int 0, .int 0, .int (-1), .int 0, .int 0, .int 0, .ref (gB G + (a + 8)), .null, .null, .null, .null, .null, .null, .null, .null, .null, .null, .null, .int 0, .null, .null, .null, .null, .null, .int 0, .null, .null, .null, .int 0, .null, .null, .int 0, .null, .null, .int 0, .int 0, .int 0, .null, .int 0, .null, .null, .int 0, .int 0, .int 0, .int 0, .int 0, .int 0, .null, .null, .null, .null, .null]) rfl (Nat.le_of_ble_eq_true rfl) dX7_init_76 (fun σx H locs hI hA hW => ?_)
  replace hZ := hZ.ag hA
  refine lv_aload_n C.1.1 C.1.2.1 dX7_init_79 rfl (lv_at hl 0 rfl) ?_
  refine lv_iconst (v := 2) C.1.1 C.1.2.1 dX7_init_80 (by decide) ?_
  refine xnI C hW hI w_178 (N := 2) (by decide) (by decide) (Nat.le_of_ble_eq_true rfl) (Nat.le_of_ble_eq_true rfl) (Nat.le_of_ble_eq_true rfl) rfl dX7_init_81 (fun Gx σx H hI hA hz hW => ?_)
  replace hZ := hZ.push hA hz
  refine xpF C hW hI hin2 tbX7 tyX7 tyX7_ok nmX7 rfl 22 (by decide) w_1052 rfl rfl (ty := .array .int) (by decide +kernel) rfl rfl (fs' := [.int 0, .ref (gB G + (a + 1)), .int 0, .ref (gB G + (a + 2)), .int 0, .ref (gB G + (a + 3)), .ref (gB G + (a + 4)), .ref (gB G + (a + 5)), .ref (gB G + (a + 6)), .ref (gB G + (a + 7)), .int 0, .int 0, .int 0, .int 0, .int 0, .int 0, .int 0, .int (-1), .int 0, .int 0, .int 0, .ref (gB G + (a + 8)), .ref (gB G + (a + 9)), .null, .null, .null, .null, .null, .null, .null, .null, .null, .null, .int 0, .null, .null, .null, .null, .null, .int 0, .null, .null, .null, .int 0, .null, .null, .int 0, .null, .null, .int 0, .int 0, .int 0, .null, .int 0, .null, .null, .int 0, .int 0, .int 0, .int 0, .int 0, .int 0, .null, .null, .null, .null, .null]) rfl (Nat.le_of_ble_eq_true rfl) dX7_init_83 (fun σx H locs hI hA hW => ?_)
  replace hZ := hZ.ag hA
  refine lv_aload_n C.1.1 C.1.2.1 dX7_init_86 rfl (lv_at hl 0 rfl) ?_
  refine lv_bipush (v := 16) C.1.1 C.1.2.1 dX7_init_87 (by decide) ?_
  refine xnI C hW hI w_178 (N := 16) (by decide) (by decide) (Nat.le_of_ble_eq_true rfl) (Nat.le_of_ble_eq_true rfl) (Nat.le_of_ble_eq_true rfl) rfl dX7_init_89 (fun Gx σx H hI hA hz hW => ?_)
  replace hZ := hZ.push hA hz
  refine xpF C hW hI hin2 tbX7 tyX7 tyX7_ok nmX7 rfl 23 (by decide) w_1053 rfl rfl (ty := .array .int) (by decide +kernel) rfl rfl (fs' := [.int 0, .ref (gB G + (a + 1)), .int 0, .ref (gB G + (a + 2)), .int 0, .ref (gB G + (a + 3)), .ref (gB G + (a + 4)), .ref (gB G + (a + 5)), .ref (gB G + (a + 6)), .ref (gB G + (a + 7)), .int 0, .int 0, .int 0, .int 0, .int 0, .int 0, .int 0, .int (-1), .int 0, .int 0, .int 0, .ref (gB G + (a + 8)), .ref (gB G + (a + 9)), .ref (gB G + (a + 10)), .null, .null, .null, .null, .null, .null, .null, .null, .null, .int 0, .null, .null, .null, .null, .null, .int 0, .null, .null, .null, .int 0, .null, .null, .int 0, .null, .null, .int 0, .int 0, .int 0, .null, .int 0, .null, .null, .int 0, .int 0, .int 0, .int 0, .int 0, .int 0, .null, .null, .null, .null, .null]) rfl (Nat.le_of_ble_eq_true rfl) dX7_init_91 (fun σx H locs hI hA hW => ?_)
  replace hZ := hZ.ag hA
  refine lv_aload_n C.1.1 C.1.2.1 dX7_init_94 rfl (lv_at hl 0 rfl) ?_
  refine lv_bipush (v := 16) C.1.1 C.1.2.1 dX7_init_95 (by decide) ?_
  refine xnI C hW hI w_178 (N := 16) (by decide) (by decide) (Nat.le_of_ble_eq_true rfl) (Nat.le_of_ble_eq_true rfl) (Nat.le_of_ble_eq_true rfl) rfl dX7_init_97 (fun Gx σx H hI hA hz hW => ?_)
  replace hZ := hZ.push hA hz
  refine xpF C hW hI hin2 tbX7 tyX7 tyX7_ok nmX7 rfl 24 (by decide) w_1054 rfl rfl (ty := .array .int) (by decide +kernel) rfl rfl (fs' := [.int 0, .ref (gB G + (a + 1)), .int 0, .ref (gB G + (a + 2)), .int 0, .ref (gB G + (a + 3)), .ref (gB G + (a + 4)), .ref (gB G + (a + 5)), .ref (gB G + (a + 6)), .ref (gB G + (a + 7)), .int 0, .int 0, .int 0, .int 0, .int 0, .int 0, .int 0, .int (-1), .int 0, .int 0, .int 0, .ref (gB G + (a + 8)), .ref (gB G + (a + 9)), .ref (gB G + (a + 10)), .ref (gB G + (a + 11)), .null, .null, .null, .null, .null, .null, .null, .null, .int 0, .null, .null, .null, .null, .null, .int 0, .null, .null, .null, .int 0, .null, .null, .int 0, .null, .null, .int 0, .int 0, .int 0, .null, .int 0, .null, .null, .int 0, .int 0, .int 0, .int 0, .int 0, .int 0, .null, .null, .null, .null, .null]) rfl (Nat.le_of_ble_eq_true rfl) dX7_init_99 (fun σx H locs hI hA hW => ?_)
  replace hZ := hZ.ag hA
  refine lv_aload_n C.1.1 C.1.2.1 dX7_init_102 rfl (lv_at hl 0 rfl) ?_
  refine lv_bipush (v := 16) C.1.1 C.1.2.1 dX7_init_103 (by decide) ?_
  refine xnI C hW hI w_178 (N := 16) (by decide) (by decide) (Nat.le_of_ble_eq_true rfl) (Nat.le_of_ble_eq_true rfl) (Nat.le_of_ble_eq_true rfl) rfl dX7_init_105 (fun Gx σx H hI hA hz hW => ?_)
  replace hZ := hZ.push hA hz
  refine xpF C hW hI hin2 tbX7 tyX7 tyX7_ok nmX7 rfl 25 (by decide) w_1055 rfl rfl (ty := .array .int) (by decide +kernel) rfl rfl (fs' := [.int 0, .ref (gB G + (a + 1)), .int 0, .ref (gB G + (a + 2)), .int 0, .ref (gB G + (a + 3)), .ref (gB G + (a + 4)), .ref (gB G + (a + 5)), .ref (gB G + (a + 6)), .ref (gB G + (a + 7)), .int 0, .int 0, .int 0, .int 0, .int 0, .int 0, .int 0, .int (-1), .int 0, .int 0, .int 0, .ref (gB G + (a + 8)), .ref (gB G + (a + 9)), .ref (gB G + (a + 10)), .ref (gB G + (a + 11)), .ref (gB G + (a + 12)), .null, .null, .null, .null, .null, .null, .null, .int 0, .null, .null, .null, .null, .null, .int 0, .null, .null, .null, .int 0, .null, .null, .int 0, .null, .null, .int 0, .int 0, .int 0, .null, .int 0, .null, .null, .int 0, .int 0, .int 0, .int 0, .int 0, .int 0, .null, .null, .null, .null, .null]) rfl (Nat.le_of_ble_eq_true rfl) dX7_init_107 (fun σx H locs hI hA hW => ?_)
  replace hZ := hZ.ag hA
  refine lv_aload_n C.1.1 C.1.2.1 dX7_init_110 rfl (lv_at hl 0 rfl) ?_
  refine lv_bipush (v := 16) C.1.1 C.1.2.1 dX7_init_111 (by decide) ?_
  refine xnZ C hW hI w_1232 (N := 16) (by decide) (by decide) (Nat.le_of_ble_eq_true rfl) (Nat.le_of_ble_eq_true rfl) (Nat.le_of_ble_eq_true rfl) rfl dX7_init_113 (fun Gx σx H hI hA hz hW => ?_)
  replace hZ := hZ.push hA hz
  refine xpF C hW hI hin2 tbX7 tyX7 tyX7_ok nmX7 rfl 26 (by decide) w_1056 rfl rfl (ty := .array .boolean) (by decide +kernel) rfl rfl (fs' := [.int 0, .ref (gB G + (a + 1)), .int 0, .ref (gB G + (a + 2)), .int 0, .ref (gB G + (a + 3)), .ref (gB G + (a + 4)), .ref (gB G + (a + 5)), .ref (gB G + (a + 6)), .ref (gB G + (a + 7)), .int 0, .int 0, .int 0, .int 0, .int 0, .int 0, .int 0, .int (-1), .int 0, .int 0, .int 0, .ref (gB G + (a + 8)), .ref (gB G + (a + 9)), .ref (gB G + (a + 10)), .ref (gB G + (a + 11)), .ref (gB G + (a + 12)), .ref (gB G + (a + 13)), .null, .null, .null, .null, .null, .null, .int 0, .null, .null, .null, .null, .null, .int 0, .null, .null, .null, .int 0, .null, .null, .int 0, .null, .null, .int 0, .int 0, .int 0, .null, .int 0, .null, .null, .int 0, .int 0, .int 0, .int 0, .int 0, .int 0, .null, .null, .null, .null, .null]) rfl (Nat.le_of_ble_eq_true rfl) dX7_init_115 (fun σx H locs hI hA hW => ?_)
  replace hZ := hZ.ag hA
  refine lv_aload_n C.1.1 C.1.2.1 dX7_init_118 rfl (lv_at hl 0 rfl) ?_
  refine lv_iconst (v := 2) C.1.1 C.1.2.1 dX7_init_119 (by decide) ?_
  refine xnI C hW hI w_178 (N := 2) (by decide) (by decide) (Nat.le_of_ble_eq_true rfl) (Nat.le_of_ble_eq_true rfl) (Nat.le_of_ble_eq_true rfl) rfl dX7_init_120 (fun Gx σx H hI hA hz hW => ?_)
  replace hZ := hZ.push hA hz
  refine xpF C hW hI hin2 tbX7 tyX7 tyX7_ok nmX7 rfl 27 (by decide) w_1057 rfl rfl (ty := .array .int) (by decide +kernel) rfl rfl (fs' := [.int 0, .ref (gB G + (a + 1)), .int 0, .ref (gB G + (a + 2)), .int 0, .ref (gB G + (a + 3)), .ref (gB G + (a + 4)), .ref (gB G + (a + 5)), .ref (gB G + (a + 6)), .ref (gB G + (a + 7)), .int 0, .int 0, .int 0, .int 0, .int 0, .int 0, .int 0, .int (-1), .int 0, .int 0, .int 0, .ref (gB G + (a + 8)), .ref (gB G + (a + 9)), .ref (gB G + (a + 10)), .ref (gB G + (a + 11)), .ref (gB G + (a + 12)), .ref (gB G + (a + 13)), .ref (gB G + (a + 14)), .null, .null, .null, .null, .null, .int 0, .null, .null, .null, .null, .null, .int 0, .null, .null, .null, .int 0, .null, .null, .int 0, .null, .null, .int 0, .int 0, .int 0, .null, .int 0, .null, .null, .int 0, .int 0, .int 0, .int 0, .int 0, .int 0, .null, .null, .null, .null, .null]) rfl (Nat.le_of_ble_eq_true rfl) dX7_init_122 (fun σx H locs hI hA hW => ?_)
  replace hZ := hZ.ag hA
  refine lv_aload_n C.1.1 C.1.2.1 dX7_init_125 rfl (lv_at hl 0 rfl) ?_
  refine lv_bipush (v := 12) C.1.1 C.1.2.1 dX7_init_126 (by decide) ?_
  refine xnI C hW hI w_178 (N := 12) (by decide) (by decide) (Nat.le_of_ble_eq_true rfl) (Nat.le_of_ble_eq_true rfl) (Nat.le_of_ble_eq_true rfl) rfl dX7_init_128 (fun Gx σx H hI hA hz hW => ?_)
  replace hZ := hZ.push hA hz
  refine xpF C hW hI hin2 tbX7 tyX7 tyX7_ok nmX7 rfl 28 (by decide) w_1058 rfl rfl (ty := .array .int) (by decide +kernel) rfl rfl (fs' := [.int 0, .ref (gB G + (a + 1)), .int 0, .ref (gB G + (a + 2)), .int 0, .ref (gB G + (a + 3)), .ref (gB G + (a + 4)), .ref (gB G + (a + 5)), .ref (gB G + (a + 6)), .ref (gB G + (a + 7)), .int 0, .int 0, .int 0, .int 0, .int 0, .int 0, .int 0, .int (-1), .int 0, .int 0, .int 0, .ref (gB G + (a + 8)), .ref (gB G + (a + 9)), .ref (gB G + (a + 10)), .ref (gB G + (a + 11)), .ref (gB G + (a + 12)), .ref (gB G + (a + 13)), .ref (gB G + (a + 14)), .ref (gB G + (a + 15)), .null, .null, .null, .null, .int 0, .null, .null, .null, .null, .null, .int 0, .null, .null, .null, .int 0, .null, .null, .int 0, .null, .null, .int 0, .int 0, .int 0, .null, .int 0, .null, .null, .int 0, .int 0, .int 0, .int 0, .int 0, .int 0, .null, .null, .null, .null, .null]) rfl (Nat.le_of_ble_eq_true rfl) dX7_init_130 (fun σx H locs hI hA hW => ?_)
  replace hZ := hZ.ag hA
  refine lv_aload_n C.1.1 C.1.2.1 dX7_init_133 rfl (lv_at hl 0 rfl) ?_
  refine lv_bipush (v := 12) C.1.1 C.1.2.1 dX7_init_134 (by decide) ?_
  refine xnI C hW hI w_178 (N := 12) (by decide) (by decide) (Nat.le_of_ble_eq_true rfl) (Nat.le_of_ble_eq_true rfl) (Nat.le_of_ble_eq_true rfl) rfl dX7_init_136 (fun Gx σx H hI hA hz hW => ?_)
  replace hZ := hZ.push hA hz
  refine xpF C hW hI hin2 tbX7 tyX7 tyX7_ok nmX7 rfl 29 (by decide) w_1059 rfl rfl (ty := .array .int) (by decide +kernel) rfl rfl (fs' := [.int 0, .ref (gB G + (a + 1)), .int 0, .ref (gB G + (a + 2)), .int 0, .ref (gB G + (a + 3)), .ref (gB G + (a + 4)), .ref (gB G + (a + 5)), .ref (gB G + (a + 6)), .ref (gB G + (a + 7)), .int 0, .int 0, .int 0, .int 0, .int 0, .int 0, .int 0, .int (-1), .int 0, .int 0, .int 0, .ref (gB G + (a + 8)), .ref (gB G + (a + 9)), .ref (gB G + (a + 10)), .ref (gB G + (a + 11)), .ref (gB G + (a + 12)), .ref (gB G + (a + 13)), .ref (gB G + (a + 14)), .ref (gB G + (a + 15)), .ref (gB G + (a + 16)), .null, .null, .null, .int 0, .null, .null, .null, .null, .null, .int 0, .null, .null, .null, .int 0, .null, .null, .int 0, .null, .null, .int 0, .int 0, .int 0, .null, .int 0, .null, .null, .int 0, .int 0, .int 0, .int 0, .int 0, .int 0, .null, .null, .null, .null, .null]) rfl (Nat.le_of_ble_eq_true rfl) dX7_init_138 (fun σx H locs hI hA hW => ?_)
  replace hZ := hZ.ag hA
  refine lv_aload_n C.1.1 C.1.2.1 dX7_init_141 rfl (lv_at hl 0 rfl) ?_
  refine lv_iconst (v := 2) C.1.1 C.1.2.1 dX7_init_142 (by decide) ?_
  refine xnI C hW hI w_178 (N := 2) (by decide) (by decide) (Nat.le_of_ble_eq_true rfl) (Nat.le_of_ble_eq_true rfl) (Nat.le_of_ble_eq_true rfl) rfl dX7_init_143 (fun Gx σx H hI hA hz hW => ?_)
  replace hZ := hZ.push hA hz
  refine xpF C hW hI hin2 tbX7 tyX7 tyX7_ok nmX7 rfl 30 (by decide) w_1060 rfl rfl (ty := .array .int) (by decide +kernel) rfl rfl (fs' := [.int 0, .ref (gB G + (a + 1)), .int 0, .ref (gB G + (a + 2)), .int 0, .ref (gB G + (a + 3)), .ref (gB G + (a + 4)), .ref (gB G + (a + 5)), .ref (gB G + (a + 6)), .ref (gB G + (a + 7)), .int 0, .int 0, .int 0, .int 0, .int 0, .int 0, .int 0, .int (-1), .int 0, .int 0, .int 0, .ref (gB G + (a + 8)), .ref (gB G + (a + 9)), .ref (gB G + (a + 10)), .ref (gB G + (a + 11)), .ref (gB G + (a + 12)), .ref (gB G + (a + 13)), .ref (gB G + (a + 14)), .ref (gB G + (a + 15)), .ref (gB G + (a + 16)), .ref (gB G + (a + 17)), .null, .null, .int 0, .null, .null, .null, .null, .null, .int 0, .null, .null, .null, .int 0, .null, .null, .int 0, .null, .null, .int 0, .int 0, .int 0, .null, .int 0, .null, .null, .int 0, .int 0, .int 0, .int 0, .int 0, .int 0, .null, .null, .null, .null, .null]) rfl (Nat.le_of_ble_eq_true rfl) dX7_init_145 (fun σx H locs hI hA hW => ?_)
  replace hZ := hZ.ag hA
  refine lv_aload_n C.1.1 C.1.2.1 dX7_init_148 rfl (lv_at hl 0 rfl) ?_
  refine lv_bipush (v := 8) C.1.1 C.1.2.1 dX7_init_149 (by decide) ?_
  refine xnI C hW hI w_178 (N := 8) (by decide) (by decide) (Nat.le_of_ble_eq_true rfl) (Nat.le_of_ble_eq_true rfl) (Nat.le_of_ble_eq_true rfl) rfl dX7_init_151 (fun Gx σx H hI hA hz hW => ?_)
  replace hZ := hZ.push hA hz
  refine xpF C hW hI hin2 tbX7 tyX7 tyX7_ok nmX7 rfl 31 (by decide) w_1061 rfl rfl (ty := .array .int) (by decide +kernel) rfl rfl (fs' := [.int 0, .ref (gB G + (a + 1)), .int 0, .ref (gB G + (a + 2)), .int 0, .ref (gB G + (a + 3)), .ref (gB G + (a + 4)), .ref (gB G + (a + 5)), .ref (gB G + (a + 6)), .ref (gB G + (a + 7)), .int 0, .int 0, .int 0, .int 0, .int 0, .int 0, .int 0, .int (-1), .int 0, .int 0, .int 0, .ref (gB G + (a + 8)), .ref (gB G + (a + 9)), .ref (gB G + (a + 10)), .ref (gB G + (a + 11)), .ref (gB G + (a + 12)), .ref (gB G + (a + 13)), .ref (gB G + (a + 14)), .ref (gB G + (a + 15)), .ref (gB G + (a + 16)), .ref (gB G + (a + 17)), .ref (gB G + (a + 18)), .null, .int 0, .null, .null, .null, .null, .null, .int 0, .null, .null, .null, .int 0, .null, .null, .int 0, .null, .null, .int 0, .int 0, .int 0, .null, .int 0, .null, .null, .int 0, .int 0, .int 0, .int 0, .int 0, .int 0, .null, .null, .null, .null, .null]) rfl (Nat.le_of_ble_eq_true rfl) dX7_init_153 (fun σx H locs hI hA hW => ?_)
  replace hZ := hZ.ag hA
  refine lv_aload_n C.1.1 C.1.2.1 dX7_init_156 rfl (lv_at hl 0 rfl) ?_
  refine lv_bipush (v := 8) C.1.1 C.1.2.1 dX7_init_157 (by decide) ?_
  refine xnI C hW hI w_178 (N := 8) (by decide) (by decide) (Nat.le_of_ble_eq_true rfl) (Nat.le_of_ble_eq_true rfl) (Nat.le_of_ble_eq_true rfl) rfl dX7_init_159 (fun Gx σx H hI hA hz hW => ?_)
  replace hZ := hZ.push hA hz
  refine xpF C hW hI hin2 tbX7 tyX7 tyX7_ok nmX7 rfl 32 (by decide) w_1062 rfl rfl (ty := .array .int) (by decide +kernel) rfl rfl (fs' := [.int 0, .ref (gB G + (a + 1)), .int 0, .ref (gB G + (a + 2)), .int 0, .ref (gB G + (a + 3)), .ref (gB G + (a + 4)), .ref (gB G + (a + 5)), .ref (gB G + (a + 6)), .ref (gB G + (a + 7)), .int 0, .int 0, .int 0, .int 0, .int 0, .int 0, .int 0, .int (-1), .int 0, .int 0, .int 0, .ref (gB G + (a + 8)), .ref (gB G + (a + 9)), .ref (gB G + (a + 10)), .ref (gB G + (a + 11)), .ref (gB G + (a + 12)), .ref (gB G + (a + 13)), .ref (gB G + (a + 14)), .ref (gB G + (a + 15)), .ref (gB G + (a + 16)), .ref (gB G + (a + 17)), .ref (gB G + (a + 18)), .ref (gB G + (a + 19)), .int 0, .null, .null, .null, .null, .null, .int 0, .null, .null, .null, .int 0, .null, .null, .int 0, .null, .null, .int 0, .int 0, .int 0, .null, .int 0, .null, .null, .int 0, .int 0, .int 0, .int 0, .int 0, .int 0, .null, .null, .null, .null, .null]) rfl (Nat.le_of_ble_eq_true rfl) dX7_init_161 (fun σx H locs hI hA hW => ?_)
  replace hZ := hZ.ag hA
  refine lv_aload_n C.1.1 C.1.2.1 dX7_init_164 rfl (lv_at hl 0 rfl) ?_
  refine lv_sipush (v := 260) C.1.1 C.1.2.1 dX7_init_165 (by decide) ?_
  refine xnZ C hW hI w_1232 (N := 260) (by decide) (by decide) (Nat.le_of_ble_eq_true rfl) (Nat.le_of_ble_eq_true rfl) (Nat.le_of_ble_eq_true rfl) rfl dX7_init_168 (fun Gx σx H hI hA hz hW => ?_)
  replace hZ := hZ.push hA hz
  refine xpF C hW hI hin2 tbX7 tyX7 tyX7_ok nmX7 rfl 34 (by decide) w_1064 rfl rfl (ty := .array .boolean) (by decide +kernel) rfl rfl (fs' := [.int 0, .ref (gB G + (a + 1)), .int 0, .ref (gB G + (a + 2)), .int 0, .ref (gB G + (a + 3)), .ref (gB G + (a + 4)), .ref (gB G + (a + 5)), .ref (gB G + (a + 6)), .ref (gB G + (a + 7)), .int 0, .int 0, .int 0, .int 0, .int 0, .int 0, .int 0, .int (-1), .int 0, .int 0, .int 0, .ref (gB G + (a + 8)), .ref (gB G + (a + 9)), .ref (gB G + (a + 10)), .ref (gB G + (a + 11)), .ref (gB G + (a + 12)), .ref (gB G + (a + 13)), .ref (gB G + (a + 14)), .ref (gB G + (a + 15)), .ref (gB G + (a + 16)), .ref (gB G + (a + 17)), .ref (gB G + (a + 18)), .ref (gB G + (a + 19)), .int 0, .ref (gB G + (a + 20)), .null, .null, .null, .null, .int 0, .null, .null, .null, .int 0, .null, .null, .int 0, .null, .null, .int 0, .int 0, .int 0, .null, .int 0, .null, .null, .int 0, .int 0, .int 0, .int 0, .int 0, .int 0, .null, .null, .null, .null, .null]) rfl (Nat.le_of_ble_eq_true rfl) dX7_init_170 (fun σx H locs hI hA hW => ?_)
  replace hZ := hZ.ag hA
  refine lv_aload_n C.1.1 C.1.2.1 dX7_init_173 rfl (lv_at hl 0 rfl) ?_
  refine lv_sipush (v := 260) C.1.1 C.1.2.1 dX7_init_174 (by decide) ?_
  refine xnI C hW hI w_178 (N := 260) (by decide) (by decide) (Nat.le_of_ble_eq_true rfl) (Nat.le_of_ble_eq_true rfl) (Nat.le_of_ble_eq_true rfl) rfl dX7_init_177 (fun Gx σx H hI hA hz hW => ?_)
  replace hZ := hZ.push hA hz
  refine xpF C hW hI hin2 tbX7 tyX7 tyX7_ok nmX7 rfl 35 (by decide) w_1065 rfl rfl (ty := .array .int) (by decide +kernel) rfl rfl (fs' := [.int 0, .ref (gB G + (a + 1)), .int 0, .ref (gB G + (a + 2)), .int 0, .ref (gB G + (a + 3)), .ref (gB G + (a + 4)), .ref (gB G + (a + 5)), .ref (gB G + (a + 6)), .ref (gB G + (a + 7)), .int 0, .int 0, .int 0, .int 0, .int 0, .int 0, .int 0, .int (-1), .int 0, .int 0, .int 0, .ref (gB G + (a + 8)), .ref (gB G + (a + 9)), .ref (gB G + (a + 10)), .ref (gB G + (a + 11)), .ref (gB G + (a + 12)), .ref (gB G + (a + 13)), .ref (gB G + (a + 14)), .ref (gB G + (a + 15)), .ref (gB G + (a + 16)), .ref (gB G + (a + 17)), .ref (gB G + (a + 18)), .ref (gB G + (a + 19)), .int 0, .ref (gB G + (a + 20)), .ref (gB G + (a + 21)), .null, .null, .null, .int 0, .null, .null, .null, .int 0, .null, .null, .int 0, .null, .null, .int 0, .int 0, .int 0, .null, .int 0, .null, .null, .int 0, .int 0, .int 0, .int 0, .int 0, .int 0, .null, .null, .null, .null, .null]) rfl (Nat.le_of_ble_eq_true rfl) dX7_init_179 (fun σx H locs hI hA hW => ?_)
  replace hZ := hZ.ag hA
  refine lv_aload_n C.1.1 C.1.2.1 dX7_init_182 rfl (lv_at hl 0 rfl) ?_
  refine lv_sipush (v := 260) C.1.1 C.1.2.1 dX7_init_183 (by decide) ?_
  refine xnI C hW hI w_178 (N := 260) (by decide) (by decide) (Nat.le_of_ble_eq_true rfl) (Nat.le_of_ble_eq_true rfl) (Nat.le_of_ble_eq_true rfl) rfl dX7_init_186 (fun Gx σx H hI hA hz hW => ?_)
  replace hZ := hZ.push hA hz
  refine xpF C hW hI hin2 tbX7 tyX7 tyX7_ok nmX7 rfl 36 (by decide) w_1066 rfl rfl (ty := .array .int) (by decide +kernel) rfl rfl (fs' := [.int 0, .ref (gB G + (a + 1)), .int 0, .ref (gB G + (a + 2)), .int 0, .ref (gB G + (a + 3)), .ref (gB G + (a + 4)), .ref (gB G + (a + 5)), .ref (gB G + (a + 6)), .ref (gB G + (a + 7)), .int 0, .int 0, .int 0, .int 0, .int 0, .int 0, .int 0, .int (-1), .int 0, .int 0, .int 0, .ref (gB G + (a + 8)), .ref (gB G + (a + 9)), .ref (gB G + (a + 10)), .ref (gB G + (a + 11)), .ref (gB G + (a + 12)), .ref (gB G + (a + 13)), .ref (gB G + (a + 14)), .ref (gB G + (a + 15)), .ref (gB G + (a + 16)), .ref (gB G + (a + 17)), .ref (gB G + (a + 18)), .ref (gB G + (a + 19)), .int 0, .ref (gB G + (a + 20)), .ref (gB G + (a + 21)), .ref (gB G + (a + 22)), .null, .null, .int 0, .null, .null, .null, .int 0, .null, .null, .int 0, .null, .null, .int 0, .int 0, .int 0, .null, .int 0, .null, .null, .int 0, .int 0, .int 0, .int 0, .int 0, .int 0, .null, .null, .null, .null, .null]) rfl (Nat.le_of_ble_eq_true rfl) dX7_init_188 (fun σx H locs hI hA hW => ?_)
  replace hZ := hZ.ag hA
  refine lv_aload_n C.1.1 C.1.2.1 dX7_init_191 rfl (lv_at hl 0 rfl) ?_
  refine lv_sipush (v := 260) C.1.1 C.1.2.1 dX7_init_192 (by decide) ?_
  refine xnI C hW hI w_178 (N := 260) (by decide) (by decide) (Nat.le_of_ble_eq_true rfl) (Nat.le_of_ble_eq_true rfl) (Nat.le_of_ble_eq_true rfl) rfl dX7_init_195 (fun Gx σx H hI hA hz hW => ?_)
  replace hZ := hZ.push hA hz
  refine xpF C hW hI hin2 tbX7 tyX7 tyX7_ok nmX7 rfl 37 (by decide) w_1067 rfl rfl (ty := .array .int) (by decide +kernel) rfl rfl (fs' := [.int 0, .ref (gB G + (a + 1)), .int 0, .ref (gB G + (a + 2)), .int 0, .ref (gB G + (a + 3)), .ref (gB G + (a + 4)), .ref (gB G + (a + 5)), .ref (gB G + (a + 6)), .ref (gB G + (a + 7)), .int 0, .int 0, .int 0, .int 0, .int 0, .int 0, .int 0, .int (-1), .int 0, .int 0, .int 0, .ref (gB G + (a + 8)), .ref (gB G + (a + 9)), .ref (gB G + (a + 10)), .ref (gB G + (a + 11)), .ref (gB G + (a + 12)), .ref (gB G + (a + 13)), .ref (gB G + (a + 14)), .ref (gB G + (a + 15)), .ref (gB G + (a + 16)), .ref (gB G + (a + 17)), .ref (gB G + (a + 18)), .ref (gB G + (a + 19)), .int 0, .ref (gB G + (a + 20)), .ref (gB G + (a + 21)), .ref (gB G + (a + 22)), .ref (gB G + (a + 23)), .null, .int 0, .null, .null, .null, .int 0, .null, .null, .int 0, .null, .null, .int 0, .int 0, .int 0, .null, .int 0, .null, .null, .int 0, .int 0, .int 0, .int 0, .int 0, .int 0, .null, .null, .null, .null, .null]) rfl (Nat.le_of_ble_eq_true rfl) dX7_init_197 (fun σx H locs hI hA hW => ?_)
  replace hZ := hZ.ag hA
  refine lv_aload_n C.1.1 C.1.2.1 dX7_init_200 rfl (lv_at hl 0 rfl) ?_
  refine lv_sipush (v := 260) C.1.1 C.1.2.1 dX7_init_201 (by decide) ?_
  refine xnI C hW hI w_178 (N := 260) (by decide) (by decide) (Nat.le_of_ble_eq_true rfl) (Nat.le_of_ble_eq_true rfl) (Nat.le_of_ble_eq_true rfl) rfl dX7_init_204 (fun Gx σx H hI hA hz hW => ?_)
  replace hZ := hZ.push hA hz
  refine xpF C hW hI hin2 tbX7 tyX7 tyX7_ok nmX7 rfl 38 (by decide) w_1068 rfl rfl (ty := .array .int) (by decide +kernel) rfl rfl (fs' := [.int 0, .ref (gB G + (a + 1)), .int 0, .ref (gB G + (a + 2)), .int 0, .ref (gB G + (a + 3)), .ref (gB G + (a + 4)), .ref (gB G + (a + 5)), .ref (gB G + (a + 6)), .ref (gB G + (a + 7)), .int 0, .int 0, .int 0, .int 0, .int 0, .int 0, .int 0, .int (-1), .int 0, .int 0, .int 0, .ref (gB G + (a + 8)), .ref (gB G + (a + 9)), .ref (gB G + (a + 10)), .ref (gB G + (a + 11)), .ref (gB G + (a + 12)), .ref (gB G + (a + 13)), .ref (gB G + (a + 14)), .ref (gB G + (a + 15)), .ref (gB G + (a + 16)), .ref (gB G + (a + 17)), .ref (gB G + (a + 18)), .ref (gB G + (a + 19)), .int 0, .ref (gB G + (a + 20)), .ref (gB G + (a + 21)), .ref (gB G + (a + 22)), .ref (gB G + (a + 23)), .ref (gB G + (a + 24)), .int 0, .null, .null, .null, .int 0, .null, .null, .int 0, .null, .null, .int 0, .int 0, .int 0, .null, .int 0, .null, .null, .int 0, .int 0, .int 0, .int 0, .int 0, .int 0, .null, .null, .null, .null, .null]) rfl (Nat.le_of_ble_eq_true rfl) dX7_init_206 (fun σx H locs hI hA hW => ?_)
  replace hZ := hZ.ag hA
  refine lv_aload_n C.1.1 C.1.2.1 dX7_init_209 rfl (lv_at hl 0 rfl) ?_
  refine lv_sipush (v := 840) C.1.1 C.1.2.1 dX7_init_210 (by decide) ?_
  refine xnI C hW hI w_178 (N := 840) (by decide) (by decide) (Nat.le_of_ble_eq_true rfl) (Nat.le_of_ble_eq_true rfl) (Nat.le_of_ble_eq_true rfl) rfl dX7_init_213 (fun Gx σx H hI hA hz hW => ?_)
  replace hZ := hZ.push hA hz
  refine xpF C hW hI hin2 tbX7 tyX7 tyX7_ok nmX7 rfl 40 (by decide) w_1070 rfl rfl (ty := .array .int) (by decide +kernel) rfl rfl (fs' := [.int 0, .ref (gB G + (a + 1)), .int 0, .ref (gB G + (a + 2)), .int 0, .ref (gB G + (a + 3)), .ref (gB G + (a + 4)), .ref (gB G + (a + 5)), .ref (gB G + (a + 6)), .ref (gB G + (a + 7)), .int 0, .int 0, .int 0, .int 0, .int 0, .int 0, .int 0, .int (-1), .int 0, .int 0, .int 0, .ref (gB G + (a + 8)), .ref (gB G + (a + 9)), .ref (gB G + (a + 10)), .ref (gB G + (a + 11)), .ref (gB G + (a + 12)), .ref (gB G + (a + 13)), .ref (gB G + (a + 14)), .ref (gB G + (a + 15)), .ref (gB G + (a + 16)), .ref (gB G + (a + 17)), .ref (gB G + (a + 18)), .ref (gB G + (a + 19)), .int 0, .ref (gB G + (a + 20)), .ref (gB G + (a + 21)), .ref (gB G + (a + 22)), .ref (gB G + (a + 23)), .ref (gB G + (a + 24)), .int 0, .ref (gB G + (a + 25)), .null, .null, .int 0, .null, .null, .int 0, .null, .null, .int 0, .int 0, .int 0, .null, .int 0, .null, .null, .int 0, .int 0, .int 0, .int 0, .int 0, .int 0, .null, .null, .null, .null, .null]) rfl (Nat.le_of_ble_eq_true rfl) dX7_init_215 (fun σx H locs hI hA hW => ?_)
  replace hZ := hZ.ag hA
  refine lv_aload_n C.1.1 C.1.2.1 dX7_init_218 rfl (lv_at hl 0 rfl) ?_
  refine lv_sipush (v := 840) C.1.1 C.1.2.1 dX7_init_219 (by decide) ?_
  refine xnI C hW hI w_178 (N := 840) (by decide) (by decide) (Nat.le_of_ble_eq_true rfl) (Nat.le_of_ble_eq_true rfl) (Nat.le_of_ble_eq_true rfl) rfl dX7_init_222 (fun Gx σx H hI hA hz hW => ?_)
  replace hZ := hZ.push hA hz
  refine xpF C hW hI hin2 tbX7 tyX7 tyX7_ok nmX7 rfl 41 (by decide) w_1071 rfl rfl (ty := .array .int) (by decide +kernel) rfl rfl (fs' := [.int 0, .ref (gB G + (a + 1)), .int 0, .ref (gB G + (a + 2)), .int 0, .ref (gB G + (a + 3)), .ref (gB G + (a + 4)), .ref (gB G + (a + 5)), .ref (gB G + (a + 6)), .ref (gB G + (a + 7)), .int 0, .int 0, .int 0, .int 0, .int 0, .int 0, .int 0, .int (-1), .int 0, .int 0, .int 0, .ref (gB G + (a + 8)), .ref (gB G + (a + 9)), .ref (gB G + (a + 10)), .ref (gB G + (a + 11)), .ref (gB G + (a + 12)), .ref (gB G + (a + 13)), .ref (gB G + (a + 14)), .ref (gB G + (a + 15)), .ref (gB G + (a + 16)), .ref (gB G + (a + 17)), .ref (gB G + (a + 18)), .ref (gB G + (a + 19)), .int 0, .ref (gB G + (a + 20)), .ref (gB G + (a + 21)), .ref (gB G + (a + 22)), .ref (gB G + (a + 23)), .ref (gB G + (a + 24)), .int 0, .ref (gB G + (a + 25)), .ref (gB G + (a + 26)), .null, .int 0, .null, .null, .int 0, .null, .null, .int 0, .int 0, .int 0, .null, .int 0, .null, .null, .int 0, .int 0, .int 0, .int 0, .int 0, .int 0, .null, .null, .null, .null, .null]) rfl (Nat.le_of_ble_eq_true rfl) dX7_init_224 (fun σx H locs hI hA hW => ?_)
  replace hZ := hZ.ag hA
  refine lv_aload_n C.1.1 C.1.2.1 dX7_init_227 rfl (lv_at hl 0 rfl) ?_
  refine lv_bipush (v := 64) C.1.1 C.1.2.1 dX7_init_228 (by decide) ?_
  refine xnI C hW hI w_178 (N := 64) (by decide) (by decide) (Nat.le_of_ble_eq_true rfl) (Nat.le_of_ble_eq_true rfl) (Nat.le_of_ble_eq_true rfl) rfl dX7_init_230 (fun Gx σx H hI hA hz hW => ?_)
  replace hZ := hZ.push hA hz
  refine xpF C hW hI hin2 tbX7 tyX7 tyX7_ok nmX7 rfl 42 (by decide) w_1072 rfl rfl (ty := .array .int) (by decide +kernel) rfl rfl (fs' := [.int 0, .ref (gB G + (a + 1)), .int 0, .ref (gB G + (a + 2)), .int 0, .ref (gB G + (a + 3)), .ref (gB G + (a + 4)), .ref (gB G + (a + 5)), .ref (gB G + (a + 6)), .ref (gB G + (a + 7)), .int 0, .int 0, .int 0, .int 0, .int 0, .int 0, .int 0, .int (-1), .int 0, .int 0, .int 0, .ref (gB G + (a + 8)), .ref (gB G + (a + 9)), .ref (gB G + (a + 10)), .ref (gB G + (a + 11)), .ref (gB G + (a + 12)), .ref (gB G + (a + 13)), .ref (gB G + (a + 14)), .ref (gB G + (a + 15)), .ref (gB G + (a + 16)), .ref (gB G + (a + 17)), .ref (gB G + (a + 18)), .ref (gB G + (a + 19)), .int 0, .ref (gB G + (a + 20)), .ref (gB G + (a + 21)), .ref (gB G + (a + 22)), .ref (gB G + (a + 23)), .ref (gB G + (a + 24)), .int 0, .ref (gB G + (a + 25)), .ref (gB G + (a + 26)), .ref (gB G + (a + 27)), .int 0, .null, .null, .int 0, .null, .null, .int 0, .int 0, .int 0, .null, .int 0, .null, .null, .int 0, .int 0, .int 0, .int 0, .int 0, .int 0, .null, .null, .null, .null, .null]) rfl (Nat.le_of_ble_eq_true rfl) dX7_init_232 (fun σx H locs hI hA hW => ?_)
  replace hZ := hZ.ag hA
  refine lv_aload_n C.1.1 C.1.2.1 dX7_init_235 rfl (lv_at hl 0 rfl) ?_
  refine lv_bipush (v := 9) C.1.1 C.1.2.1 dX7_init_236 (by decide) ?_
  refine xnI C hW hI w_178 (N := 9) (by decide) (by decide) (Nat.le_of_ble_eq_true rfl) (Nat.le_of_ble_eq_true rfl) (Nat.le_of_ble_eq_true rfl) rfl dX7_init_238 (fun Gx σx H hI hA hz hW => ?_)
  replace hZ := hZ.push hA hz
  refine xpF C hW hI hin2 tbX7 tyX7 tyX7_ok nmX7 rfl 44 (by decide) w_1074 rfl rfl (ty := .array .int) (by decide +kernel) rfl rfl (fs' := [.int 0, .ref (gB G + (a + 1)), .int 0, .ref (gB G + (a + 2)), .int 0, .ref (gB G + (a + 3)), .ref (gB G + (a + 4)), .ref (gB G + (a + 5)), .ref (gB G + (a + 6)), .ref (gB G + (a + 7)), .int 0, .int 0, .int 0, .int 0, .int 0, .int 0, .int 0, .int (-1), .int 0, .int 0, .int 0, .ref (gB G + (a + 8)), .ref (gB G + (a + 9)), .ref (gB G + (a + 10)), .ref (gB G + (a + 11)), .ref (gB G + (a + 12)), .ref (gB G + (a + 13)), .ref (gB G + (a + 14)), .ref (gB G + (a + 15)), .ref (gB G + (a + 16)), .ref (gB G + (a + 17)), .ref (gB G + (a + 18)), .ref (gB G + (a + 19)), .int 0, .ref (gB G + (a + 20)), .ref (gB G + (a + 21)), .ref (gB G + (a + 22)), .ref (gB G + (a + 23)), .ref (gB G + (a + 24)), .int 0, .ref (gB G + (a + 25)), .ref (gB G + (a + 26)), .ref (gB G + (a + 27)), .int 0, .ref (gB G + (a + 28)), .null, .int 0, .null, .null, .int 0, .int 0, .int 0, .null, .int 0, .null, .null, .int 0, .int 0, .int 0, .int 0, .int 0, .int 0, .null, .null, .null, .null, .null]) rfl (Nat.le_of_ble_eq_true rfl) dX7_init_240 (fun σx H locs hI hA hW => ?_)
  replace hZ := hZ.ag hA
  refine lv_aload_n C.1.1 C.1.2.1 dX7_init_243 rfl (lv_at hl 0 rfl) ?_
  refine lv_sipush (v := 400) C.1.1 C.1.2.1 dX7_init_244 (by decide) ?_
  refine xnI C hW hI w_178 (N := 400) (by decide) (by decide) (Nat.le_of_ble_eq_true rfl) (Nat.le_of_ble_eq_true rfl) (Nat.le_of_ble_eq_true rfl) rfl dX7_init_247 (fun Gx σx H hI hA hz hW => ?_)
  replace hZ := hZ.push hA hz
  refine xpF C hW hI hin2 tbX7 tyX7 tyX7_ok nmX7 rfl 45 (by decide) w_1075 rfl rfl (ty := .array .int) (by decide +kernel) rfl rfl (fs' := [.int 0, .ref (gB G + (a + 1)), .int 0, .ref (gB G + (a + 2)), .int 0, .ref (gB G + (a + 3)), .ref (gB G + (a + 4)), .ref (gB G + (a + 5)), .ref (gB G + (a + 6)), .ref (gB G + (a + 7)), .int 0, .int 0, .int 0, .int 0, .int 0, .int 0, .int 0, .int (-1), .int 0, .int 0, .int 0, .ref (gB G + (a + 8)), .ref (gB G + (a + 9)), .ref (gB G + (a + 10)), .ref (gB G + (a + 11)), .ref (gB G + (a + 12)), .ref (gB G + (a + 13)), .ref (gB G + (a + 14)), .ref (gB G + (a + 15)), .ref (gB G + (a + 16)), .ref (gB G + (a + 17)), .ref (gB G + (a + 18)), .ref (gB G + (a + 19)), .int 0, .ref (gB G + (a + 20)), .ref (gB G + (a + 21)), .ref (gB G + (a + 22)), .ref (gB G + (a + 23)), .ref (gB G + (a + 24)), .int 0, .ref (gB G + (a + 25)), .ref (gB G + (a + 26)), .ref (gB G + (a + 27)), .int 0, .ref (gB G + (a + 28)), .ref (gB G + (a + 29)), .int 0, .null, .null, .int 0, .int 0, .int 0, .null, .int 0, .null, .null, .int 0, .int 0, .int 0, .int 0, .int 0, .int 0, .null, .null, .null, .null, .null]) rfl (Nat.le_of_ble_eq_true rfl) dX7_init_249 (fun σx H locs hI hA hW => ?_)
  replace hZ := hZ.ag hA
  refine lv_aload_n C.1.1 C.1.2.1 dX7_init_252 rfl (lv_at hl 0 rfl) ?_
  refine lv_bipush (v := 88) C.1.1 C.1.2.1 dX7_init_253 (by decide) ?_
  refine xnI C hW hI w_178 (N := 88) (by decide) (by decide) (Nat.le_of_ble_eq_true rfl) (Nat.le_of_ble_eq_true rfl) (Nat.le_of_ble_eq_true rfl) rfl dX7_init_255 (fun Gx σx H hI hA hz hW => ?_)
  replace hZ := hZ.push hA hz
  refine xpF C hW hI hin2 tbX7 tyX7 tyX7_ok nmX7 rfl 47 (by decide) w_1077 rfl rfl (ty := .array .int) (by decide +kernel) rfl rfl (fs' := [.int 0, .ref (gB G + (a + 1)), .int 0, .ref (gB G + (a + 2)), .int 0, .ref (gB G + (a + 3)), .ref (gB G + (a + 4)), .ref (gB G + (a + 5)), .ref (gB G + (a + 6)), .ref (gB G + (a + 7)), .int 0, .int 0, .int 0, .int 0, .int 0, .int 0, .int 0, .int (-1), .int 0, .int 0, .int 0, .ref (gB G + (a + 8)), .ref (gB G + (a + 9)), .ref (gB G + (a + 10)), .ref (gB G + (a + 11)), .ref (gB G + (a + 12)), .ref (gB G + (a + 13)), .ref (gB G + (a + 14)), .ref (gB G + (a + 15)), .ref (gB G + (a + 16)), .ref (gB G + (a + 17)), .ref (gB G + (a + 18)), .ref (gB G + (a + 19)), .int 0, .ref (gB G + (a + 20)), .ref (gB G + (a + 21)), .ref (gB G + (a + 22)), .ref (gB G + (a + 23)), .ref (gB G + (a + 24)), .int 0, .ref (gB G + (a + 25)), .ref (gB G + (a + 26)), .ref (gB G + (a + 27)), .int 0, .ref (gB G + (a + 28)), .ref (gB G + (a + 29)), .int 0, .ref (gB G + (a + 30)), .null, .int 0, .int 0, .int 0, .null, .int 0, .null, .null, .int 0, .int 0, .int 0, .int 0, .int 0, .int 0, .null, .null, .null, .null, .null]) rfl (Nat.le_of_ble_eq_true rfl) dX7_init_257 (fun σx H locs hI hA hW => ?_)
  replace hZ := hZ.ag hA
  refine lv_aload_n C.1.1 C.1.2.1 dX7_init_260 rfl (lv_at hl 0 rfl) ?_
  refine lv_bipush (v := 88) C.1.1 C.1.2.1 dX7_init_261 (by decide) ?_
  refine xnI C hW hI w_178 (N := 88) (by decide) (by decide) (Nat.le_of_ble_eq_true rfl) (Nat.le_of_ble_eq_true rfl) (Nat.le_of_ble_eq_true rfl) rfl dX7_init_263 (fun Gx σx H hI hA hz hW => ?_)
  replace hZ := hZ.push hA hz
  refine xpF C hW hI hin2 tbX7 tyX7 tyX7_ok nmX7 rfl 48 (by decide) w_1078 rfl rfl (ty := .array .int) (by decide +kernel) rfl rfl (fs' := [.int 0, .ref (gB G + (a + 1)), .int 0, .ref (gB G + (a + 2)), .int 0, .ref (gB G + (a + 3)), .ref (gB G + (a + 4)), .ref (gB G + (a + 5)), .ref (gB G + (a + 6)), .ref (gB G + (a + 7)), .int 0, .int 0, .int 0, .int 0, .int 0, .int 0, .int 0, .int (-1), .int 0, .int 0, .int 0, .ref (gB G + (a + 8)), .ref (gB G + (a + 9)), .ref (gB G + (a + 10)), .ref (gB G + (a + 11)), .ref (gB G + (a + 12)), .ref (gB G + (a + 13)), .ref (gB G + (a + 14)), .ref (gB G + (a + 15)), .ref (gB G + (a + 16)), .ref (gB G + (a + 17)), .ref (gB G + (a + 18)), .ref (gB G + (a + 19)), .int 0, .ref (gB G + (a + 20)), .ref (gB G + (a + 21)), .ref (gB G + (a + 22)), .ref (gB G + (a + 23)), .ref (gB G + (a + 24)), .int 0, .ref (gB G + (a + 25)), .ref (gB G + (a + 26)), .ref (gB G + (a + 27)), .int 0, .ref (gB G + (a + 28)), .ref (gB G + (a + 29)), .int 0, .ref (gB G + (a + 30)), .ref (gB G + (a + 31)), .int 0, .int 0, .int 0, .null, .int 0, .null, .null, .int 0, .int 0, .int 0, .int 0, .int 0, .int 0, .null, .null, .null, .null, .null]) rfl (Nat.le_of_ble_eq_true rfl) dX7_init_265 (fun σx H locs hI hA hW => ?_)
  replace hZ := hZ.ag hA
  refine lv_aload_n C.1.1 C.1.2.1 dX7_init_268 rfl (lv_at hl 0 rfl) ?_
  refine lv_bipush (v := 8) C.1.1 C.1.2.1 dX7_init_269 (by decide) ?_
  refine xnZ C hW hI w_1232 (N := 8) (by decide) (by decide) (Nat.le_of_ble_eq_true rfl) (Nat.le_of_ble_eq_true rfl) (Nat.le_of_ble_eq_true rfl) rfl dX7_init_271 (fun Gx σx H hI hA hz hW => ?_)
  replace hZ := hZ.push hA hz
  refine xpF C hW hI hin2 tbX7 tyX7 tyX7_ok nmX7 rfl 52 (by decide) w_1082 rfl rfl (ty := .array .boolean) (by decide +kernel) rfl rfl (fs' := [.int 0, .ref (gB G + (a + 1)), .int 0, .ref (gB G + (a + 2)), .int 0, .ref (gB G + (a + 3)), .ref (gB G + (a + 4)), .ref (gB G + (a + 5)), .ref (gB G + (a + 6)), .ref (gB G + (a + 7)), .int 0, .int 0, .int 0, .int 0, .int 0, .int 0, .int 0, .int (-1), .int 0, .int 0, .int 0, .ref (gB G + (a + 8)), .ref (gB G + (a + 9)), .ref (gB G + (a + 10)), .ref (gB G + (a + 11)), .ref (gB G + (a + 12)), .ref (gB G + (a + 13)), .ref (gB G + (a + 14)), .ref (gB G + (a + 15)), .ref (gB G + (a + 16)), .ref (gB G + (a + 17)), .ref (gB G + (a + 18)), .ref (gB G + (a + 19)), .int 0, .ref (gB G + (a + 20)), .ref (gB G + (a + 21)), .ref (gB G + (a + 22)), .ref (gB G + (a + 23)), .ref (gB G + (a + 24)), .int 0, .ref (gB G + (a + 25)), .ref (gB G + (a + 26)), .ref (gB G + (a + 27)), .int 0, .ref (gB G + (a + 28)), .ref (gB G + (a + 29)), .int 0, .ref (gB G + (a + 30)), .ref (gB G + (a + 31)), .int 0, .int 0, .int 0, .ref (gB G + (a + 32)), .int 0, .null, .null, .int 0, .int 0, .int 0, .int 0, .int 0, .int 0, .null, .null, .null, .null, .null]) rfl (Nat.le_of_ble_eq_true rfl) dX7_init_273 (fun σx H locs hI hA hW => ?_)
  replace hZ := hZ.ag hA
  refine lv_aload_n C.1.1 C.1.2.1 dX7_init_276 rfl (lv_at hl 0 rfl) ?_
  refine lv_sipush (v := 3520) C.1.1 C.1.2.1 dX7_init_277 (by decide) ?_
  refine xnI C hW hI w_178 (N := 3520) (by decide) (by decide) (Nat.le_of_ble_eq_true rfl) (Nat.le_of_ble_eq_true rfl) (Nat.le_of_ble_eq_true rfl) rfl dX7_init_280 (fun Gx σx H hI hA hz hW => ?_)
  replace hZ := hZ.push hA hz
  refine xpF C hW hI hin2 tbX7 tyX7 tyX7_ok nmX7 rfl 54 (by decide) w_1084 rfl rfl (ty := .array .int) (by decide +kernel) rfl rfl (fs' := [.int 0, .ref (gB G + (a + 1)), .int 0, .ref (gB G + (a + 2)), .int 0, .ref (gB G + (a + 3)), .ref (gB G + (a + 4)), .ref (gB G + (a + 5)), .ref (gB G + (a + 6)), .ref (gB G + (a + 7)), .int 0, .int 0, .int 0, .int 0, .int 0, .int 0, .int 0, .int (-1), .int 0, .int 0, .int 0, .ref (gB G + (a + 8)), .ref (gB G + (a + 9)), .ref (gB G + (a + 10)), .ref (gB G + (a + 11)), .ref (gB G + (a + 12)), .ref (gB G + (a + 13)), .ref (gB G + (a + 14)), .ref (gB G + (a + 15)), .ref (gB G + (a + 16)), .ref (gB G + (a + 17)), .ref (gB G + (a + 18)), .ref (gB G + (a + 19)), .int 0, .ref (gB G + (a + 20)), .ref (gB G + (a + 21)), .ref (gB G + (a + 22)), .ref (gB G + (a + 23)), .ref (gB G + (a + 24)), .int 0, .ref (gB G + (a + 25)), .ref (gB G + (a + 26)), .ref (gB G + (a + 27)), .int 0, .ref (gB G + (a + 28)), .ref (gB G + (a + 29)), .int 0, .ref (gB G + (a + 30)), .ref (gB G + (a + 31)), .int 0, .int 0, .int 0, .ref (gB G + (a + 32)), .int 0, .ref (gB G + (a + 33)), .null, .int 0, .int 0, .int 0, .int 0, .int 0, .int 0, .null, .null, .null, .null, .null]) rfl (Nat.le_of_ble_eq_true rfl) dX7_init_282 (fun σx H locs hI hA hW => ?_)
  replace hZ := hZ.ag hA
  refine lv_aload_n C.1.1 C.1.2.1 dX7_init_285 rfl (lv_at hl 0 rfl) ?_
  refine lv_bipush (v := 8) C.1.1 C.1.2.1 dX7_init_286 (by decide) ?_
  refine xnI C hW hI w_178 (N := 8) (by decide) (by decide) (Nat.le_of_ble_eq_true rfl) (Nat.le_of_ble_eq_true rfl) (Nat.le_of_ble_eq_true rfl) rfl dX7_init_288 (fun Gx σx H hI hA hz hW => ?_)
  replace hZ := hZ.push hA hz
  refine xpF C hW hI hin2 tbX7 tyX7 tyX7_ok nmX7 rfl 55 (by decide) w_1085 rfl rfl (ty := .array .int) (by decide +kernel) rfl rfl (fs' := [.int 0, .ref (gB G + (a + 1)), .int 0, .ref (gB G + (a + 2)), .int 0, .ref (gB G + (a + 3)), .ref (gB G + (a + 4)), .ref (gB G + (a + 5)), .ref (gB G + (a + 6)), .ref (gB G + (a + 7)), .int 0, .int 0, .int 0, .int 0, .int 0, .int 0, .int 0, .int (-1), .int 0, .int 0, .int 0, .ref (gB G + (a + 8)), .ref (gB G + (a + 9)), .ref (gB G + (a + 10)), .ref (gB G + (a + 11)), .ref (gB G + (a + 12)), .ref (gB G + (a + 13)), .ref (gB G + (a + 14)), .ref (gB G + (a + 15)), .ref (gB G + (a + 16)), .ref (gB G + (a + 17)), .ref (gB G + (a + 18)), .ref (gB G + (a + 19)), .int 0, .ref (gB G + (a + 20)), .ref (gB G + (a + 21)), .ref (gB G + (a + 22)), .ref (gB G + (a + 23)), .ref (gB G + (a + 24)), .int 0, .ref (gB G + (a + 25)), .ref (gB G + (a + 26)), .ref (gB G + (a + 27)), .int 0, .ref (gB G + (a + 28)), .ref (gB G + (a + 29)), .int 0, .ref (gB G + (a + 30)), .ref (gB G + (a + 31)), .int 0, .int 0, .int 0, .ref (gB G + (a + 32)), .int 0, .ref (gB G + (a + 33)), .ref (gB G + (a + 34)), .int 0, .int 0, .int 0, .int 0, .int 0, .int 0, .null, .null, .null, .null, .null]) rfl (Nat.le_of_ble_eq_true rfl) dX7_init_290 (fun σx H locs hI hA hW => ?_)
  replace hZ := hZ.ag hA
  refine lv_aload_n C.1.1 C.1.2.1 dX7_init_293 rfl (lv_at hl 0 rfl) ?_
  refine lv_bipush (v := 20) C.1.1 C.1.2.1 dX7_init_294 (by decide) ?_
  refine xnI C hW hI w_178 (N := 20) (by decide) (by decide) (Nat.le_of_ble_eq_true rfl) (Nat.le_of_ble_eq_true rfl) (Nat.le_of_ble_eq_true rfl) rfl dX7_init_296 (fun Gx σx H hI hA hz hW => ?_)
  replace hZ := hZ.push hA hz
  refine xpF C hW hI hin2 tbX7 tyX7 tyX7_ok nmX7 rfl 62 (by decide) w_1092 rfl rfl (ty := .array .int) (by decide +kernel) rfl rfl (fs' := [.int 0, .ref (gB G + (a + 1)), .int 0, .ref (gB G + (a + 2)), .int 0, .ref (gB G + (a + 3)), .ref (gB G + (a + 4)), .ref (gB G + (a + 5)), .ref (gB G + (a + 6)), .ref (gB G + (a + 7)), .int 0, .int 0, .int 0, .int 0, .int 0, .int 0, .int 0, .int (-1), .int 0, .int 0, .int 0, .ref (gB G + (a + 8)), .ref (gB G + (a + 9)), .ref (gB G + (a + 10)), .ref (gB G + (a + 11)), .ref (gB G + (a + 12)), .ref (gB G + (a + 13)), .ref (gB G + (a + 14)), .ref (gB G + (a + 15)), .ref (gB G + (a + 16)), .ref (gB G + (a + 17)), .ref (gB G + (a + 18)), .ref (gB G + (a + 19)), .int 0, .ref (gB G + (a + 20)), .ref (gB G + (a + 21)), .ref (gB G + (a + 22)), .ref (gB G + (a + 23)), .ref (gB G + (a + 24)), .int 0, .ref (gB G + (a + 25)), .ref (gB G + (a + 26)), .ref (gB G + (a + 27)), .int 0, .ref (gB G + (a + 28)), .ref (gB G + (a + 29)), .int 0, .ref (gB G + (a + 30)), .ref (gB G + (a + 31)), .int 0, .int 0, .int 0, .ref (gB G + (a + 32)), .int 0, .ref (gB G + (a + 33)), .ref (gB G + (a + 34)), .int 0, .int 0, .int 0, .int 0, .int 0, .int 0, .ref (gB G + (a + 35)), .null, .null, .null, .null]) rfl (Nat.le_of_ble_eq_true rfl) dX7_init_298 (fun σx H locs hI hA hW => ?_)
  replace hZ := hZ.ag hA
  refine lv_aload_n C.1.1 C.1.2.1 dX7_init_301 rfl (lv_at hl 0 rfl) ?_
  refine lv_bipush (v := 20) C.1.1 C.1.2.1 dX7_init_302 (by decide) ?_
  refine xnI C hW hI w_178 (N := 20) (by decide) (by decide) (Nat.le_of_ble_eq_true rfl) (Nat.le_of_ble_eq_true rfl) (Nat.le_of_ble_eq_true rfl) rfl dX7_init_304 (fun Gx σx H hI hA hz hW => ?_)
  replace hZ := hZ.push hA hz
  refine xpF C hW hI hin2 tbX7 tyX7 tyX7_ok nmX7 rfl 63 (by decide) w_1093 rfl rfl (ty := .array .int) (by decide +kernel) rfl rfl (fs' := [.int 0, .ref (gB G + (a + 1)), .int 0, .ref (gB G + (a + 2)), .int 0, .ref (gB G + (a + 3)), .ref (gB G + (a + 4)), .ref (gB G + (a + 5)), .ref (gB G + (a + 6)), .ref (gB G + (a + 7)), .int 0, .int 0, .int 0, .int 0, .int 0, .int 0, .int 0, .int (-1), .int 0, .int 0, .int 0, .ref (gB G + (a + 8)), .ref (gB G + (a + 9)), .ref (gB G + (a + 10)), .ref (gB G + (a + 11)), .ref (gB G + (a + 12)), .ref (gB G + (a + 13)), .ref (gB G + (a + 14)), .ref (gB G + (a + 15)), .ref (gB G + (a + 16)), .ref (gB G + (a + 17)), .ref (gB G + (a + 18)), .ref (gB G + (a + 19)), .int 0, .ref (gB G + (a + 20)), .ref (gB G + (a + 21)), .ref (gB G + (a + 22)), .ref (gB G + (a + 23)), .ref (gB G + (a + 24)), .int 0, .ref (gB G + (a + 25)), .ref (gB G + (a + 26)), .ref (gB G + (a + 27)), .int 0, .ref (gB G + (a + 28)), .ref (gB G + (a + 29)), .int 0, .ref (gB G + (a + 30)), .ref (gB G + (a + 31)), .int 0, .int 0, .int 0, .ref (gB G + (a + 32)), .int 0, .ref (gB G + (a + 33)), .ref (gB G + (a + 34)), .int 0, .int 0, .int 0, .int 0, .int 0, .int 0, .ref (gB G + (a + 35)), .ref (gB G + (a + 36)), .null, .null, .null]) rfl (Nat.le_of_ble_eq_true rfl) dX7_init_306 (fun σx H locs hI hA hW => ?_)
  replace hZ := hZ.ag hA
  refine lv_aload_n C.1.1 C.1.2.1 dX7_init_309 rfl (lv_at hl 0 rfl) ?_
  refine lv_bipush (v := 8) C.1.1 C.1.2.1 dX7_init_310 (by decide) ?_
  refine xnI C hW hI w_178 (N := 8) (by decide) (by decide) (Nat.le_of_ble_eq_true rfl) (Nat.le_of_ble_eq_true rfl) (Nat.le_of_ble_eq_true rfl) rfl dX7_init_312 (fun Gx σx H hI hA hz hW => ?_)
  replace hZ := hZ.push hA hz
  refine xpF C hW hI hin2 tbX7 tyX7 tyX7_ok nmX7 rfl 64 (by decide) w_1094 rfl rfl (ty := .array .int) (by decide +kernel) rfl rfl (fs' := [.int 0, .ref (gB G + (a + 1)), .int 0, .ref (gB G + (a + 2)), .int 0, .ref (gB G + (a + 3)), .ref (gB G + (a + 4)), .ref (gB G + (a + 5)), .ref (gB G + (a + 6)), .ref (gB G + (a + 7)), .int 0, .int 0, .int 0, .int 0, .int 0, .int 0, .int 0, .int (-1), .int 0, .int 0, .int 0, .ref (gB G + (a + 8)), .ref (gB G + (a + 9)), .ref (gB G + (a + 10)), .ref (gB G + (a + 11)), .ref (gB G + (a + 12)), .ref (gB G + (a + 13)), .ref (gB G + (a + 14)), .ref (gB G + (a + 15)), .ref (gB G + (a + 16)), .ref (gB G + (a + 17)), .ref (gB G + (a + 18)), .ref (gB G + (a + 19)), .int 0, .ref (gB G + (a + 20)), .ref (gB G + (a + 21)), .ref (gB G + (a + 22)), .ref (gB G + (a + 23)), .ref (gB G + (a + 24)), .int 0, .ref (gB G + (a + 25)), .ref (gB G + (a + 26)), .ref (gB G + (a + 27)), .int 0, .ref (gB G + (a + 28)), .ref (gB G + (a + 29)), .int 0, .ref (gB G + (a + 30)), .ref (gB G + (a + 31)), .int 0, .int 0, .int 0, .ref (gB G + (a + 32)), .int 0, .ref (gB G + (a + 33)), .ref (gB G + (a + 34)), .int 0, .int 0, .int 0, .int 0, .int 0, .int 0, .ref (gB G + (a + 35)), .ref (gB G + (a + 36)), .ref (gB G + (a + 37)), .null, .null]) rfl (Nat.le_of_ble_eq_true rfl) dX7_init_314 (fun σx H locs hI hA hW => ?_)
  replace hZ := hZ.ag hA
  refine lv_aload_n C.1.1 C.1.2.1 dX7_init_317 rfl (lv_at hl 0 rfl) ?_
  refine lv_iconst (v := 3) C.1.1 C.1.2.1 dX7_init_318 (by decide) ?_
  refine xnZ C hW hI w_1232 (N := 3) (by decide) (by decide) (Nat.le_of_ble_eq_true rfl) (Nat.le_of_ble_eq_true rfl) (Nat.le_of_ble_eq_true rfl) rfl dX7_init_319 (fun Gx σx H hI hA hz hW => ?_)
  replace hZ := hZ.push hA hz
  refine xpF C hW hI hin2 tbX7 tyX7 tyX7_ok nmX7 rfl 65 (by decide) w_1095 rfl rfl (ty := .array .boolean) (by decide +kernel) rfl rfl (fs' := [.int 0, .ref (gB G + (a + 1)), .int 0, .ref (gB G + (a + 2)), .int 0, .ref (gB G + (a + 3)), .ref (gB G + (a + 4)), .ref (gB G + (a + 5)), .ref (gB G + (a + 6)), .ref (gB G + (a + 7)), .int 0, .int 0, .int 0, .int 0, .int 0, .int 0, .int 0, .int (-1), .int 0, .int 0, .int 0, .ref (gB G + (a + 8)), .ref (gB G + (a + 9)), .ref (gB G + (a + 10)), .ref (gB G + (a + 11)), .ref (gB G + (a + 12)), .ref (gB G + (a + 13)), .ref (gB G + (a + 14)), .ref (gB G + (a + 15)), .ref (gB G + (a + 16)), .ref (gB G + (a + 17)), .ref (gB G + (a + 18)), .ref (gB G + (a + 19)), .int 0, .ref (gB G + (a + 20)), .ref (gB G + (a + 21)), .ref (gB G + (a + 22)), .ref (gB G + (a + 23)), .ref (gB G + (a + 24)), .int 0, .ref (gB G + (a + 25)), .ref (gB G + (a + 26)), .ref (gB G + (a + 27)), .int 0, .ref (gB G + (a + 28)), .ref (gB G + (a + 29)), .int 0, .ref (gB G + (a + 30)), .ref (gB G + (a + 31)), .int 0, .int 0, .int 0, .ref (gB G + (a + 32)), .int 0, .ref (gB G + (a + 33)), .ref (gB G + (a + 34)), .int 0, .int 0, .int 0, .int 0, .int 0, .int 0, .ref (gB G + (a + 35)), .ref (gB G + (a + 36)), .ref (gB G + (a + 37)), .ref (gB G + (a + 38)), .null]) rfl (Nat.le_of_ble_eq_true rfl) dX7_init_321 (fun σx H locs hI hA hW => ?_)
  replace hZ := hZ.ag hA
  refine lv_aload_n C.1.1 C.1.2.1 dX7_init_324 rfl (lv_at hl 0 rfl) ?_
  refine lv_sipush (v := 264) C.1.1 C.1.2.1 dX7_init_325 (by decide) ?_
  refine xnI C hW hI w_178 (N := 264) (by decide) (by decide) (Nat.le_of_ble_eq_true rfl) (Nat.le_of_ble_eq_true rfl) (Nat.le_of_ble_eq_true rfl) rfl dX7_init_328 (fun Gx σx H hI hA hz hW => ?_)
  replace hZ := hZ.push hA hz
  refine xpF C hW hI hin2 tbX7 tyX7 tyX7_ok nmX7 rfl 66 (by decide) w_1096 rfl rfl (ty := .array .int) (by decide +kernel) rfl rfl (fs' := [.int 0, .ref (gB G + (a + 1)), .int 0, .ref (gB G + (a + 2)), .int 0, .ref (gB G + (a + 3)), .ref (gB G + (a + 4)), .ref (gB G + (a + 5)), .ref (gB G + (a + 6)), .ref (gB G + (a + 7)), .int 0, .int 0, .int 0, .int 0, .int 0, .int 0, .int 0, .int (-1), .int 0, .int 0, .int 0, .ref (gB G + (a + 8)), .ref (gB G + (a + 9)), .ref (gB G + (a + 10)), .ref (gB G + (a + 11)), .ref (gB G + (a + 12)), .ref (gB G + (a + 13)), .ref (gB G + (a + 14)), .ref (gB G + (a + 15)), .ref (gB G + (a + 16)), .ref (gB G + (a + 17)), .ref (gB G + (a + 18)), .ref (gB G + (a + 19)), .int 0, .ref (gB G + (a + 20)), .ref (gB G + (a + 21)), .ref (gB G + (a + 22)), .ref (gB G + (a + 23)), .ref (gB G + (a + 24)), .int 0, .ref (gB G + (a + 25)), .ref (gB G + (a + 26)), .ref (gB G + (a + 27)), .int 0, .ref (gB G + (a + 28)), .ref (gB G + (a + 29)), .int 0, .ref (gB G + (a + 30)), .ref (gB G + (a + 31)), .int 0, .int 0, .int 0, .ref (gB G + (a + 32)), .int 0, .ref (gB G + (a + 33)), .ref (gB G + (a + 34)), .int 0, .int 0, .int 0, .int 0, .int 0, .int 0, .ref (gB G + (a + 35)), .ref (gB G + (a + 36)), .ref (gB G + (a + 37)), .ref (gB G + (a + 38)), .ref (gB G + (a + 39))]) rfl (Nat.le_of_ble_eq_true rfl) dX7_init_330 (fun σx H locs hI hA hW => ?_)
  replace hZ := hZ.ag hA
  obtain ⟨hW, hG, hPB⟩ := hI.kind hW (σ' := wR σx a (fun j => if j = 17 then (-1) else 0)) (by rw [hI.1.B]; show clE _ _ _ a 8 = _; simp [clE, obE, wT, wR, va_up]) (fun x hx => by simp [wT, wR, va_up, hx]) (sh_kind hW.1.2.2.2 hI.2.2.2.1 ⟨by decide, by decide⟩ (fun x hx => by simp [wT, wR, va_up, hx]) (fun h => absurd h (by decide)) (fun h => absurd h (by decide)) (fun h => absurd h (by decide)) (fun h => absurd h (by decide)) (fun h => absurd h (by decide)) (fun h => absurd h (by decide)) (fun h => absurd h (by decide)) (fun _ => ⟨(hI.2.2.2.2.2.2.1 1 (by decide) (by decide)), (hI.2.2.2.2.2.2.1 2 (by decide) (by decide)), (hI.2.2.2.2.2.2.1 3 (by decide) (by decide)), (hI.2.2.2.2.2.2.1 4 (by decide) (by decide)), (hI.2.2.2.2.2.2.1 5 (by decide) (by decide)), (hI.2.2.2.2.2.2.1 6 (by decide) (by decide)), (hI.2.2.2.2.2.2.1 7 (by decide) (by decide)), (hI.2.2.2.2.2.2.1 8 (by decide) (by decide)), (hI.2.2.2.2.2.2.1 9 (by decide) (by decide)), (hI.2.2.2.2.2.2.1 10 (by decide) (by decide)), (hI.2.2.2.2.2.2.1 11 (by decide) (by decide)), (hI.2.2.2.2.2.2.1 12 (by decide) (by decide)), (hI.2.2.2.2.2.2.1 13 (by decide) (by decide)), (hI.2.2.2.2.2.2.1 14 (by decide) (by decide)), (hI.2.2.2.2.2.2.1 15 (by decide) (by decide)), (hI.2.2.2.2.2.2.1 16 (by decide) (by decide)), (hI.2.2.2.2.2.2.1 17 (by decide) (by decide)), (hI.2.2.2.2.2.2.1 18 (by decide) (by decide)), (hI.2.2.2.2.2.2.1 19 (by decide) (by decide)), (hI.2.2.2.2.2.2.1 20 (by decide) (by decide)), (hI.2.2.2.2.2.2.1 21 (by decide) (by decide)), (hI.2.2.2.2.2.2.1 22 (by decide) (by decide)), (hI.2.2.2.2.2.2.1 23 (by decide) (by decide)), (hI.2.2.2.2.2.2.1 24 (by decide) (by decide)), (hI.2.2.2.2.2.2.1 25 (by decide) (by decide)), (hI.2.2.2.2.2.2.1 26 (by decide) (by decide)), (hI.2.2.2.2.2.2.1 27 (by decide) (by decide)), (hI.2.2.2.2.2.2.1 28 (by decide) (by decide)), (hI.2.2.2.2.2.2.1 29 (by decide) (by decide)), (hI.2.2.2.2.2.2.1 30 (by decide) (by decide)), (hI.2.2.2.2.2.2.1 31 (by decide) (by decide)), (hI.2.2.2.2.2.2.1 32 (by decide) (by decide)), (hI.2.2.2.2.2.2.1 33 (by decide) (by decide)), (hI.2.2.2.2.2.2.1 34 (by decide) (by decide)), (hI.2.2.2.2.2.2.1 35 (by decide) (by decide)), (hI.2.2.2.2.2.2.1 36 (by decide) (by decide)), (hI.2.2.2.2.2.2.1 37 (by decide) (by decide)), (hI.2.2.2.2.2.2.1 38 (by decide) (by decide)), (hI.2.2.2.2.2.2.1 39 (by decide) (by decide))⟩)) rfl
  have hk9 : gK (gKind Gx a (7 + 1)) a = 8 := hPB.2.2.1 0 (by decide)
  have hZ2 : ∀ i, 0 < i → i < 40 → ∀ j, (wR σx a (fun j => if j = 17 then (-1) else 0)).1 (a + i) j = 0 := fun i i1 i2 j => by rw [wR_n (by omega)]; exact (hZ i i1 i2).1 j
  have hZ0 : ∀ j, (wR σx a (fun j => if j = 17 then (-1) else 0)).1 a j = if j = 17 then (-1) else 0 := fun j => by rw [wR_k]
  generalize wR σx a (fun j => if j = 17 then (-1) else 0) = σy at hW hPB hZ2 hZ0
  generalize gKind Gx a (7 + 1) = Gy at hW hG hPB hk9
  have hG2 := hG
  obtain ⟨N9, kd9, rfl⟩ := hG
  have C2 := hG2.Cx C
  obtain ⟨τ, c1, c2, c3, c4, c5, c6, c7⟩ := plain_v (M := a) (side := 0) (σ := σy) (by omega)
  have c1 : fX7_plain a 0 σy = some τ := c1
  refine lv_aload_n C.1.1 C.1.2.1 dX7_init_333 rfl (lv_at hl 0 rfl) ?_
  refine lv_iconst (v := 0) C.1.1 C.1.2.1 dX7_init_334 (by decide) ?_
  refine cVv C2 hW (mX7_plain hk9 c1) hk9 kvX7_plain w_1012 ⟨(Nat.le_of_ble_eq_true rfl), (Nat.le_of_ble_eq_true rfl)⟩ ⟨(Nat.le_of_ble_eq_true rfl), (Nat.le_of_ble_eq_true rfl)⟩ rfl hl.1 (rest := []) rfl (Nat.le_of_ble_eq_true rfl) dX7_init_335 (fun H locs hW => ?_)
  have hPB := hPB.fs c2 (fun x j q => by omega)
  have hJ : ∀ k, k < 0 → τ.2.1 (a + 7) k = lN (wvN k) := fun k hk => by omega
  have e1 : τ.1 = τ.1 := rfl
  have e2 : τ.2.2 = τ.2.2 := rfl
  have e3 : ∀ x, x ≠ a + 7 → τ.2.1 x = τ.2.1 x := fun _ _ => rfl
  have hW : Ws _ τ s.heap H locs := hW
  refine lv_aload_n C.1.1 C.1.2.1 dX7_init_338 rfl (lv_at hl 0 rfl) ?_
  have hkk := sh7_9 hW hk9
  refine gf7_9 C2 hW hk9 w_1039 dX7_init_339 ?_
  refine lv_iconst (v := 0) C.1.1 C.1.2.1 dX7_init_342 (by decide) ?_
  refine lv_bipush (v := 104) C.1.1 C.1.2.1 dX7_init_343 (by decide) ?_
  refine lv_bipush (v := 111) C.1.1 C.1.2.1 dX7_init_345 (by decide) ?_
  refine lv_bipush (v := 117) C.1.1 C.1.2.1 dX7_init_347 (by decide) ?_
  refine lv_bipush (v := 115) C.1.1 C.1.2.1 dX7_init_349 (by decide) ?_
  refine lv_bipush (v := 101) C.1.1 C.1.2.1 dX7_init_351 (by decide) ?_
  refine lv_iconst (v := 0) C.1.1 C.1.2.1 dX7_init_353 (by decide) ?_
  refine lv_iconst (v := 0) C.1.1 C.1.2.1 dX7_init_354 (by decide) ?_
  refine cSl C2 hW (mX7_word (word_v wd_0)) ksX7_word w_1016 ⟨(Nat.le_of_ble_eq_true rfl), (Nat.le_of_ble_eq_true rfl)⟩ ⟨(Nat.le_of_ble_eq_true rfl), (Nat.le_of_ble_eq_true rfl)⟩ rfl hl.1 (rest := [.int 0, .ref _]) rfl (Nat.le_of_ble_eq_true rfl) dX7_init_355 (fun H locs hW => ?_)
  refine wsl C2 hW hkk (vin_p ⟨by decide, by decide⟩) dX7_init_358 (fun H locs hW => ?_)
  replace hW : Ws _ (wJ τ (a + 7) 0 (lN (wvN 0))) s.heap H locs := hW
  obtain ⟨hJ, e1, e2, e3⟩ := jst (i := 0) hJ e1 e2 e3
  generalize wJ τ (a + 7) 0 (lN (wvN 0)) = σz0 at hW hJ e1 e2 e3
  refine lv_aload_n C.1.1 C.1.2.1 dX7_init_359 rfl (lv_at hl 0 rfl) ?_
  have hkk := sh7_9 hW hk9
  refine gf7_9 C2 hW hk9 w_1039 dX7_init_360 ?_
  refine lv_iconst (v := 1) C.1.1 C.1.2.1 dX7_init_363 (by decide) ?_
  refine lv_bipush (v := 115) C.1.1 C.1.2.1 dX7_init_364 (by decide) ?_
  refine lv_bipush (v := 112) C.1.1 C.1.2.1 dX7_init_366 (by decide) ?_
  refine lv_bipush (v := 97) C.1.1 C.1.2.1 dX7_init_368 (by decide) ?_
  refine lv_bipush (v := 114) C.1.1 C.1.2.1 dX7_init_370 (by decide) ?_
  refine lv_bipush (v := 101) C.1.1 C.1.2.1 dX7_init_372 (by decide) ?_
  refine lv_iconst (v := 0) C.1.1 C.1.2.1 dX7_init_374 (by decide) ?_
  refine lv_iconst (v := 0) C.1.1 C.1.2.1 dX7_init_375 (by decide) ?_
  refine cSl C2 hW (mX7_word (word_v wd_1)) ksX7_word w_1016 ⟨(Nat.le_of_ble_eq_true rfl), (Nat.le_of_ble_eq_true rfl)⟩ ⟨(Nat.le_of_ble_eq_true rfl), (Nat.le_of_ble_eq_true rfl)⟩ rfl hl.1 (rest := [.int 1, .ref _]) rfl (Nat.le_of_ble_eq_true rfl) dX7_init_376 (fun H locs hW => ?_)
  refine wsl C2 hW hkk (vin_p ⟨by decide, by decide⟩) dX7_init_379 (fun H locs hW => ?_)
  replace hW : Ws _ (wJ σz0 (a + 7) 1 (lN (wvN 1))) s.heap H locs := hW
  obtain ⟨hJ, e1, e2, e3⟩ := jst (i := 1) hJ e1 e2 e3
  generalize wJ σz0 (a + 7) 1 (lN (wvN 1)) = σz1 at hW hJ e1 e2 e3
  refine lv_aload_n C.1.1 C.1.2.1 dX7_init_380 rfl (lv_at hl 0 rfl) ?_
  have hkk := sh7_9 hW hk9
  refine gf7_9 C2 hW hk9 w_1039 dX7_init_381 ?_
  refine lv_iconst (v := 2) C.1.1 C.1.2.1 dX7_init_384 (by decide) ?_
  refine lv_bipush (v := 98) C.1.1 C.1.2.1 dX7_init_385 (by decide) ?_
  refine lv_bipush (v := 111) C.1.1 C.1.2.1 dX7_init_387 (by decide) ?_
  refine lv_bipush (v := 116) C.1.1 C.1.2.1 dX7_init_389 (by decide) ?_
  refine lv_bipush (v := 104) C.1.1 C.1.2.1 dX7_init_391 (by decide) ?_
  refine lv_iconst (v := 0) C.1.1 C.1.2.1 dX7_init_393 (by decide) ?_
  refine lv_iconst (v := 0) C.1.1 C.1.2.1 dX7_init_394 (by decide) ?_
  refine lv_iconst (v := 0) C.1.1 C.1.2.1 dX7_init_395 (by decide) ?_
  refine cSl C2 hW (mX7_word (word_v wd_2)) ksX7_word w_1016 ⟨(Nat.le_of_ble_eq_true rfl), (Nat.le_of_ble_eq_true rfl)⟩ ⟨(Nat.le_of_ble_eq_true rfl), (Nat.le_of_ble_eq_true rfl)⟩ rfl hl.1 (rest := [.int 2, .ref _]) rfl (Nat.le_of_ble_eq_true rfl) dX7_init_396 (fun H locs hW => ?_)
  refine wsl C2 hW hkk (vin_p ⟨by decide, by decide⟩) dX7_init_399 (fun H locs hW => ?_)
  replace hW : Ws _ (wJ σz1 (a + 7) 2 (lN (wvN 2))) s.heap H locs := hW
  obtain ⟨hJ, e1, e2, e3⟩ := jst (i := 2) hJ e1 e2 e3
  generalize wJ σz1 (a + 7) 2 (lN (wvN 2)) = σz2 at hW hJ e1 e2 e3
  refine lv_aload_n C.1.1 C.1.2.1 dX7_init_400 rfl (lv_at hl 0 rfl) ?_
  have hkk := sh7_9 hW hk9
  refine gf7_9 C2 hW hk9 w_1039 dX7_init_401 ?_
  refine lv_iconst (v := 3) C.1.1 C.1.2.1 dX7_init_404 (by decide) ?_
  refine lv_bipush (v := 108) C.1.1 C.1.2.1 dX7_init_405 (by decide) ?_
  refine lv_bipush (v := 101) C.1.1 C.1.2.1 dX7_init_407 (by decide) ?_
  refine lv_bipush (v := 116) C.1.1 C.1.2.1 dX7_init_409 (by decide) ?_
  refine lv_bipush (v := 115) C.1.1 C.1.2.1 dX7_init_411 (by decide) ?_
  refine lv_iconst (v := 0) C.1.1 C.1.2.1 dX7_init_413 (by decide) ?_
  refine lv_iconst (v := 0) C.1.1 C.1.2.1 dX7_init_414 (by decide) ?_
  refine lv_iconst (v := 0) C.1.1 C.1.2.1 dX7_init_415 (by decide) ?_
  refine cSl C2 hW (mX7_word (word_v wd_3)) ksX7_word w_1016 ⟨(Nat.le_of_ble_eq_true rfl), (Nat.le_of_ble_eq_true rfl)⟩ ⟨(Nat.le_of_ble_eq_true rfl), (Nat.le_of_ble_eq_true rfl)⟩ rfl hl.1 (rest := [.int 3, .ref _]) rfl (Nat.le_of_ble_eq_true rfl) dX7_init_416 (fun H locs hW => ?_)
  refine wsl C2 hW hkk (vin_p ⟨by decide, by decide⟩) dX7_init_419 (fun H locs hW => ?_)
  replace hW : Ws _ (wJ σz2 (a + 7) 3 (lN (wvN 3))) s.heap H locs := hW
  obtain ⟨hJ, e1, e2, e3⟩ := jst (i := 3) hJ e1 e2 e3
  generalize wJ σz2 (a + 7) 3 (lN (wvN 3)) = σz3 at hW hJ e1 e2 e3
  refine lv_aload_n C.1.1 C.1.2.1 dX7_init_420 rfl (lv_at hl 0 rfl) ?_
  have hkk := sh7_9 hW hk9
  refine gf7_9 C2 hW hk9 w_1039 dX7_init_421 ?_
  refine lv_iconst (v := 4) C.1.1 C.1.2.1 dX7_init_424 (by decide) ?_
  refine lv_bipush (v := 113) C.1.1 C.1.2.1 dX7_init_425 (by decide) ?_
  refine lv_bipush (v := 117) C.1.1 C.1.2.1 dX7_init_427 (by decide) ?_
  refine lv_bipush (v := 97) C.1.1 C.1.2.1 dX7_init_429 (by decide) ?_
  refine lv_bipush (v := 114) C.1.1 C.1.2.1 dX7_init_431 (by decide) ?_
  refine lv_bipush (v := 114) C.1.1 C.1.2.1 dX7_init_433 (by decide) ?_
  refine lv_bipush (v := 101) C.1.1 C.1.2.1 dX7_init_435 (by decide) ?_
  refine lv_bipush (v := 108) C.1.1 C.1.2.1 dX7_init_437 (by decide) ?_
  refine cSl C2 hW (mX7_word (word_v wd_4)) ksX7_word w_1016 ⟨(Nat.le_of_ble_eq_true rfl), (Nat.le_of_ble_eq_true rfl)⟩ ⟨(Nat.le_of_ble_eq_true rfl), (Nat.le_of_ble_eq_true rfl)⟩ rfl hl.1 (rest := [.int 4, .ref _]) rfl (Nat.le_of_ble_eq_true rfl) dX7_init_439 (fun H locs hW => ?_)
  refine wsl C2 hW hkk (vin_p ⟨by decide, by decide⟩) dX7_init_442 (fun H locs hW => ?_)
  replace hW : Ws _ (wJ σz3 (a + 7) 4 (lN (wvN 4))) s.heap H locs := hW
  obtain ⟨hJ, e1, e2, e3⟩ := jst (i := 4) hJ e1 e2 e3
  generalize wJ σz3 (a + 7) 4 (lN (wvN 4)) = σz4 at hW hJ e1 e2 e3
  refine lv_aload_n C.1.1 C.1.2.1 dX7_init_443 rfl (lv_at hl 0 rfl) ?_
  have hkk := sh7_9 hW hk9
  refine gf7_9 C2 hW hk9 w_1039 dX7_init_444 ?_
  refine lv_iconst (v := 5) C.1.1 C.1.2.1 dX7_init_447 (by decide) ?_
  refine lv_bipush (v := 114) C.1.1 C.1.2.1 dX7_init_448 (by decide) ?_
  refine lv_bipush (v := 101) C.1.1 C.1.2.1 dX7_init_450 (by decide) ?_
  refine lv_bipush (v := 110) C.1.1 C.1.2.1 dX7_init_452 (by decide) ?_
  refine lv_bipush (v := 116) C.1.1 C.1.2.1 dX7_init_454 (by decide) ?_
  refine lv_iconst (v := 0) C.1.1 C.1.2.1 dX7_init_456 (by decide) ?_
  refine lv_iconst (v := 0) C.1.1 C.1.2.1 dX7_init_457 (by decide) ?_
  refine lv_iconst (v := 0) C.1.1 C.1.2.1 dX7_init_458 (by decide) ?_
  refine cSl C2 hW (mX7_word (word_v wd_5)) ksX7_word w_1016 ⟨(Nat.le_of_ble_eq_true rfl), (Nat.le_of_ble_eq_true rfl)⟩ ⟨(Nat.le_of_ble_eq_true rfl), (Nat.le_of_ble_eq_true rfl)⟩ rfl hl.1 (rest := [.int 5, .ref _]) rfl (Nat.le_of_ble_eq_true rfl) dX7_init_459 (fun H locs hW => ?_)
  refine wsl C2 hW hkk (vin_p ⟨by decide, by decide⟩) dX7_init_462 (fun H locs hW => ?_)
  replace hW : Ws _ (wJ σz4 (a + 7) 5 (lN (wvN 5))) s.heap H locs := hW
  obtain ⟨hJ, e1, e2, e3⟩ := jst (i := 5) hJ e1 e2 e3
  generalize wJ σz4 (a + 7) 5 (lN (wvN 5)) = σz5 at hW hJ e1 e2 e3
  refine lv_aload_n C.1.1 C.1.2.1 dX7_init_463 rfl (lv_at hl 0 rfl) ?_
  have hkk := sh7_9 hW hk9
  refine gf7_9 C2 hW hk9 w_1039 dX7_init_464 ?_
  refine lv_bipush (v := 6) C.1.1 C.1.2.1 dX7_init_467 (by decide) ?_
  refine lv_bipush (v := 108) C.1.1 C.1.2.1 dX7_init_469 (by decide) ?_
  refine lv_bipush (v := 97) C.1.1 C.1.2.1 dX7_init_471 (by decide) ?_
  refine lv_bipush (v := 116) C.1.1 C.1.2.1 dX7_init_473 (by decide) ?_
  refine lv_bipush (v := 101) C.1.1 C.1.2.1 dX7_init_475 (by decide) ?_
  refine lv_iconst (v := 0) C.1.1 C.1.2.1 dX7_init_477 (by decide) ?_
  refine lv_iconst (v := 0) C.1.1 C.1.2.1 dX7_init_478 (by decide) ?_
  refine lv_iconst (v := 0) C.1.1 C.1.2.1 dX7_init_479 (by decide) ?_
  refine cSl C2 hW (mX7_word (word_v wd_6)) ksX7_word w_1016 ⟨(Nat.le_of_ble_eq_true rfl), (Nat.le_of_ble_eq_true rfl)⟩ ⟨(Nat.le_of_ble_eq_true rfl), (Nat.le_of_ble_eq_true rfl)⟩ rfl hl.1 (rest := [.int 6, .ref _]) rfl (Nat.le_of_ble_eq_true rfl) dX7_init_480 (fun H locs hW => ?_)
  refine wsl C2 hW hkk (vin_p ⟨by decide, by decide⟩) dX7_init_483 (fun H locs hW => ?_)
  replace hW : Ws _ (wJ σz5 (a + 7) 6 (lN (wvN 6))) s.heap H locs := hW
  obtain ⟨hJ, e1, e2, e3⟩ := jst (i := 6) hJ e1 e2 e3
  generalize wJ σz5 (a + 7) 6 (lN (wvN 6)) = σz6 at hW hJ e1 e2 e3
  refine lv_aload_n C.1.1 C.1.2.1 dX7_init_484 rfl (lv_at hl 0 rfl) ?_
  have hkk := sh7_9 hW hk9
  refine gf7_9 C2 hW hk9 w_1039 dX7_init_485 ?_
  refine lv_bipush (v := 7) C.1.1 C.1.2.1 dX7_init_488 (by decide) ?_
  refine lv_bipush (v := 115) C.1.1 C.1.2.1 dX7_init_490 (by decide) ?_
  refine lv_bipush (v := 101) C.1.1 C.1.2.1 dX7_init_492 (by decide) ?_
  refine lv_bipush (v := 101) C.1.1 C.1.2.1 dX7_init_494 (by decide) ?_
  refine lv_bipush (v := 100) C.1.1 C.1.2.1 dX7_init_496 (by decide) ?_
  refine lv_iconst (v := 0) C.1.1 C.1.2.1 dX7_init_498 (by decide) ?_
  refine lv_iconst (v := 0) C.1.1 C.1.2.1 dX7_init_499 (by decide) ?_
  refine lv_iconst (v := 0) C.1.1 C.1.2.1 dX7_init_500 (by decide) ?_
  refine cSl C2 hW (mX7_word (word_v wd_7)) ksX7_word w_1016 ⟨(Nat.le_of_ble_eq_true rfl), (Nat.le_of_ble_eq_true rfl)⟩ ⟨(Nat.le_of_ble_eq_true rfl), (Nat.le_of_ble_eq_true rfl)⟩ rfl hl.1 (rest := [.int 7, .ref _]) rfl (Nat.le_of_ble_eq_true rfl) dX7_init_501 (fun H locs hW => ?_)
  refine wsl C2 hW hkk (vin_p ⟨by decide, by decide⟩) dX7_init_504 (fun H locs hW => ?_)
  replace hW : Ws _ (wJ σz6 (a + 7) 7 (lN (wvN 7))) s.heap H locs := hW
  obtain ⟨hJ, e1, e2, e3⟩ := jst (i := 7) hJ e1 e2 e3
  generalize wJ σz6 (a + 7) 7 (lN (wvN 7)) = σz7 at hW hJ e1 e2 e3
  refine lv_aload_n C.1.1 C.1.2.1 dX7_init_505 rfl (lv_at hl 0 rfl) ?_
  have hkk := sh7_9 hW hk9
  refine gf7_9 C2 hW hk9 w_1039 dX7_init_506 ?_
  refine lv_bipush (v := 8) C.1.1 C.1.2.1 dX7_init_509 (by decide) ?_
  refine lv_bipush (v := 105) C.1.1 C.1.2.1 dX7_init_511 (by decide) ?_
  refine lv_bipush (v := 102) C.1.1 C.1.2.1 dX7_init_513 (by decide) ?_
  refine lv_iconst (v := 0) C.1.1 C.1.2.1 dX7_init_515 (by decide) ?_
  refine lv_iconst (v := 0) C.1.1 C.1.2.1 dX7_init_516 (by decide) ?_
  refine lv_iconst (v := 0) C.1.1 C.1.2.1 dX7_init_517 (by decide) ?_
  refine lv_iconst (v := 0) C.1.1 C.1.2.1 dX7_init_518 (by decide) ?_
  refine lv_iconst (v := 0) C.1.1 C.1.2.1 dX7_init_519 (by decide) ?_
  refine cSl C2 hW (mX7_word (word_v wd_8)) ksX7_word w_1016 ⟨(Nat.le_of_ble_eq_true rfl), (Nat.le_of_ble_eq_true rfl)⟩ ⟨(Nat.le_of_ble_eq_true rfl), (Nat.le_of_ble_eq_true rfl)⟩ rfl hl.1 (rest := [.int 8, .ref _]) rfl (Nat.le_of_ble_eq_true rfl) dX7_init_520 (fun H locs hW => ?_)
  refine wsl C2 hW hkk (vin_p ⟨by decide, by decide⟩) dX7_init_523 (fun H locs hW => ?_)
  replace hW : Ws _ (wJ σz7 (a + 7) 8 (lN (wvN 8))) s.heap H locs := hW
  obtain ⟨hJ, e1, e2, e3⟩ := jst (i := 8) hJ e1 e2 e3
  generalize wJ σz7 (a + 7) 8 (lN (wvN 8)) = σz8 at hW hJ e1 e2 e3
  refine lv_aload_n C.1.1 C.1.2.1 dX7_init_524 rfl (lv_at hl 0 rfl) ?_
  have hkk := sh7_9 hW hk9
  refine gf7_9 C2 hW hk9 w_1039 dX7_init_525 ?_
  refine lv_bipush (v := 9) C.1.1 C.1.2.1 dX7_init_528 (by decide) ?_
  refine lv_bipush (v := 116) C.1.1 C.1.2.1 dX7_init_530 (by decide) ?_
  refine lv_bipush (v := 104) C.1.1 C.1.2.1 dX7_init_532 (by decide) ?_
  refine lv_bipush (v := 101) C.1.1 C.1.2.1 dX7_init_534 (by decide) ?_
  refine lv_bipush (v := 110) C.1.1 C.1.2.1 dX7_init_536 (by decide) ?_
  refine lv_iconst (v := 0) C.1.1 C.1.2.1 dX7_init_538 (by decide) ?_
  refine lv_iconst (v := 0) C.1.1 C.1.2.1 dX7_init_539 (by decide) ?_
  refine lv_iconst (v := 0) C.1.1 C.1.2.1 dX7_init_540 (by decide) ?_
  refine cSl C2 hW (mX7_word (word_v wd_9)) ksX7_word w_1016 ⟨(Nat.le_of_ble_eq_true rfl), (Nat.le_of_ble_eq_true rfl)⟩ ⟨(Nat.le_of_ble_eq_true rfl), (Nat.le_of_ble_eq_true rfl)⟩ rfl hl.1 (rest := [.int 9, .ref _]) rfl (Nat.le_of_ble_eq_true rfl) dX7_init_541 (fun H locs hW => ?_)
  refine wsl C2 hW hkk (vin_p ⟨by decide, by decide⟩) dX7_init_544 (fun H locs hW => ?_)
  replace hW : Ws _ (wJ σz8 (a + 7) 9 (lN (wvN 9))) s.heap H locs := hW
  obtain ⟨hJ, e1, e2, e3⟩ := jst (i := 9) hJ e1 e2 e3
  generalize wJ σz8 (a + 7) 9 (lN (wvN 9)) = σz9 at hW hJ e1 e2 e3
  refine lv_aload_n C.1.1 C.1.2.1 dX7_init_545 rfl (lv_at hl 0 rfl) ?_
  have hkk := sh7_9 hW hk9
  refine gf7_9 C2 hW hk9 w_1039 dX7_init_546 ?_
  refine lv_bipush (v := 10) C.1.1 C.1.2.1 dX7_init_549 (by decide) ?_
  refine lv_bipush (v := 101) C.1.1 C.1.2.1 dX7_init_551 (by decide) ?_
  refine lv_bipush (v := 108) C.1.1 C.1.2.1 dX7_init_553 (by decide) ?_
  refine lv_bipush (v := 115) C.1.1 C.1.2.1 dX7_init_555 (by decide) ?_
  refine lv_bipush (v := 101) C.1.1 C.1.2.1 dX7_init_557 (by decide) ?_
  refine lv_iconst (v := 0) C.1.1 C.1.2.1 dX7_init_559 (by decide) ?_
  refine lv_iconst (v := 0) C.1.1 C.1.2.1 dX7_init_560 (by decide) ?_
  refine lv_iconst (v := 0) C.1.1 C.1.2.1 dX7_init_561 (by decide) ?_
  refine cSl C2 hW (mX7_word (word_v wd_10)) ksX7_word w_1016 ⟨(Nat.le_of_ble_eq_true rfl), (Nat.le_of_ble_eq_true rfl)⟩ ⟨(Nat.le_of_ble_eq_true rfl), (Nat.le_of_ble_eq_true rfl)⟩ rfl hl.1 (rest := [.int 10, .ref _]) rfl (Nat.le_of_ble_eq_true rfl) dX7_init_562 (fun H locs hW => ?_)
  refine wsl C2 hW hkk (vin_p ⟨by decide, by decide⟩) dX7_init_565 (fun H locs hW => ?_)
  replace hW : Ws _ (wJ σz9 (a + 7) 10 (lN (wvN 10))) s.heap H locs := hW
  obtain ⟨hJ, e1, e2, e3⟩ := jst (i := 10) hJ e1 e2 e3
  generalize wJ σz9 (a + 7) 10 (lN (wvN 10)) = σz10 at hW hJ e1 e2 e3
  refine lv_aload_n C.1.1 C.1.2.1 dX7_init_566 rfl (lv_at hl 0 rfl) ?_
  have hkk := sh7_9 hW hk9
  refine gf7_9 C2 hW hk9 w_1039 dX7_init_567 ?_
  refine lv_bipush (v := 11) C.1.1 C.1.2.1 dX7_init_570 (by decide) ?_
  refine lv_bipush (v := 104) C.1.1 C.1.2.1 dX7_init_572 (by decide) ?_
  refine lv_bipush (v := 111) C.1.1 C.1.2.1 dX7_init_574 (by decide) ?_
  refine lv_bipush (v := 117) C.1.1 C.1.2.1 dX7_init_576 (by decide) ?_
  refine lv_bipush (v := 114) C.1.1 C.1.2.1 dX7_init_578 (by decide) ?_
  refine lv_iconst (v := 0) C.1.1 C.1.2.1 dX7_init_580 (by decide) ?_
  refine lv_iconst (v := 0) C.1.1 C.1.2.1 dX7_init_581 (by decide) ?_
  refine lv_iconst (v := 0) C.1.1 C.1.2.1 dX7_init_582 (by decide) ?_
  refine cSl C2 hW (mX7_word (word_v wd_11)) ksX7_word w_1016 ⟨(Nat.le_of_ble_eq_true rfl), (Nat.le_of_ble_eq_true rfl)⟩ ⟨(Nat.le_of_ble_eq_true rfl), (Nat.le_of_ble_eq_true rfl)⟩ rfl hl.1 (rest := [.int 11, .ref _]) rfl (Nat.le_of_ble_eq_true rfl) dX7_init_583 (fun H locs hW => ?_)
  refine wsl C2 hW hkk (vin_p ⟨by decide, by decide⟩) dX7_init_586 (fun H locs hW => ?_)
  replace hW : Ws _ (wJ σz10 (a + 7) 11 (lN (wvN 11))) s.heap H locs := hW
  obtain ⟨hJ, e1, e2, e3⟩ := jst (i := 11) hJ e1 e2 e3
  generalize wJ σz10 (a + 7) 11 (lN (wvN 11)) = σz11 at hW hJ e1 e2 e3
  refine lv_aload_n C.1.1 C.1.2.1 dX7_init_587 rfl (lv_at hl 0 rfl) ?_
  have hkk := sh7_9 hW hk9
  refine gf7_9 C2 hW hk9 w_1039 dX7_init_588 ?_
  refine lv_bipush (v := 12) C.1.1 C.1.2.1 dX7_init_591 (by decide) ?_
  refine lv_bipush (v := 100) C.1.1 C.1.2.1 dX7_init_593 (by decide) ?_
  refine lv_bipush (v := 97) C.1.1 C.1.2.1 dX7_init_595 (by decide) ?_
  refine lv_bipush (v := 121) C.1.1 C.1.2.1 dX7_init_597 (by decide) ?_
  refine lv_iconst (v := 0) C.1.1 C.1.2.1 dX7_init_599 (by decide) ?_
  refine lv_iconst (v := 0) C.1.1 C.1.2.1 dX7_init_600 (by decide) ?_
  refine lv_iconst (v := 0) C.1.1 C.1.2.1 dX7_init_601 (by decide) ?_
  refine lv_iconst (v := 0) C.1.1 C.1.2.1 dX7_init_602 (by decide) ?_
  refine cSl C2 hW (mX7_word (word_v wd_12)) ksX7_word w_1016 ⟨(Nat.le_of_ble_eq_true rfl), (Nat.le_of_ble_eq_true rfl)⟩ ⟨(Nat.le_of_ble_eq_true rfl), (Nat.le_of_ble_eq_true rfl)⟩ rfl hl.1 (rest := [.int 12, .ref _]) rfl (Nat.le_of_ble_eq_true rfl) dX7_init_603 (fun H locs hW => ?_)
  refine wsl C2 hW hkk (vin_p ⟨by decide, by decide⟩) dX7_init_606 (fun H locs hW => ?_)
  replace hW : Ws _ (wJ σz11 (a + 7) 12 (lN (wvN 12))) s.heap H locs := hW
  obtain ⟨hJ, e1, e2, e3⟩ := jst (i := 12) hJ e1 e2 e3
  generalize wJ σz11 (a + 7) 12 (lN (wvN 12)) = σz12 at hW hJ e1 e2 e3
  refine lv_aload_n C.1.1 C.1.2.1 dX7_init_607 rfl (lv_at hl 0 rfl) ?_
  have hkk := sh7_9 hW hk9
  refine gf7_9 C2 hW hk9 w_1039 dX7_init_608 ?_
  refine lv_bipush (v := 13) C.1.1 C.1.2.1 dX7_init_611 (by decide) ?_
  refine lv_bipush (v := 119) C.1.1 C.1.2.1 dX7_init_613 (by decide) ?_
  refine lv_bipush (v := 97) C.1.1 C.1.2.1 dX7_init_615 (by decide) ?_
  refine lv_bipush (v := 105) C.1.1 C.1.2.1 dX7_init_617 (by decide) ?_
  refine lv_bipush (v := 116) C.1.1 C.1.2.1 dX7_init_619 (by decide) ?_
  refine lv_bipush (v := 101) C.1.1 C.1.2.1 dX7_init_621 (by decide) ?_
  refine lv_bipush (v := 100) C.1.1 C.1.2.1 dX7_init_623 (by decide) ?_
  refine lv_iconst (v := 0) C.1.1 C.1.2.1 dX7_init_625 (by decide) ?_
  refine cSl C2 hW (mX7_word (word_v wd_13)) ksX7_word w_1016 ⟨(Nat.le_of_ble_eq_true rfl), (Nat.le_of_ble_eq_true rfl)⟩ ⟨(Nat.le_of_ble_eq_true rfl), (Nat.le_of_ble_eq_true rfl)⟩ rfl hl.1 (rest := [.int 13, .ref _]) rfl (Nat.le_of_ble_eq_true rfl) dX7_init_626 (fun H locs hW => ?_)
  refine wsl C2 hW hkk (vin_p ⟨by decide, by decide⟩) dX7_init_629 (fun H locs hW => ?_)
  replace hW : Ws _ (wJ σz12 (a + 7) 13 (lN (wvN 13))) s.heap H locs := hW
  obtain ⟨hJ, e1, e2, e3⟩ := jst (i := 13) hJ e1 e2 e3
  generalize wJ σz12 (a + 7) 13 (lN (wvN 13)) = σz13 at hW hJ e1 e2 e3
  refine lv_aload_n C.1.1 C.1.2.1 dX7_init_630 rfl (lv_at hl 0 rfl) ?_
  have hkk := sh7_9 hW hk9
  refine gf7_9 C2 hW hk9 w_1039 dX7_init_631 ?_
  refine lv_bipush (v := 14) C.1.1 C.1.2.1 dX7_init_634 (by decide) ?_
  refine lv_bipush (v := 116) C.1.1 C.1.2.1 dX7_init_636 (by decide) ?_
  refine lv_bipush (v := 101) C.1.1 C.1.2.1 dX7_init_638 (by decide) ?_
  refine lv_bipush (v := 109) C.1.1 C.1.2.1 dX7_init_640 (by decide) ?_
  refine lv_bipush (v := 112) C.1.1 C.1.2.1 dX7_init_642 (by decide) ?_
  refine lv_bipush (v := 101) C.1.1 C.1.2.1 dX7_init_644 (by decide) ?_
  refine lv_bipush (v := 114) C.1.1 C.1.2.1 dX7_init_646 (by decide) ?_
  refine lv_iconst (v := 0) C.1.1 C.1.2.1 dX7_init_648 (by decide) ?_
  refine cSl C2 hW (mX7_word (word_v wd_14)) ksX7_word w_1016 ⟨(Nat.le_of_ble_eq_true rfl), (Nat.le_of_ble_eq_true rfl)⟩ ⟨(Nat.le_of_ble_eq_true rfl), (Nat.le_of_ble_eq_true rfl)⟩ rfl hl.1 (rest := [.int 14, .ref _]) rfl (Nat.le_of_ble_eq_true rfl) dX7_init_649 (fun H locs hW => ?_)
  refine wsl C2 hW hkk (vin_p ⟨by decide, by decide⟩) dX7_init_652 (fun H locs hW => ?_)
  replace hW : Ws _ (wJ σz13 (a + 7) 14 (lN (wvN 14))) s.heap H locs := hW
  obtain ⟨hJ, e1, e2, e3⟩ := jst (i := 14) hJ e1 e2 e3
  generalize wJ σz13 (a + 7) 14 (lN (wvN 14)) = σz14 at hW hJ e1 e2 e3
  refine lv_aload_n C.1.1 C.1.2.1 dX7_init_653 rfl (lv_at hl 0 rfl) ?_
  have hkk := sh7_9 hW hk9
  refine gf7_9 C2 hW hk9 w_1039 dX7_init_654 ?_
  refine lv_bipush (v := 15) C.1.1 C.1.2.1 dX7_init_657 (by decide) ?_
  refine lv_bipush (v := 111) C.1.1 C.1.2.1 dX7_init_659 (by decide) ?_
  refine lv_bipush (v := 116) C.1.1 C.1.2.1 dX7_init_661 (by decide) ?_
  refine lv_bipush (v := 104) C.1.1 C.1.2.1 dX7_init_663 (by decide) ?_
  refine lv_bipush (v := 101) C.1.1 C.1.2.1 dX7_init_665 (by decide) ?_
  refine lv_bipush (v := 114) C.1.1 C.1.2.1 dX7_init_667 (by decide) ?_
  refine lv_iconst (v := 0) C.1.1 C.1.2.1 dX7_init_669 (by decide) ?_
  refine lv_iconst (v := 0) C.1.1 C.1.2.1 dX7_init_670 (by decide) ?_
  refine cSl C2 hW (mX7_word (word_v wd_15)) ksX7_word w_1016 ⟨(Nat.le_of_ble_eq_true rfl), (Nat.le_of_ble_eq_true rfl)⟩ ⟨(Nat.le_of_ble_eq_true rfl), (Nat.le_of_ble_eq_true rfl)⟩ rfl hl.1 (rest := [.int 15, .ref _]) rfl (Nat.le_of_ble_eq_true rfl) dX7_init_671 (fun H locs hW => ?_)
  refine wsl C2 hW hkk (vin_p ⟨by decide, by decide⟩) dX7_init_674 (fun H locs hW => ?_)
  replace hW : Ws _ (wJ σz14 (a + 7) 15 (lN (wvN 15))) s.heap H locs := hW
  obtain ⟨hJ, e1, e2, e3⟩ := jst (i := 15) hJ e1 e2 e3
  generalize wJ σz14 (a + 7) 15 (lN (wvN 15)) = σz15 at hW hJ e1 e2 e3
  refine lv_aload_n C.1.1 C.1.2.1 dX7_init_675 rfl (lv_at hl 0 rfl) ?_
  have hkk := sh7_9 hW hk9
  refine gf7_9 C2 hW hk9 w_1039 dX7_init_676 ?_
  refine lv_bipush (v := 16) C.1.1 C.1.2.1 dX7_init_679 (by decide) ?_
  refine lv_bipush (v := 119) C.1.1 C.1.2.1 dX7_init_681 (by decide) ?_
  refine lv_bipush (v := 104) C.1.1 C.1.2.1 dX7_init_683 (by decide) ?_
  refine lv_bipush (v := 105) C.1.1 C.1.2.1 dX7_init_685 (by decide) ?_
  refine lv_bipush (v := 99) C.1.1 C.1.2.1 dX7_init_687 (by decide) ?_
  refine lv_bipush (v := 104) C.1.1 C.1.2.1 dX7_init_689 (by decide) ?_
  refine lv_iconst (v := 0) C.1.1 C.1.2.1 dX7_init_691 (by decide) ?_
  refine lv_iconst (v := 0) C.1.1 C.1.2.1 dX7_init_692 (by decide) ?_
  refine cSl C2 hW (mX7_word (word_v wd_16)) ksX7_word w_1016 ⟨(Nat.le_of_ble_eq_true rfl), (Nat.le_of_ble_eq_true rfl)⟩ ⟨(Nat.le_of_ble_eq_true rfl), (Nat.le_of_ble_eq_true rfl)⟩ rfl hl.1 (rest := [.int 16, .ref _]) rfl (Nat.le_of_ble_eq_true rfl) dX7_init_693 (fun H locs hW => ?_)
  refine wsl C2 hW hkk (vin_p ⟨by decide, by decide⟩) dX7_init_696 (fun H locs hW => ?_)
  replace hW : Ws _ (wJ σz15 (a + 7) 16 (lN (wvN 16))) s.heap H locs := hW
  obtain ⟨hJ, e1, e2, e3⟩ := jst (i := 16) hJ e1 e2 e3
  generalize wJ σz15 (a + 7) 16 (lN (wvN 16)) = σz16 at hW hJ e1 e2 e3
  refine lv_aload_n C.1.1 C.1.2.1 dX7_init_697 rfl (lv_at hl 0 rfl) ?_
  have hkk := sh7_9 hW hk9
  refine gf7_9 C2 hW hk9 w_1039 dX7_init_698 ?_
  refine lv_bipush (v := 17) C.1.1 C.1.2.1 dX7_init_701 (by decide) ?_
  refine lv_bipush (v := 105) C.1.1 C.1.2.1 dX7_init_703 (by decide) ?_
  refine lv_bipush (v := 110) C.1.1 C.1.2.1 dX7_init_705 (by decide) ?_
  refine lv_bipush (v := 115) C.1.1 C.1.2.1 dX7_init_707 (by decide) ?_
  refine lv_bipush (v := 105) C.1.1 C.1.2.1 dX7_init_709 (by decide) ?_
  refine lv_bipush (v := 100) C.1.1 C.1.2.1 dX7_init_711 (by decide) ?_
  refine lv_bipush (v := 101) C.1.1 C.1.2.1 dX7_init_713 (by decide) ?_
  refine lv_iconst (v := 0) C.1.1 C.1.2.1 dX7_init_715 (by decide) ?_
  refine cSl C2 hW (mX7_word (word_v wd_17)) ksX7_word w_1016 ⟨(Nat.le_of_ble_eq_true rfl), (Nat.le_of_ble_eq_true rfl)⟩ ⟨(Nat.le_of_ble_eq_true rfl), (Nat.le_of_ble_eq_true rfl)⟩ rfl hl.1 (rest := [.int 17, .ref _]) rfl (Nat.le_of_ble_eq_true rfl) dX7_init_716 (fun H locs hW => ?_)
  refine wsl C2 hW hkk (vin_p ⟨by decide, by decide⟩) dX7_init_719 (fun H locs hW => ?_)
  replace hW : Ws _ (wJ σz16 (a + 7) 17 (lN (wvN 17))) s.heap H locs := hW
  obtain ⟨hJ, e1, e2, e3⟩ := jst (i := 17) hJ e1 e2 e3
  generalize wJ σz16 (a + 7) 17 (lN (wvN 17)) = σz17 at hW hJ e1 e2 e3
  refine lv_aload_n C.1.1 C.1.2.1 dX7_init_720 rfl (lv_at hl 0 rfl) ?_
  have hkk := sh7_9 hW hk9
  refine gf7_9 C2 hW hk9 w_1039 dX7_init_721 ?_
  refine lv_bipush (v := 18) C.1.1 C.1.2.1 dX7_init_724 (by decide) ?_
  refine lv_bipush (v := 111) C.1.1 C.1.2.1 dX7_init_726 (by decide) ?_
  refine lv_bipush (v := 117) C.1.1 C.1.2.1 dX7_init_728 (by decide) ?_
  refine lv_bipush (v := 116) C.1.1 C.1.2.1 dX7_init_730 (by decide) ?_
  refine lv_bipush (v := 115) C.1.1 C.1.2.1 dX7_init_732 (by decide) ?_
  refine lv_bipush (v := 105) C.1.1 C.1.2.1 dX7_init_734 (by decide) ?_
  refine lv_bipush (v := 100) C.1.1 C.1.2.1 dX7_init_736 (by decide) ?_
  refine lv_bipush (v := 101) C.1.1 C.1.2.1 dX7_init_738 (by decide) ?_
  refine cSl C2 hW (mX7_word (word_v wd_18)) ksX7_word w_1016 ⟨(Nat.le_of_ble_eq_true rfl), (Nat.le_of_ble_eq_true rfl)⟩ ⟨(Nat.le_of_ble_eq_true rfl), (Nat.le_of_ble_eq_true rfl)⟩ rfl hl.1 (rest := [.int 18, .ref _]) rfl (Nat.le_of_ble_eq_true rfl) dX7_init_740 (fun H locs hW => ?_)
  refine wsl C2 hW hkk (vin_p ⟨by decide, by decide⟩) dX7_init_743 (fun H locs hW => ?_)
  replace hW : Ws _ (wJ σz17 (a + 7) 18 (lN (wvN 18))) s.heap H locs := hW
  obtain ⟨hJ, e1, e2, e3⟩ := jst (i := 18) hJ e1 e2 e3
  generalize wJ σz17 (a + 7) 18 (lN (wvN 18)) = σz18 at hW hJ e1 e2 e3
  refine lv_aload_n C.1.1 C.1.2.1 dX7_init_744 rfl (lv_at hl 0 rfl) ?_
  have hkk := sh7_9 hW hk9
  refine gf7_9 C2 hW hk9 w_1039 dX7_init_745 ?_
  refine lv_bipush (v := 19) C.1.1 C.1.2.1 dX7_init_748 (by decide) ?_
  refine lv_bipush (v := 107) C.1.1 C.1.2.1 dX7_init_750 (by decide) ?_
  refine lv_bipush (v := 101) C.1.1 C.1.2.1 dX7_init_752 (by decide) ?_
  refine lv_bipush (v := 121) C.1.1 C.1.2.1 dX7_init_754 (by decide) ?_
  refine lv_bipush (v := 115) C.1.1 C.1.2.1 dX7_init_756 (by decide) ?_
  refine lv_iconst (v := 0) C.1.1 C.1.2.1 dX7_init_758 (by decide) ?_
  refine lv_iconst (v := 0) C.1.1 C.1.2.1 dX7_init_759 (by decide) ?_
  refine lv_iconst (v := 0) C.1.1 C.1.2.1 dX7_init_760 (by decide) ?_
  refine cSl C2 hW (mX7_word (word_v wd_19)) ksX7_word w_1016 ⟨(Nat.le_of_ble_eq_true rfl), (Nat.le_of_ble_eq_true rfl)⟩ ⟨(Nat.le_of_ble_eq_true rfl), (Nat.le_of_ble_eq_true rfl)⟩ rfl hl.1 (rest := [.int 19, .ref _]) rfl (Nat.le_of_ble_eq_true rfl) dX7_init_761 (fun H locs hW => ?_)
  refine wsl C2 hW hkk (vin_p ⟨by decide, by decide⟩) dX7_init_764 (fun H locs hW => ?_)
  replace hW : Ws _ (wJ σz18 (a + 7) 19 (lN (wvN 19))) s.heap H locs := hW
  obtain ⟨hJ, e1, e2, e3⟩ := jst (i := 19) hJ e1 e2 e3
  generalize wJ σz18 (a + 7) 19 (lN (wvN 19)) = σz19 at hW hJ e1 e2 e3
  have b18 : σz19.1 a 18 = nI 0 := by rw [e1, c2.1 _ _ (by omega), hZ0]; rfl
  have b9 : σz19.1 (a + 9) 0 = nI 0 := by rw [e1]; exact c3
  have b14 : σz19.1 (a + 14) 0 = nI 0 := by rw [e1]; exact c4
  obtain ⟨τ2, d1, d2, d3, d4, d5⟩ := m_begins (M := a) (σ := σz19) (ℓ := 0) (n := 0) (m := 0) (by omega) (by omega) (by omega) b18 b9 b14
  obtain ⟨τ3, f1, f2, f3⟩ := m_keeps (M := a) (σ := τ2)
  refine lv_aload_n C.1.1 C.1.2.1 dX7_init_765 rfl (lv_at hl 0 rfl) ?_
  refine cVv C2 hW (mX7_begins hk9 d1) hk9 kvX7_begins w_1023 ⟨(Nat.le_of_ble_eq_true rfl), (Nat.le_of_ble_eq_true rfl)⟩ ⟨(Nat.le_of_ble_eq_true rfl), (Nat.le_of_ble_eq_true rfl)⟩ rfl hl.1 (rest := []) rfl (Nat.le_of_ble_eq_true rfl) dX7_init_766 (fun H locs hW => ?_)
  refine lv_aload_n C.1.1 C.1.2.1 dX7_init_769 rfl (lv_at hl 0 rfl) ?_
  refine cVv C2 hW (mX7_keepsRow hk9 f1) hk9 kvX7_keepsRow w_1027 ⟨(Nat.le_of_ble_eq_true rfl), (Nat.le_of_ble_eq_true rfl)⟩ ⟨(Nat.le_of_ble_eq_true rfl), (Nat.le_of_ble_eq_true rfl)⟩ rfl hl.1 (rest := []) rfl (Nat.le_of_ble_eq_true rfl) dX7_init_770 (fun H locs hW => ?_)
  have fr : ∀ k j, k ≠ a + 30 → k ≠ a + 31 → ¬ (k = a ∧ 49 ≤ j ∧ j ≤ 51) → τ3.1 k j = τ.1 k j := fun k j z1 z2 z3 => by rw [f2.1 _ _ z1, d2.1 _ _ (by omega), e1]
  refine rx hQ C hr hlk hG2 ⟨?_, ?_, fun j hj => ?_, ⟨?_, ?_, ?_⟩, fun k hk => ⟨?_, ?_⟩, fun q hq => ?_, fun x x1 x2 => ?_, fun k hk => ?_⟩ hW dX7_init_773
  · refine PBx.fs (PBx.fs ?_ d2 (fun x j q => by omega)) f2 (fun x j q => by omega)
    obtain ⟨q1, q2, q3, q4⟩ := hPB
    refine ⟨q1, q2, q3, fun x hx => ?_⟩
    obtain ⟨w1, w2, w3, w4⟩ := q4 x hx
    exact ⟨by rw [e1]; exact w1, by rw [e3 x (by omega)]; exact w2, by rw [e2]; exact w3, by rw [e2]; exact w4⟩
  · rw [fr _ _ (by omega) (by omega) (by omega), c2.1 _ _ (by omega), hZ0]; rfl
  · rw [fr _ _ (by omega) (by omega) (by omega), c2.1 _ _ (by omega), hZ0, if_neg (by omega)]
  · rw [fr _ _ (by omega) (by omega) (by omega)]; exact c3
  · rw [fr _ _ (by omega) (by omega) (by omega)]; exact c4
  · rw [fr _ _ (by omega) (by omega) (by omega)]; exact c5
  · rw [fr _ _ (by omega) (by omega) (by omega)]; have := (c7 k hk).1; rw [show 4 * 0 + k = k by omega] at this; exact this
  · rw [fr _ _ (by omega) (by omega) (by omega)]; have := (c7 k hk).2; rw [show 4 * 0 + k = k by omega] at this; exact this
  · rw [fr _ _ (by omega) (by omega) (by omega), c2.1 _ _ (by omega)]; exact hZ2 38 (by omega) (by omega) q
  · rw [f3 x x2]; exact d4 x (by omega) x2 (by omega)
  · rw [f2.2, d2.2]; exact hJ k hk
