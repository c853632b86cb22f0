theorem of_Wn {l : Launch} {G : Gm} {y : MethodName} {bc : ByteArray} {mL : Nat} {fr lo mc ms : Nat} {as : List Value} {σ : Sg} {Qc : Array Value → State → Outcome → State → Prop} (own : String) (hown : y.cls = own) (hy : plainName y.cls = true) (hlen : (lg_sl as).length ≤ mL)
    (body : ∀ (p : Program) (e : Env) (s : State) (m : MethodId) (args : Array Value) (below : List Frame) (meth : Method) (c : Code) (Q : State → Prop), Q = MQ below Qc args s mc ms (fR G) → Cx p s m args c bc own mL (.code y bc mL none) G → meth.sig.returnType = none → meth.locks = false → meth.name = y.name → Ws G σ s.heap s.heap [] → ∀ ls, lv_has ls mL (lv_args 0 as) → W p l e { frames := fr, cells := mc, slots := ms, locals := lo } s m args below meth c s.heap [] 0 0 Q (F0 m 0 ls [])) : Met l y (.code y bc mL none :: TB) { frames := fr, cells := mc, slots := ms, locals := lo } (PW G as σ) Qc mc ms (fR G) := by
  refine Met.ofW (cc := bc) (maxL := mL) (ret := none) hy rfl ?_
  intro p e s m args below meth c s₁ B hml hv
  obtain ⟨rfl, hWo, hKK⟩ := hv
  subst hown
  have hl := lv_entry as (n := mL) hlen
  rw [lg_entry_eq]
  generalize (lg_sl as ++ List.replicate (mL - (lg_sl as).length) Slot.unset).toArray = ls at hl ⊢
  exact body p e s m _ below meth c _ rfl ⟨⟨B.exec, B.bytes, hml, findClass_of_methodNamed B.named, atoms_spec (ws := .code y bc mL none :: TB) B.pre⟩, hKK⟩ B.returns B.notSynchronized (name_of_methodNamed B.named B.method).1 ⟨hWo, va_S.rf⟩ ls hl
theorem gpk9 {G : Gm} {σ : Sg} {H0 H : Heap} {locs : List Loc} (_ : Ws (gPush G 9) σ H0 H locs) : gK (gPush G 9) (gN G) = 9 := by
  show va_up (gK G) (gN G) 9 (gN G) = 9
  simp [va_up]
theorem gkk {G : Gm} {k c : Nat} {σ : Sg} {H0 H : Heap} {locs : List Loc} (_ : Ws (gKind G k c) σ H0 H locs) : gK (gKind G k c) k = c := by
  show va_up (gK G) k c k = c
  simp [va_up]
theorem zEk9 {G : Gm} {σ : Sg} {k : Nat} {e : va_E} {H0 H : Heap} {locs : List Loc} (_ : Ws G (zE σ k e) H0 H locs) : (zE σ k e).2.2.2 k = e := by simp [zE, wE, va_up]
theorem df0 : ∀ j, j < 5 → defaultValue (tyX0 j) = vp_V [.null, .int 0, .null, .null, .null] j := fun j hj => by
  match j, hj with
  | 0, _ => rfl
  | 1, _ => rfl
  | 2, _ => rfl
  | 3, _ => rfl
  | 4, _ => rfl
  | j + 5, hj => exact absurd hj (by omega)
theorem df1 : ∀ j, j < 7 → defaultValue (tyX1 j) = vp_V [.null, .int 0, .null, .int 0, .int 0, .int 0, .int 0] j := fun j hj => by
  match j, hj with
  | 0, _ => rfl
  | 1, _ => rfl
  | 2, _ => rfl
  | 3, _ => rfl
  | 4, _ => rfl
  | 5, _ => rfl
  | 6, _ => rfl
  | j + 7, hj => exact absurd hj (by omega)
theorem df2 : ∀ j, j < 20 → defaultValue (tyX2 j) = vp_V [.null, .int 0, .int 0, .int 0, .int 0, .int 0, .int 0, .int 0, .int 0, .int 0, .int 0, .int 0, .null, .null, .null, .null, .null, .null, .null, .null] j := fun j hj => by
  match j, hj with
  | 0, _ => rfl
  | 1, _ => rfl
  | 2, _ => rfl
  | 3, _ => rfl
  | 4, _ => rfl
  | 5, _ => rfl
  | 6, _ => rfl
  | 7, _ => rfl
  | 8, _ => rfl
  | 9, _ => rfl
  | 10, _ => rfl
  | 11, _ => rfl
  | 12, _ => rfl
  | 13, _ => rfl
  | 14, _ => rfl
  | 15, _ => rfl
  | 16, _ => rfl
  | 17, _ => rfl
  | 18, _ => rfl
  | 19, _ => rfl
  | j + 20, hj => exact absurd hj (by omega)
theorem df3 : ∀ j, j < 11 → defaultValue (tyX3 j) = vp_V [.int 0, .int 0, .int 0, .int 0, .null, .null, .null, .null, .null, .null, .null] j := fun j hj => by
  match j, hj with
  | 0, _ => rfl
  | 1, _ => rfl
  | 2, _ => rfl
  | 3, _ => rfl
  | 4, _ => rfl
  | 5, _ => rfl
  | 6, _ => rfl
  | 7, _ => rfl
  | 8, _ => rfl
  | 9, _ => rfl
  | 10, _ => rfl
  | j + 11, hj => exact absurd hj (by omega)
theorem df4 : ∀ j, j < 4 → defaultValue (tyX4 j) = vp_V [.null, .null, .null, .int 0] j := fun j hj => by
  match j, hj with
  | 0, _ => rfl
  | 1, _ => rfl
  | 2, _ => rfl
  | 3, _ => rfl
  | j + 4, hj => exact absurd hj (by omega)
theorem df5 : ∀ j, j < 5 → defaultValue (tyX5 j) = vp_V [.null, .int 0, .int 0, .int 0, .int 0] j := fun j hj => by
  match j, hj with
  | 0, _ => rfl
  | 1, _ => rfl
  | 2, _ => rfl
  | 3, _ => rfl
  | 4, _ => rfl
  | j + 5, hj => exact absurd hj (by omega)
theorem df6 : ∀ j, j < 18 → defaultValue (tyX6 j) = vp_V [.null, .int 0, .int 0, .null, .null, .null, .null, .null, .null, .null, .int 0, .int 0, .null, .int 0, .null, .int 0, .int 0, .null] j := fun j hj => by
  match j, hj with
  | 0, _ => rfl
  | 1, _ => rfl
  | 2, _ => rfl
  | 3, _ => rfl
  | 4, _ => rfl
  | 5, _ => rfl
  | 6, _ => rfl
  | 7, _ => rfl
  | 8, _ => rfl
  | 9, _ => rfl
  | 10, _ => rfl
  | 11, _ => rfl
  | 12, _ => rfl
  | 13, _ => rfl
  | 14, _ => rfl
  | 15, _ => rfl
  | 16, _ => rfl
  | 17, _ => rfl
  | j + 18, hj => exact absurd hj (by omega)
theorem df7 : ∀ j, j < 67 → defaultValue (tyX7 j) = vp_V [.int 0, .null, .int 0, .null, .int 0, .null, .null, .null, .null, .null, .int 0, .int 0, .int 0, .int 0, .int 0, .int 0, .int 0, .int 0, .int 0, .int 0, .int 0, .null, .null, .null, .null, .null, .null, .null, .null, .null, .null, .null, .null, .int 0, .null, .null, .null, .null, .null, .int 0, .null, .null, .null, .int 0, .null, .null, .int 0, .null, .null, .int 0, .int 0, .int 0, .null, .int 0, .null, .null, .int 0, .int 0, .int 0, .int 0, .int 0, .int 0, .null, .null, .null, .null, .null] j := fun j hj => by
  match j, hj with
  | 0, _ => rfl
  | 1, _ => rfl
  | 2, _ => rfl
  | 3, _ => rfl
  | 4, _ => rfl
  | 5, _ => rfl
  | 6, _ => rfl
  | 7, _ => rfl
  | 8, _ => rfl
  | 9, _ => rfl
  | 10, _ => rfl
  | 11, _ => rfl
  | 12, _ => rfl
  | 13, _ => rfl
  | 14, _ => rfl
  | 15, _ => rfl
  | 16, _ => rfl
  | 17, _ => rfl
  | 18, _ => rfl
  | 19, _ => rfl
  | 20, _ => rfl
  | 21, _ => rfl
  | 22, _ => rfl
  | 23, _ => rfl
  | 24, _ => rfl
  | 25, _ => rfl
  | 26, _ => rfl
  | 27, _ => rfl
  | 28, _ => rfl
  | 29, _ => rfl
  | 30, _ => rfl
  | 31, _ => rfl
  | 32, _ => rfl
  | 33, _ => rfl
  | 34, _ => rfl
  | 35, _ => rfl
  | 36, _ => rfl
  | 37, _ => rfl
  | 38, _ => rfl
  | 39, _ => rfl
  | 40, _ => rfl
  | 41, _ => rfl
  | 42, _ => rfl
  | 43, _ => rfl
  | 44, _ => rfl
  | 45, _ => rfl
  | 46, _ => rfl
  | 47, _ => rfl
  | 48, _ => rfl
  | 49, _ => rfl
  | 50, _ => rfl
  | 51, _ => rfl
  | 52, _ => rfl
  | 53, _ => rfl
  | 54, _ => rfl
  | 55, _ => rfl
  | 56, _ => rfl
  | 57, _ => rfl
  | 58, _ => rfl
  | 59, _ => rfl
  | 60, _ => rfl
  | 61, _ => rfl
  | 62, _ => rfl
  | 63, _ => rfl
  | 64, _ => rfl
  | 65, _ => rfl
  | 66, _ => rfl
  | j + 67, hj => exact absurd hj (by omega)
theorem kiX0_init : KI yX0_init cX0_init 1 0 := ⟨⟨w_142, w_111, w_143⟩, rfl, ⟨by decide, by decide, by decide +kernel⟩⟩
noncomputable def fX0_init (a0 : Nat) (G : Gm) (σ : Sg) : Option (Gm × Sg) := let i1 := gN G; let G2 := gPush G (kA 1 408); let σ3 := z0 σ i1; gdP (gK G2 a0 = 9) (let σ4 := wE σ3 a0 (.inr (0, [.ref (gB G + i1), .int 0, .null, .null, .null])); let σ5 := wE σ4 a0 (.inr (0, [.ref (gB G + i1), .int 0, .null, .null, .null])); let i6 := gN G2; let G7 := gPush G2 (kA 1 4); let σ8 := z0 σ5 i6; gdP (gK G7 a0 = 9) (let σ9 := wE σ8 a0 (.inr (0, [.ref (gB G + i1), .int 0, .ref (gB G + i6), .null, .null])); let i10 := gN G7; let G11 := gPush G7 (kA 1 9); let σ12 := z0 σ9 i10; gdP (gK G11 a0 = 9) (let σ13 := wE σ12 a0 (.inr (0, [.ref (gB G + i1), .int 0, .ref (gB G + i6), .ref (gB G + i10), .null])); let i14 := gN G11; let G15 := gPush G11 (kA 1 24); let σ16 := z0 σ13 i14; gdP (gK G15 a0 = 9) (let σ17 := wE σ16 a0 (.inr (0, [.ref (gB G + i1), .int 0, .ref (gB G + i6), .ref (gB G + i10), .ref (gB G + i14)])); let σ18 := wR σ17 a0 (fun j => 0); gdP (clE (gC G15) (gB G15) σ18 a0 1 = .inr (0, [.ref (gB G + i1), .int 0, .ref (gB G + i6), .ref (gB G + i10), .ref (gB G + i14)]) ∧ Sh (va_up (gK G15) a0 1) (gN G15) σ18.2.2.1 ∧ gK G15 a0 = 9) (let G19 := gKind G15 a0 1; (fX0_clear a0 σ18).bind (fun σ20 => some (G19, σ20)))))))
set_option maxRecDepth 100000 in
set_option maxHeartbeats 4000000 in
theorem fSX0_init {G : Gm} {a0 : Nat} {σ : Sg} {G' : Gm} {σ' : Sg} (hf : fX0_init a0 G σ = some (G', σ')) : gS G G' := by
  delta fX0_init at hf
  have hG : gS G G := gS.rf
  replace hG := hG.tr (gS.push _ (kA 1 408))
  obtain ⟨-, hf⟩ := gdP_s hf
  replace hG := hG.tr (gS.push _ (kA 1 4))
  obtain ⟨-, hf⟩ := gdP_s hf
  replace hG := hG.tr (gS.push _ (kA 1 9))
  obtain ⟨-, hf⟩ := gdP_s hf
  replace hG := hG.tr (gS.push _ (kA 1 24))
  obtain ⟨-, hf⟩ := gdP_s hf
  obtain ⟨-, hf⟩ := gdP_s hf
  replace hG := hG.tr (gS.kind _ a0 1)
  obtain ⟨σ20, hc21, hf⟩ := bd hf
  cases hf
  exact hG
set_option maxRecDepth 100000 in
set_option maxHeartbeats 4000000 in
theorem mX0_init {l : Launch} {G : Gm} {a0 : Nat} {σ : Sg} {G' : Gm} {σ' : Sg} (hk_a0 : gK G a0 = 9) (hE_a0 : σ.2.2.2 a0 = .inr (0, [.null, .int 0, .null, .null, .null]))  (hf : fX0_init a0 G σ = some (G', σ')) : Mn l G yX0_init cX0_init 1 3 66 4 445 [.ref (gB G + a0)] σ G' σ' := by
  refine ⟨fSX0_init hf, ?_⟩
  refine of_Wn "RightKeys$Laws" rfl (by decide) (Nat.le_of_ble_eq_true rfl) ?_
  intro p e s m args below meth c Q hQ C hr hlk hin2 hW ls hl
  have hl : lv_has ls 1 [(0, .ref (gB G + a0))] := hl
  have hG : gS G G := gS.rf
  delta fX0_init at hf
  refine lv_aload_n C.1.1 C.1.2.1 dX0_init_0 rfl (lv_at hl 0 rfl) ?_
  refine W.objInit C.1.1 C.1.2.1 C.1.2.2.2.1 (C.w w_144) (C.w w_131) (C.w w_132) rfl (hl.1.trans C.1.2.2.1.symm) rfl dX0_init_1 (Nat.le_of_ble_eq_true rfl) (Nat.le_of_ble_eq_true rfl) ?_
  refine W.eq (g2 := F0 m 4 ls []) rfl ?_
  refine lv_aload_n C.1.1 C.1.2.1 dX0_init_4 rfl (lv_at hl 0 rfl) ?_
  refine lv_sipush (v := 408) C.1.1 C.1.2.1 dX0_init_5 (by decide) ?_
  refine wnI C hW w_178 (N := 408) (by decide) (by decide) (Nat.le_of_ble_eq_true rfl) (Nat.le_of_ble_eq_true rfl) (Nat.le_of_ble_eq_true rfl) dX0_init_8 (fun H hW => ?_)
  replace hG := hG.tr (gS.push _ (kA 1 408))
  replace C := (gS.push _ (kA 1 408)).Cx C
  obtain ⟨hk_a0, hf⟩ := gdP_s hf
  refine wpF C hW hin2 tbX0 tyX0 tyX0_ok nmX0 (ci := 0) rfl hk_a0 hE_a0 0 (by decide) w_157 rfl rfl (ty := .array .int) (v := .ref (gB G + _)) (by decide +kernel) rfl rfl (Nat.le_of_ble_eq_true rfl) dX0_init_10 (fun H locs hW hE_a0 => ?_)
  refine lv_aload_n C.1.1 C.1.2.1 dX0_init_13 rfl (lv_at hl 0 rfl) ?_
  refine lv_iconst (v := 0) C.1.1 C.1.2.1 dX0_init_14 (by decide) ?_
  refine wpR C hW tbX0 tyX0 tyX0_ok nmX0 (ci := 0) rfl hk_a0 hE_a0 1 (by decide) w_158 rfl (ty := .int) (v := .int 0) (by decide +kernel) rfl rfl (Nat.le_of_ble_eq_true rfl) dX0_init_15 (fun H locs hW hE_a0 => ?_)
  refine lv_aload_n C.1.1 C.1.2.1 dX0_init_18 rfl (lv_at hl 0 rfl) ?_
  refine lv_iconst (v := 4) C.1.1 C.1.2.1 dX0_init_19 (by decide) ?_
  refine wnI C hW w_178 (N := 4) (by decide) (by decide) (Nat.le_of_ble_eq_true rfl) (Nat.le_of_ble_eq_true rfl) (Nat.le_of_ble_eq_true rfl) dX0_init_20 (fun H hW => ?_)
  replace hG := hG.tr (gS.push _ (kA 1 4))
  replace C := (gS.push _ (kA 1 4)).Cx C
  obtain ⟨hk_a0, hf⟩ := gdP_s hf
  refine wpF C hW hin2 tbX0 tyX0 tyX0_ok nmX0 (ci := 0) rfl hk_a0 hE_a0 2 (by decide) w_160 rfl rfl (ty := .array .int) (v := .ref (gB G + _)) (by decide +kernel) rfl rfl (Nat.le_of_ble_eq_true rfl) dX0_init_22 (fun H locs hW hE_a0 => ?_)
  refine lv_aload_n C.1.1 C.1.2.1 dX0_init_25 rfl (lv_at hl 0 rfl) ?_
  refine lv_bipush (v := 9) C.1.1 C.1.2.1 dX0_init_26 (by decide) ?_
  refine wnI C hW w_178 (N := 9) (by decide) (by decide) (Nat.le_of_ble_eq_true rfl) (Nat.le_of_ble_eq_true rfl) (Nat.le_of_ble_eq_true rfl) dX0_init_28 (fun H hW => ?_)
  replace hG := hG.tr (gS.push _ (kA 1 9))
  replace C := (gS.push _ (kA 1 9)).Cx C
  obtain ⟨hk_a0, hf⟩ := gdP_s hf
  refine wpF C hW hin2 tbX0 tyX0 tyX0_ok nmX0 (ci := 0) rfl hk_a0 hE_a0 3 (by decide) w_162 rfl rfl (ty := .array .int) (v := .ref (gB G + _)) (by decide +kernel) rfl rfl (Nat.le_of_ble_eq_true rfl) dX0_init_30 (fun H locs hW hE_a0 => ?_)
  refine lv_aload_n C.1.1 C.1.2.1 dX0_init_33 rfl (lv_at hl 0 rfl) ?_
  refine lv_bipush (v := 24) C.1.1 C.1.2.1 dX0_init_34 (by decide) ?_
  refine wnI C hW w_178 (N := 24) (by decide) (by decide) (Nat.le_of_ble_eq_true rfl) (Nat.le_of_ble_eq_true rfl) (Nat.le_of_ble_eq_true rfl) dX0_init_36 (fun H hW => ?_)
  replace hG := hG.tr (gS.push _ (kA 1 24))
  replace C := (gS.push _ (kA 1 24)).Cx C
  obtain ⟨hk_a0, hf⟩ := gdP_s hf
  refine wpF C hW hin2 tbX0 tyX0 tyX0_ok nmX0 (ci := 0) rfl hk_a0 hE_a0 4 (by decide) w_164 rfl rfl (ty := .array .int) (v := .ref (gB G + _)) (by decide +kernel) rfl rfl (Nat.le_of_ble_eq_true rfl) dX0_init_38 (fun H locs hW hE_a0 => ?_)
  obtain ⟨⟨he9, hs9, hk9⟩, hf⟩ := gdP_s hf
  replace hW : Ws (gKind _ a0 1) _ s.heap _ _ := ⟨hW.1.kind hk9 (he9.trans hE_a0.symm) (fun x hx => by simp [wT, wR, va_up, hx]) hs9, hW.2⟩
  replace hG := hG.tr (gS.kind _ a0 1)
  replace C := (gS.kind _ a0 1).Cx C
  replace hk_a0 := gkk hW
  refine lv_aload_n C.1.1 C.1.2.1 dX0_init_41 rfl (lv_at hl 0 rfl) ?_
  obtain ⟨σ20, hc21, hf⟩ := bd hf
  refine cVv C hW (mX0_clear hk_a0 hc21) hk_a0 kvX0_clear w_145 ⟨(Nat.le_of_ble_eq_true rfl), (Nat.le_of_ble_eq_true rfl)⟩ ⟨(Nat.le_of_ble_eq_true rfl), (Nat.le_of_ble_eq_true rfl)⟩ rfl hl.1 (rest := []) rfl (Nat.le_of_ble_eq_true rfl) dX0_init_42 (fun H locs hW => ?_)
  exact rn hQ C hr hlk hG hW hf dX0_init_45
theorem kiX3_init : KI yX3_init cX3_init 1 0 := ⟨⟨w_136, w_110, w_137⟩, rfl, ⟨by decide, by decide, by decide +kernel⟩⟩
noncomputable def fX3_init (a0 : Nat) (G : Gm) (σ : Sg) : Option (Gm × Sg) := let σ1 := wE σ a0 (.inr (3, [.int 0, .int 0, .int 0, .int 0, .null, .null, .null, .null, .null, .null, .null])); let σ2 := wE σ1 a0 (.inr (3, [.int 0, .int 0, .int 0, .int 0, .null, .null, .null, .null, .null, .null, .null])); let σ3 := wE σ2 a0 (.inr (3, [.int 0, .int 0, .int 0, .int 0, .null, .null, .null, .null, .null, .null, .null])); let σ4 := wE σ3 a0 (.inr (3, [.int 0, .int 0, .int 0, .int 0, .null, .null, .null, .null, .null, .null, .null])); let i5 := gN G; let G6 := gPush G (kA 2 8); let σ7 := z0 σ4 i5; gdP (gK G6 a0 = 9) (let σ8 := wE σ7 a0 (.inr (3, [.int 0, .int 0, .int 0, .int 0, .ref (gB G + i5), .null, .null, .null, .null, .null, .null])); let i9 := gN G6; let G10 := gPush G6 (kA 1 8); let σ11 := z0 σ8 i9; gdP (gK G10 a0 = 9) (let σ12 := wE σ11 a0 (.inr (3, [.int 0, .int 0, .int 0, .int 0, .ref (gB G + i5), .ref (gB G + i9), .null, .null, .null, .null, .null])); let i13 := gN G10; let G14 := gPush G10 (kA 1 8); let σ15 := z0 σ12 i13; gdP (gK G14 a0 = 9) (let σ16 := wE σ15 a0 (.inr (3, [.int 0, .int 0, .int 0, .int 0, .ref (gB G + i5), .ref (gB G + i9), .ref (gB G + i13), .null, .null, .null, .null])); let i17 := gN G14; let G18 := gPush G14 (kA 1 8); let σ19 := z0 σ16 i17; gdP (gK G18 a0 = 9) (let σ20 := wE σ19 a0 (.inr (3, [.int 0, .int 0, .int 0, .int 0, .ref (gB G + i5), .ref (gB G + i9), .ref (gB G + i13), .ref (gB G + i17), .null, .null, .null])); let i21 := gN G18; let G22 := gPush G18 (kA 1 6); let σ23 := z0 σ20 i21; gdP (gK G22 a0 = 9) (let σ24 := wE σ23 a0 (.inr (3, [.int 0, .int 0, .int 0, .int 0, .ref (gB G + i5), .ref (gB G + i9), .ref (gB G + i13), .ref (gB G + i17), .ref (gB G + i21), .null, .null])); let i25 := gN G22; let G26 := gPush G22 (kA 1 6); let σ27 := z0 σ24 i25; gdP (gK G26 a0 = 9) (let σ28 := wE σ27 a0 (.inr (3, [.int 0, .int 0, .int 0, .int 0, .ref (gB G + i5), .ref (gB G + i9), .ref (gB G + i13), .ref (gB G + i17), .ref (gB G + i21), .ref (gB G + i25), .null])); let i31 := gN G26; let G30 := gPush G26 9; let σ29 := zE σ28 i31 (.inr (0, [.null, .int 0, .null, .null, .null])); gdP (σ29.2.2.2 a0 = .inr (3, [.int 0, .int 0, .int 0, .int 0, .ref (gB G + i5), .ref (gB G + i9), .ref (gB G + i13), .ref (gB G + i17), .ref (gB G + i21), .ref (gB G + i25), .null]) ∧ gK G30 a0 = 9) ((fX0_init i31 G30 σ29).bind (fun q37 => let G35 := q37.1; let σ36 := q37.2; gdP (σ36.2.2.2 a0 = .inr (3, [.int 0, .int 0, .int 0, .int 0, .ref (gB G + i5), .ref (gB G + i9), .ref (gB G + i13), .ref (gB G + i17), .ref (gB G + i21), .ref (gB G + i25), .null]) ∧ gK G35 a0 = 9 ∧ gK G35 i31 = 1) (let σ40 := wE σ36 a0 (.inr (3, [.int 0, .int 0, .int 0, .int 0, .ref (gB G + i5), .ref (gB G + i9), .ref (gB G + i13), .ref (gB G + i17), .ref (gB G + i21), .ref (gB G + i25), .ref (gB G + i31)])); let σ41 := wR σ40 a0 (fun j => 0); gdP (clE (gC G35) (gB G35) σ41 a0 4 = .inr (3, [.int 0, .int 0, .int 0, .int 0, .ref (gB G + i5), .ref (gB G + i9), .ref (gB G + i13), .ref (gB G + i17), .ref (gB G + i21), .ref (gB G + i25), .ref (gB G + i31)]) ∧ Sh (va_up (gK G35) a0 4) (gN G35) σ41.2.2.1 ∧ gK G35 a0 = 9) (let G42 := gKind G35 a0 4; some (G42, σ41)))))))))))
set_option maxRecDepth 100000 in
set_option maxHeartbeats 4000000 in
theorem fSX3_init {G : Gm} {a0 : Nat} {σ : Sg} {G' : Gm} {σ' : Sg} (hf : fX3_init a0 G σ = some (G', σ')) : gS G G' := by
  delta fX3_init at hf
  have hG : gS G G := gS.rf
  replace hG := hG.tr (gS.push _ (kA 2 8))
  obtain ⟨-, hf⟩ := gdP_s hf
  replace hG := hG.tr (gS.push _ (kA 1 8))
  obtain ⟨-, hf⟩ := gdP_s hf
  replace hG := hG.tr (gS.push _ (kA 1 8))
  obtain ⟨-, hf⟩ := gdP_s hf
  replace hG := hG.tr (gS.push _ (kA 1 8))
  obtain ⟨-, hf⟩ := gdP_s hf
  replace hG := hG.tr (gS.push _ (kA 1 6))
  obtain ⟨-, hf⟩ := gdP_s hf
  replace hG := hG.tr (gS.push _ (kA 1 6))
  obtain ⟨-, hf⟩ := gdP_s hf
  replace hG := hG.tr (gS.push _ 9)
  obtain ⟨-, hf⟩ := gdP_s hf
  obtain ⟨⟨G35, σ36⟩, hc34, hf⟩ := bd hf
  try dsimp only at hf
  replace hG := hG.tr (fSX0_init hc34)
  obtain ⟨-, hf⟩ := gdP_s hf
  obtain ⟨-, hf⟩ := gdP_s hf
  replace hG := hG.tr (gS.kind _ a0 4)
  cases hf
  exact hG
set_option maxRecDepth 100000 in
set_option maxHeartbeats 4000000 in
theorem mX3_init {l : Launch} {G : Gm} {a0 : Nat} {σ : Sg} {G' : Gm} {σ' : Sg} (hk_a0 : gK G a0 = 9) (hE_a0 : σ.2.2.2 a0 = .inr (3, [.int 0, .int 0, .int 0, .int 0, .null, .null, .null, .null, .null, .null, .null]))  (hf : fX3_init a0 G σ = some (G', σ')) : Mn l G yX3_init cX3_init 1 4 86 11 494 [.ref (gB G + a0)] σ G' σ' := by
  refine ⟨fSX3_init hf, ?_⟩
  refine of_Wn "RightKeys$Text" rfl (by decide) (Nat.le_of_ble_eq_true rfl) ?_
  intro p e s m args below meth c Q hQ C hr hlk hin2 hW ls hl
  have hl : lv_has ls 1 [(0, .ref (gB G + a0))] := hl
  have hG : gS G G := gS.rf
  delta fX3_init at hf
  refine lv_aload_n C.1.1 C.1.2.1 dX3_init_0 rfl (lv_at hl 0 rfl) ?_
  refine W.objInit C.1.1 C.1.2.1 C.1.2.2.2.1 (C.w w_138) (C.w w_131) (C.w w_132) rfl (hl.1.trans C.1.2.2.1.symm) rfl dX3_init_1 (Nat.le_of_ble_eq_true rfl) (Nat.le_of_ble_eq_true rfl) ?_
  refine W.eq (g2 := F0 m 4 ls []) rfl ?_
  refine lv_aload_n C.1.1 C.1.2.1 dX3_init_4 rfl (lv_at hl 0 rfl) ?_
  refine lv_iconst (v := 0) C.1.1 C.1.2.1 dX3_init_5 (by decide) ?_
  refine wpR C hW tbX3 tyX3 tyX3_ok nmX3 (ci := 3) rfl hk_a0 hE_a0 0 (by decide) w_179 rfl (ty := .int) (v := .int 0) (by decide +kernel) rfl rfl (Nat.le_of_ble_eq_true rfl) dX3_init_6 (fun H locs hW hE_a0 => ?_)
  refine lv_aload_n C.1.1 C.1.2.1 dX3_init_9 rfl (lv_at hl 0 rfl) ?_
  refine lv_iconst (v := 0) C.1.1 C.1.2.1 dX3_init_10 (by decide) ?_
  refine wpR C hW tbX3 tyX3 tyX3_ok nmX3 (ci := 3) rfl hk_a0 hE_a0 1 (by decide) w_183 rfl (ty := .int) (v := .int 0) (by decide +kernel) rfl rfl (Nat.le_of_ble_eq_true rfl) dX3_init_11 (fun H locs hW hE_a0 => ?_)
  refine lv_aload_n C.1.1 C.1.2.1 dX3_init_14 rfl (lv_at hl 0 rfl) ?_
  refine lv_iconst (v := 0) C.1.1 C.1.2.1 dX3_init_15 (by decide) ?_
  refine wpR C hW tbX3 tyX3 tyX3_ok nmX3 (ci := 3) rfl hk_a0 hE_a0 2 (by decide) w_187 rfl (ty := .int) (v := .int 0) (by decide +kernel) rfl rfl (Nat.le_of_ble_eq_true rfl) dX3_init_16 (fun H locs hW hE_a0 => ?_)
  refine lv_aload_n C.1.1 C.1.2.1 dX3_init_19 rfl (lv_at hl 0 rfl) ?_
  refine lv_iconst (v := 0) C.1.1 C.1.2.1 dX3_init_20 (by decide) ?_
  refine wpR C hW tbX3 tyX3 tyX3_ok nmX3 (ci := 3) rfl hk_a0 hE_a0 3 (by decide) w_191 rfl (ty := .int) (v := .int 0) (by decide +kernel) rfl rfl (Nat.le_of_ble_eq_true rfl) dX3_init_21 (fun H locs hW hE_a0 => ?_)
  refine lv_aload_n C.1.1 C.1.2.1 dX3_init_24 rfl (lv_at hl 0 rfl) ?_
  refine lv_bipush (v := 8) C.1.1 C.1.2.1 dX3_init_25 (by decide) ?_
  refine wnJ C hW w_177 (N := 8) (by decide) (by decide) (Nat.le_of_ble_eq_true rfl) (Nat.le_of_ble_eq_true rfl) (Nat.le_of_ble_eq_true rfl) dX3_init_27 (fun H hW => ?_)
  replace hG := hG.tr (gS.push _ (kA 2 8))
  replace C := (gS.push _ (kA 2 8)).Cx C
  obtain ⟨hk_a0, hf⟩ := gdP_s hf
  refine wpF C hW hin2 tbX3 tyX3 tyX3_ok nmX3 (ci := 3) rfl hk_a0 hE_a0 4 (by decide) w_195 rfl rfl (ty := .array .long) (v := .ref (gB G + _)) (by decide +kernel) rfl rfl (Nat.le_of_ble_eq_true rfl) dX3_init_29 (fun H locs hW hE_a0 => ?_)
  refine lv_aload_n C.1.1 C.1.2.1 dX3_init_32 rfl (lv_at hl 0 rfl) ?_
  refine lv_bipush (v := 8) C.1.1 C.1.2.1 dX3_init_33 (by decide) ?_
  refine wnI C hW w_178 (N := 8) (by decide) (by decide) (Nat.le_of_ble_eq_true rfl) (Nat.le_of_ble_eq_true rfl) (Nat.le_of_ble_eq_true rfl) dX3_init_35 (fun H hW => ?_)
  replace hG := hG.tr (gS.push _ (kA 1 8))
  replace C := (gS.push _ (kA 1 8)).Cx C
  obtain ⟨hk_a0, hf⟩ := gdP_s hf
  refine wpF C hW hin2 tbX3 tyX3 tyX3_ok nmX3 (ci := 3) rfl hk_a0 hE_a0 5 (by decide) w_197 rfl rfl (ty := .array .int) (v := .ref (gB G + _)) (by decide +kernel) rfl rfl (Nat.le_of_ble_eq_true rfl) dX3_init_37 (fun H locs hW hE_a0 => ?_)
  refine lv_aload_n C.1.1 C.1.2.1 dX3_init_40 rfl (lv_at hl 0 rfl) ?_
  refine lv_bipush (v := 8) C.1.1 C.1.2.1 dX3_init_41 (by decide) ?_
  refine wnI C hW w_178 (N := 8) (by decide) (by decide) (Nat.le_of_ble_eq_true rfl) (Nat.le_of_ble_eq_true rfl) (Nat.le_of_ble_eq_true rfl) dX3_init_43 (fun H hW => ?_)
  replace hG := hG.tr (gS.push _ (kA 1 8))
  replace C := (gS.push _ (kA 1 8)).Cx C
  obtain ⟨hk_a0, hf⟩ := gdP_s hf
  refine wpF C hW hin2 tbX3 tyX3 tyX3_ok nmX3 (ci := 3) rfl hk_a0 hE_a0 6 (by decide) w_200 rfl rfl (ty := .array .int) (v := .ref (gB G + _)) (by decide +kernel) rfl rfl (Nat.le_of_ble_eq_true rfl) dX3_init_45 (fun H locs hW hE_a0 => ?_)
  refine lv_aload_n C.1.1 C.1.2.1 dX3_init_48 rfl (lv_at hl 0 rfl) ?_
  refine lv_bipush (v := 8) C.1.1 C.1.2.1 dX3_init_49 (by decide) ?_
  refine wnI C hW w_178 (N := 8) (by decide) (by decide) (Nat.le_of_ble_eq_true rfl) (Nat.le_of_ble_eq_true rfl) (Nat.le_of_ble_eq_true rfl) dX3_init_51 (fun H hW => ?_)
  replace hG := hG.tr (gS.push _ (kA 1 8))
  replace C := (gS.push _ (kA 1 8)).Cx C
  obtain ⟨hk_a0, hf⟩ := gdP_s hf
  refine wpF C hW hin2 tbX3 tyX3 tyX3_ok nmX3 (ci := 3) rfl hk_a0 hE_a0 7 (by decide) w_203 rfl rfl (ty := .array .int) (v := .ref (gB G + _)) (by decide +kernel) rfl rfl (Nat.le_of_ble_eq_true rfl) dX3_init_53 (fun H locs hW hE_a0 => ?_)
  refine lv_aload_n C.1.1 C.1.2.1 dX3_init_56 rfl (lv_at hl 0 rfl) ?_
  refine lv_bipush (v := 6) C.1.1 C.1.2.1 dX3_init_57 (by decide) ?_
  refine wnI C hW w_178 (N := 6) (by decide) (by decide) (Nat.le_of_ble_eq_true rfl) (Nat.le_of_ble_eq_true rfl) (Nat.le_of_ble_eq_true rfl) dX3_init_59 (fun H hW => ?_)
  replace hG := hG.tr (gS.push _ (kA 1 6))
  replace C := (gS.push _ (kA 1 6)).Cx C
  obtain ⟨hk_a0, hf⟩ := gdP_s hf
  refine wpF C hW hin2 tbX3 tyX3 tyX3_ok nmX3 (ci := 3) rfl hk_a0 hE_a0 8 (by decide) w_206 rfl rfl (ty := .array .int) (v := .ref (gB G + _)) (by decide +kernel) rfl rfl (Nat.le_of_ble_eq_true rfl) dX3_init_61 (fun H locs hW hE_a0 => ?_)
  refine lv_aload_n C.1.1 C.1.2.1 dX3_init_64 rfl (lv_at hl 0 rfl) ?_
  refine lv_bipush (v := 6) C.1.1 C.1.2.1 dX3_init_65 (by decide) ?_
  refine wnI C hW w_178 (N := 6) (by decide) (by decide) (Nat.le_of_ble_eq_true rfl) (Nat.le_of_ble_eq_true rfl) (Nat.le_of_ble_eq_true rfl) dX3_init_67 (fun H hW => ?_)
  replace hG := hG.tr (gS.push _ (kA 1 6))
  replace C := (gS.push _ (kA 1 6)).Cx C
  obtain ⟨hk_a0, hf⟩ := gdP_s hf
  refine wpF C hW hin2 tbX3 tyX3 tyX3_ok nmX3 (ci := 3) rfl hk_a0 hE_a0 9 (by decide) w_210 rfl rfl (ty := .array .int) (v := .ref (gB G + _)) (by decide +kernel) rfl rfl (Nat.le_of_ble_eq_true rfl) dX3_init_69 (fun H locs hW hE_a0 => ?_)
  refine lv_aload_n C.1.1 C.1.2.1 dX3_init_72 rfl (lv_at hl 0 rfl) ?_
  refine wnew C hW tbX0 tyX0 tyX0_ok (ci := 0) rfl w_139 w_140 w_111 (fs := [.null, .int 0, .null, .null, .null]) df0 (Nat.le_of_ble_eq_true rfl) (Nat.le_of_ble_eq_true rfl) dX3_init_73 (fun H hW => ?_)
  replace hG := hG.tr (gS.push _ 9)
  replace C := (gS.push _ 9).Cx C
  obtain ⟨⟨hE_a0, hk_a0⟩, hf⟩ := gdP_s hf
  have hk33 := gpk9 hW
  have hE32 := zEk9 hW
  refine lv_dup C.1.1 C.1.2.1 dX3_init_76 rfl ?_
  obtain ⟨⟨G35, σ36⟩, hc34, hf⟩ := bd hf
  try dsimp only at hf
  refine cIn C hW (mX0_init hk33 hE32  hc34) kiX0_init w_141 ⟨(Nat.le_of_ble_eq_true rfl), (Nat.le_of_ble_eq_true rfl)⟩ ⟨(Nat.le_of_ble_eq_true rfl), (Nat.le_of_ble_eq_true rfl)⟩ rfl hl.1 (rest := [.ref _, .ref _]) rfl (Nat.le_of_ble_eq_true rfl) dX3_init_77 (fun H locs hg38 hW => ?_)
  replace hG := hG.tr hg38
  replace C := hg38.Cx C
  obtain ⟨N9, kd9, rfl⟩ := hg38
  obtain ⟨⟨hE_a0, hk_a0, hk39⟩, hf⟩ := gdP_s hf
  refine wpF C hW hin2 tbX3 tyX3 tyX3_ok nmX3 (ci := 3) rfl hk_a0 hE_a0 10 (by decide) w_213 rfl rfl (ty := .object "RightKeys$Laws") (v := .ref (gB G + _)) (by decide +kernel) rfl rfl (Nat.le_of_ble_eq_true rfl) dX3_init_80 (fun H locs hW hE_a0 => ?_)
  obtain ⟨⟨he9, hs9, hk9⟩, hf⟩ := gdP_s hf
  replace hW : Ws (gKind _ a0 4) _ s.heap _ _ := ⟨hW.1.kind hk9 (he9.trans hE_a0.symm) (fun x hx => by simp [wT, wR, va_up, hx]) hs9, hW.2⟩
  replace hG := hG.tr (gS.kind _ a0 4)
  replace C := (gS.kind _ a0 4).Cx C
  replace hk_a0 := gkk hW
  exact rn hQ C hr hlk hG hW hf dX3_init_83
theorem kiX4_init : KI yX4_init cX4_init 1 0 := ⟨⟨w_248, w_113, w_249⟩, rfl, ⟨by decide, by decide, by decide +kernel⟩⟩
noncomputable def fX4_init (a0 : Nat) (G : Gm) (σ : Sg) : Option (Gm × Sg) := let i1 := gN G; let G2 := gPush G (kA 1 402); let σ3 := z0 σ i1; gdP (gK G2 a0 = 9) (let σ4 := wE σ3 a0 (.inr (4, [.ref (gB G + i1), .null, .null, .int 0])); let i5 := gN G2; let G6 := gPush G2 (kA 1 402); let σ7 := z0 σ4 i5; gdP (gK G6 a0 = 9) (let σ8 := wE σ7 a0 (.inr (4, [.ref (gB G + i1), .ref (gB G + i5), .null, .int 0])); let i9 := gN G6; let G10 := gPush G6 (kA 2 402); let σ11 := z0 σ8 i9; gdP (gK G10 a0 = 9) (let σ12 := wE σ11 a0 (.inr (4, [.ref (gB G + i1), .ref (gB G + i5), .ref (gB G + i9), .int 0])); let σ13 := wE σ12 a0 (.inr (4, [.ref (gB G + i1), .ref (gB G + i5), .ref (gB G + i9), .int 0])); let σ14 := wR σ13 a0 (fun j => 0); gdP (clE (gC G10) (gB G10) σ14 a0 5 = .inr (4, [.ref (gB G + i1), .ref (gB G + i5), .ref (gB G + i9), .int 0]) ∧ Sh (va_up (gK G10) a0 5) (gN G10) σ14.2.2.1 ∧ gK G10 a0 = 9) (let G15 := gKind G10 a0 5; some (G15, σ14)))))
set_option maxRecDepth 100000 in
set_option maxHeartbeats 4000000 in
theorem fSX4_init {G : Gm} {a0 : Nat} {σ : Sg} {G' : Gm} {σ' : Sg} (hf : fX4_init a0 G σ = some (G', σ')) : gS G G' := by
  delta fX4_init at hf
  have hG : gS G G := gS.rf
  replace hG := hG.tr (gS.push _ (kA 1 402))
  obtain ⟨-, hf⟩ := gdP_s hf
  replace hG := hG.tr (gS.push _ (kA 1 402))
  obtain ⟨-, hf⟩ := gdP_s hf
  replace hG := hG.tr (gS.push _ (kA 2 402))
  obtain ⟨-, hf⟩ := gdP_s hf
  obtain ⟨-, hf⟩ := gdP_s hf
  replace hG := hG.tr (gS.kind _ a0 5)
  cases hf
  exact hG
set_option maxRecDepth 100000 in
set_option maxHeartbeats 4000000 in
theorem mX4_init {l : Launch} {G : Gm} {a0 : Nat} {σ : Sg} {G' : Gm} {σ' : Sg} (hk_a0 : gK G a0 = 9) (hE_a0 : σ.2.2.2 a0 = .inr (4, [.null, .null, .null, .int 0]))  (hf : fX4_init a0 G σ = some (G', σ')) : Mn l G yX4_init cX4_init 1 1 40 3 1206 [.ref (gB G + a0)] σ G' σ' := by
  refine ⟨fSX4_init hf, ?_⟩
  refine of_Wn "RightKeys$Tokens" rfl (by decide) (Nat.le_of_ble_eq_true rfl) ?_
  intro p e s m args below meth c Q hQ C hr hlk hin2 hW ls hl
  have hl : lv_has ls 1 [(0, .ref (gB G + a0))] := hl
  have hG : gS G G := gS.rf
  delta fX4_init at hf
  refine lv_aload_n C.1.1 C.1.2.1 dX4_init_0 rfl (lv_at hl 0 rfl) ?_
  refine W.objInit C.1.1 C.1.2.1 C.1.2.2.2.1 (C.w w_250) (C.w w_131) (C.w w_132) rfl (hl.1.trans C.1.2.2.1.symm) rfl dX4_init_1 (Nat.le_of_ble_eq_true rfl) (Nat.le_of_ble_eq_true rfl) ?_
  refine W.eq (g2 := F0 m 4 ls []) rfl ?_
  refine lv_aload_n C.1.1 C.1.2.1 dX4_init_4 rfl (lv_at hl 0 rfl) ?_
  refine lv_sipush (v := 402) C.1.1 C.1.2.1 dX4_init_5 (by decide) ?_
  refine wnI C hW w_178 (N := 402) (by decide) (by decide) (Nat.le_of_ble_eq_true rfl) (Nat.le_of_ble_eq_true rfl) (Nat.le_of_ble_eq_true rfl) dX4_init_8 (fun H hW => ?_)
  replace hG := hG.tr (gS.push _ (kA 1 402))
  replace C := (gS.push _ (kA 1 402)).Cx C
  obtain ⟨hk_a0, hf⟩ := gdP_s hf
  refine wpF C hW hin2 tbX4 tyX4 tyX4_ok nmX4 (ci := 4) rfl hk_a0 hE_a0 0 (by decide) w_251 rfl rfl (ty := .array .int) (v := .ref (gB G + _)) (by decide +kernel) rfl rfl (Nat.le_of_ble_eq_true rfl) dX4_init_10 (fun H locs hW hE_a0 => ?_)
  refine lv_aload_n C.1.1 C.1.2.1 dX4_init_13 rfl (lv_at hl 0 rfl) ?_
  refine lv_sipush (v := 402) C.1.1 C.1.2.1 dX4_init_14 (by decide) ?_
  refine wnI C hW w_178 (N := 402) (by decide) (by decide) (Nat.le_of_ble_eq_true rfl) (Nat.le_of_ble_eq_true rfl) (Nat.le_of_ble_eq_true rfl) dX4_init_17 (fun H hW => ?_)
  replace hG := hG.tr (gS.push _ (kA 1 402))
  replace C := (gS.push _ (kA 1 402)).Cx C
  obtain ⟨hk_a0, hf⟩ := gdP_s hf
  refine wpF C hW hin2 tbX4 tyX4 tyX4_ok nmX4 (ci := 4) rfl hk_a0 hE_a0 1 (by decide) w_253 rfl rfl (ty := .array .int) (v := .ref (gB G + _)) (by decide +kernel) rfl rfl (Nat.le_of_ble_eq_true rfl) dX4_init_19 (fun H locs hW hE_a0 => ?_)
  refine lv_aload_n C.1.1 C.1.2.1 dX4_init_22 rfl (lv_at hl 0 rfl) ?_
  refine lv_sipush (v := 402) C.1.1 C.1.2.1 dX4_init_23 (by decide) ?_
  refine wnJ C hW w_177 (N := 402) (by decide) (by decide) (Nat.le_of_ble_eq_true rfl) (Nat.le_of_ble_eq_true rfl) (Nat.le_of_ble_eq_true rfl) dX4_init_26 (fun H hW => ?_)
  replace hG := hG.tr (gS.push _ (kA 2 402))
  replace C := (gS.push _ (kA 2 402)).Cx C
  obtain ⟨hk_a0, hf⟩ := gdP_s hf
  refine wpF C hW hin2 tbX4 tyX4 tyX4_ok nmX4 (ci := 4) rfl hk_a0 hE_a0 2 (by decide) w_255 rfl rfl (ty := .array .long) (v := .ref (gB G + _)) (by decide +kernel) rfl rfl (Nat.le_of_ble_eq_true rfl) dX4_init_28 (fun H locs hW hE_a0 => ?_)
  refine lv_aload_n C.1.1 C.1.2.1 dX4_init_31 rfl (lv_at hl 0 rfl) ?_
  refine lv_iconst (v := 0) C.1.1 C.1.2.1 dX4_init_32 (by decide) ?_
  refine wpR C hW tbX4 tyX4 tyX4_ok nmX4 (ci := 4) rfl hk_a0 hE_a0 3 (by decide) w_257 rfl (ty := .int) (v := .int 0) (by decide +kernel) rfl rfl (Nat.le_of_ble_eq_true rfl) dX4_init_33 (fun H locs hW hE_a0 => ?_)
  obtain ⟨⟨he9, hs9, hk9⟩, hf⟩ := gdP_s hf
  replace hW : Ws (gKind _ a0 5) _ s.heap _ _ := ⟨hW.1.kind hk9 (he9.trans hE_a0.symm) (fun x hx => by simp [wT, wR, va_up, hx]) hs9, hW.2⟩
  replace hG := hG.tr (gS.kind _ a0 5)
  replace C := (gS.kind _ a0 5).Cx C
  replace hk_a0 := gkk hW
  exact rn hQ C hr hlk hG hW hf dX4_init_36
theorem kiX1_init : KI yX1_init cX1_init 2 1 := ⟨⟨w_242, w_112, w_243⟩, rfl, ⟨by decide, by decide, by decide +kernel⟩⟩
noncomputable def fX1_init (a0 : Nat) (a1 : Nat) (G : Gm) (σ : Sg) : Option (Gm × Sg) := let i3 := gN G; let G2 := gPush G 9; let σ1 := zE σ i3 (.inr (4, [.null, .null, .null, .int 0])); gdP (σ1.2.2.2 a0 = .inr (1, [.null, .int 0, .null, .int 0, .int 0, .int 0, .int 0]) ∧ gK G2 a0 = 9 ∧ gK G2 a1 = 4) ((fX4_init i3 G2 σ1).bind (fun q9 => let G7 := q9.1; let σ8 := q9.2; gdP (σ8.2.2.2 a0 = .inr (1, [.null, .int 0, .null, .int 0, .int 0, .int 0, .int 0]) ∧ gK G7 a0 = 9 ∧ gK G7 a1 = 4 ∧ gK G7 i3 = 5) (let σ12 := wE σ8 a0 (.inr (1, [.ref (gB G + i3), .int 0, .null, .int 0, .int 0, .int 0, .int 0])); let σ13 := wE σ12 a0 (.inr (1, [.ref (gB G + i3), .int 0, .null, .int 0, .int 0, .int 0, .int 0])); let σ14 := wE σ13 a0 (.inr (1, [.ref (gB G + i3), .int 0, .null, .int 0, .int 0, .int 0, .int 0])); let σ15 := wE σ14 a0 (.inr (1, [.ref (gB G + i3), .int 0, .null, .int 0, .int (-1), .int 0, .int 0])); let σ16 := wE σ15 a0 (.inr (1, [.ref (gB G + i3), .int 0, .null, .int 0, .int (-1), .int 0, .int 0])); let σ17 := wE σ16 a0 (.inr (1, [.ref (gB G + i3), .int 0, .null, .int 0, .int (-1), .int 0, .int (-1)])); let σ18 := wE σ17 a0 (.inr (1, [.ref (gB G + i3), .int 0, .ref (gB G + a1), .int 0, .int (-1), .int 0, .int (-1)])); let σ19 := wT (wR σ18 a0 (fun j => if j = 4 then (-1) else if j = 6 then (-1) else 0)) a0 2 a1; gdP (clE (gC G7) (gB G7) σ19 a0 2 = .inr (1, [.ref (gB G + i3), .int 0, .ref (gB G + a1), .int 0, .int (-1), .int 0, .int (-1)]) ∧ Sh (va_up (gK G7) a0 2) (gN G7) σ19.2.2.1 ∧ gK G7 a0 = 9) (let G20 := gKind G7 a0 2; some (G20, σ19)))))
set_option maxRecDepth 100000 in
set_option maxHeartbeats 4000000 in
theorem fSX1_init {G : Gm} {a0 : Nat} {a1 : Nat} {σ : Sg} {G' : Gm} {σ' : Sg} (hf : fX1_init a0 a1 G σ = some (G', σ')) : gS G G' := by
  delta fX1_init at hf
  have hG : gS G G := gS.rf
  replace hG := hG.tr (gS.push _ 9)
  obtain ⟨-, hf⟩ := gdP_s hf
  obtain ⟨⟨G7, σ8⟩, hc6, hf⟩ := bd hf
  try dsimp only at hf
  replace hG := hG.tr (fSX4_init hc6)
  obtain ⟨-, hf⟩ := gdP_s hf
  obtain ⟨-, hf⟩ := gdP_s hf
  replace hG := hG.tr (gS.kind _ a0 2)
  cases hf
  exact hG
set_option maxRecDepth 100000 in
set_option maxHeartbeats 4000000 in
theorem mX1_init {l : Launch} {G : Gm} {a0 : Nat} {a1 : Nat} {σ : Sg} {G' : Gm} {σ' : Sg} (hk_a0 : gK G a0 = 9) (hE_a0 : σ.2.2.2 a0 = .inr (1, [.null, .int 0, .null, .int 0, .int 0, .int 0, .int 0])) (hk_a1 : gK G a1 = 4) (hf : fX1_init a0 a1 G σ = some (G', σ')) : Mn l G yX1_init cX1_init 2 2 60 4 1210 [.ref (gB G + a0), .ref (gB G + a1)] σ G' σ' := by
  refine ⟨fSX1_init hf, ?_⟩
  refine of_Wn "RightKeys$Reader" rfl (by decide) (Nat.le_of_ble_eq_true rfl) ?_
  intro p e s m args below meth c Q hQ C hr hlk hin2 hW ls hl
  have hl : lv_has ls 2 [(0, .ref (gB G + a0)), (1, .ref (gB G + a1))] := hl
  have hG : gS G G := gS.rf
  delta fX1_init at hf
  refine lv_aload_n C.1.1 C.1.2.1 dX1_init_0 rfl (lv_at hl 0 rfl) ?_
  refine W.objInit C.1.1 C.1.2.1 C.1.2.2.2.1 (C.w w_244) (C.w w_131) (C.w w_132) rfl (hl.1.trans C.1.2.2.1.symm) rfl dX1_init_1 (Nat.le_of_ble_eq_true rfl) (Nat.le_of_ble_eq_true rfl) ?_
  refine W.eq (g2 := F0 m 4 ls []) rfl ?_
  refine lv_aload_n C.1.1 C.1.2.1 dX1_init_4 rfl (lv_at hl 0 rfl) ?_
  refine wnew C hW tbX4 tyX4 tyX4_ok (ci := 4) rfl w_245 w_246 w_113 (fs := [.null, .null, .null, .int 0]) df4 (Nat.le_of_ble_eq_true rfl) (Nat.le_of_ble_eq_true rfl) dX1_init_5 (fun H hW => ?_)
  replace hG := hG.tr (gS.push _ 9)
  replace C := (gS.push _ 9).Cx C
  obtain ⟨⟨hE_a0, hk_a0, hk_a1⟩, hf⟩ := gdP_s hf
  have hk5 := gpk9 hW
  have hE4 := zEk9 hW
  refine lv_dup C.1.1 C.1.2.1 dX1_init_8 rfl ?_
  obtain ⟨⟨G7, σ8⟩, hc6, hf⟩ := bd hf
  try dsimp only at hf
  refine cIN C hW (mX4_init hk5 hE4  hc6) kiX4_init (by decide) ⟨(Nat.le_of_ble_eq_true rfl), (Nat.le_of_ble_eq_true rfl)⟩ ⟨(Nat.le_of_ble_eq_true rfl), (Nat.le_of_ble_eq_true rfl)⟩ rfl hl.1 (rest := [.ref _, .ref _]) rfl (Nat.le_of_ble_eq_true rfl) dX1_init_9 (fun H locs hg10 hW => ?_)
  replace hG := hG.tr hg10
  replace C := hg10.Cx C
  obtain ⟨N9, kd9, rfl⟩ := hg10
  obtain ⟨⟨hE_a0, hk_a0, hk_a1, hk11⟩, hf⟩ := gdP_s hf
  refine wpF C hW hin2 tbX1 tyX1 tyX1_ok nmX1 (ci := 1) rfl hk_a0 hE_a0 0 (by decide) w_268 rfl rfl (ty := .object "RightKeys$Tokens") (v := .ref (gB G + _)) (by decide +kernel) rfl rfl (Nat.le_of_ble_eq_true rfl) dX1_init_12 (fun H locs hW hE_a0 => ?_)
  refine lv_aload_n C.1.1 C.1.2.1 dX1_init_15 rfl (lv_at hl 0 rfl) ?_
  refine lv_iconst (v := 0) C.1.1 C.1.2.1 dX1_init_16 (by decide) ?_
  refine wpR C hW tbX1 tyX1 tyX1_ok nmX1 (ci := 1) rfl hk_a0 hE_a0 1 (by decide) w_269 rfl (ty := .int) (v := .int 0) (by decide +kernel) rfl rfl (Nat.le_of_ble_eq_true rfl) dX1_init_17 (fun H locs hW hE_a0 => ?_)
  refine lv_aload_n C.1.1 C.1.2.1 dX1_init_20 rfl (lv_at hl 0 rfl) ?_
  refine lv_iconst (v := 0) C.1.1 C.1.2.1 dX1_init_21 (by decide) ?_
  refine wpR C hW tbX1 tyX1 tyX1_ok nmX1 (ci := 1) rfl hk_a0 hE_a0 3 (by decide) w_271 rfl (ty := .int) (v := .int 0) (by decide +kernel) rfl rfl (Nat.le_of_ble_eq_true rfl) dX1_init_22 (fun H locs hW hE_a0 => ?_)
  refine lv_aload_n C.1.1 C.1.2.1 dX1_init_25 rfl (lv_at hl 0 rfl) ?_
  refine lv_iconst (v := (-1)) C.1.1 C.1.2.1 dX1_init_26 (by decide) ?_
  refine wpR C hW tbX1 tyX1 tyX1_ok nmX1 (ci := 1) rfl hk_a0 hE_a0 4 (by decide) w_272 rfl (ty := .int) (v := .int (-1)) (by decide +kernel) rfl rfl (Nat.le_of_ble_eq_true rfl) dX1_init_27 (fun H locs hW hE_a0 => ?_)
  refine lv_aload_n C.1.1 C.1.2.1 dX1_init_30 rfl (lv_at hl 0 rfl) ?_
  refine lv_iconst (v := 0) C.1.1 C.1.2.1 dX1_init_31 (by decide) ?_
  refine wpR C hW tbX1 tyX1 tyX1_ok nmX1 (ci := 1) rfl hk_a0 hE_a0 5 (by decide) w_274 rfl (ty := .int) (v := .int 0) (by decide +kernel) rfl rfl (Nat.le_of_ble_eq_true rfl) dX1_init_32 (fun H locs hW hE_a0 => ?_)
  refine lv_aload_n C.1.1 C.1.2.1 dX1_init_35 rfl (lv_at hl 0 rfl) ?_
  refine lv_iconst (v := (-1)) C.1.1 C.1.2.1 dX1_init_36 (by decide) ?_
  refine wpR C hW tbX1 tyX1 tyX1_ok nmX1 (ci := 1) rfl hk_a0 hE_a0 6 (by decide) w_275 rfl (ty := .int) (v := .int (-1)) (by decide +kernel) rfl rfl (Nat.le_of_ble_eq_true rfl) dX1_init_37 (fun H locs hW hE_a0 => ?_)
  refine lv_aload_n C.1.1 C.1.2.1 dX1_init_40 rfl (lv_at hl 0 rfl) ?_
  refine lv_aload_n C.1.1 C.1.2.1 dX1_init_41 rfl (lv_at hl 1 rfl) ?_
  refine wpR C hW tbX1 tyX1 tyX1_ok nmX1 (ci := 1) rfl hk_a0 hE_a0 2 (by decide) w_270 rfl (ty := .object "RightKeys$Text") (v := .ref (gB G + _)) (by decide +kernel) rfl rfl (Nat.le_of_ble_eq_true rfl) dX1_init_42 (fun H locs hW hE_a0 => ?_)
  obtain ⟨⟨he9, hs9, hk9⟩, hf⟩ := gdP_s hf
  replace hW : Ws (gKind _ a0 2) _ s.heap _ _ := ⟨hW.1.kind hk9 (he9.trans hE_a0.symm) (fun x hx => by simp [wT, wR, va_up, hx]) hs9, hW.2⟩
  replace hG := hG.tr (gS.kind _ a0 2)
  replace C := (gS.kind _ a0 2).Cx C
  replace hk_a0 := gkk hW
  exact rn hQ C hr hlk hG hW hf dX1_init_45
theorem kiX2_init : KI yX2_init cX2_init 2 1 := ⟨⟨w_294, w_114, w_295⟩, rfl, ⟨by decide, by decide, by decide +kernel⟩⟩
noncomputable def fX2_init (a0 : Nat) (a1 : Nat) (G : Gm) (σ : Sg) : Option (Gm × Sg) := let σ1 := wE σ a0 (.inr (2, [.null, .int 0, .int 0, .int 0, .int 0, .int 0, .int 0, .int 0, .int 0, .int 0, .int 0, .int 0, .null, .null, .null, .null, .null, .null, .null, .null])); let σ2 := wE σ1 a0 (.inr (2, [.null, .int 0, .int 0, .int 0, .int 0, .int 0, .int 0, .int 0, .int 0, .int 0, .int 0, .int 0, .null, .null, .null, .null, .null, .null, .null, .null])); let σ3 := wE σ2 a0 (.inr (2, [.null, .int 0, .int 0, .int 0, .int 0, .int 0, .int 0, .int 0, .int 0, .int 0, .int 0, .int 0, .null, .null, .null, .null, .null, .null, .null, .null])); let σ4 := wE σ3 a0 (.inr (2, [.null, .int 0, .int 0, .int 0, .int 0, .int 0, .int 0, .int 0, .int 0, .int 0, .int 0, .int 0, .null, .null, .null, .null, .null, .null, .null, .null])); let σ5 := wE σ4 a0 (.inr (2, [.null, .int 0, .int 0, .int 0, .int 0, .int 0, .int 0, .int 0, .int 0, .int 0, .int 0, .int 0, .null, .null, .null, .null, .null, .null, .null, .null])); let σ6 := wE σ5 a0 (.inr (2, [.null, .int 0, .int 0, .int 0, .int 0, .int 0, .int 0, .int 0, .int 0, .int 0, .int 0, .int 0, .null, .null, .null, .null, .null, .null, .null, .null])); let σ7 := wE σ6 a0 (.inr (2, [.null, .int 0, .int 0, .int 0, .int 0, .int 0, .int 0, .int 0, .int 0, .int 0, .int 0, .int 0, .null, .null, .null, .null, .null, .null, .null, .null])); let σ8 := wE σ7 a0 (.inr (2, [.null, .int 0, .int 0, .int 0, .int 0, .int 0, .int 0, .int 0, .int 0, .int 0, .int 0, .int 0, .null, .null, .null, .null, .null, .null, .null, .null])); let σ9 := wE σ8 a0 (.inr (2, [.null, .int 0, .int 0, .int 0, .int 0, .int 0, .int 0, .int 0, .int 0, .int 0, .int 0, .int 0, .null, .null, .null, .null, .null, .null, .null, .null])); let σ10 := wE σ9 a0 (.inr (2, [.null, .int 0, .int 0, .int 0, .int 0, .int 0, .int 0, .int 0, .int 0, .int 0, .int 0, .int 0, .null, .null, .null, .null, .null, .null, .null, .null])); let σ11 := wE σ10 a0 (.inr (2, [.null, .int 0, .int 0, .int 0, .int 0, .int 0, .int 0, .int 0, .int 0, .int 0, .int 0, .int 0, .null, .null, .null, .null, .null, .null, .null, .null])); let i12 := gN G; let G13 := gPush G (kA 1 8); let σ14 := z0 σ11 i12; gdP (gK G13 a0 = 9 ∧ gK G13 a1 = 4) (let σ15 := wE σ14 a0 (.inr (2, [.null, .int 0, .int 0, .int 0, .int 0, .int 0, .int 0, .int 0, .int 0, .int 0, .int 0, .int 0, .ref (gB G + i12), .null, .null, .null, .null, .null, .null, .null])); let i16 := gN G13; let G17 := gPush G13 (kA 1 8); let σ18 := z0 σ15 i16; gdP (gK G17 a0 = 9 ∧ gK G17 a1 = 4) (let σ19 := wE σ18 a0 (.inr (2, [.null, .int 0, .int 0, .int 0, .int 0, .int 0, .int 0, .int 0, .int 0, .int 0, .int 0, .int 0, .ref (gB G + i12), .ref (gB G + i16), .null, .null, .null, .null, .null, .null])); let i20 := gN G17; let G21 := gPush G17 (kA 1 8); let σ22 := z0 σ19 i20; gdP (gK G21 a0 = 9 ∧ gK G21 a1 = 4) (let σ23 := wE σ22 a0 (.inr (2, [.null, .int 0, .int 0, .int 0, .int 0, .int 0, .int 0, .int 0, .int 0, .int 0, .int 0, .int 0, .ref (gB G + i12), .ref (gB G + i16), .ref (gB G + i20), .null, .null, .null, .null, .null])); let i24 := gN G21; let G25 := gPush G21 (kA 1 8); let σ26 := z0 σ23 i24; gdP (gK G25 a0 = 9 ∧ gK G25 a1 = 4) (let σ27 := wE σ26 a0 (.inr (2, [.null, .int 0, .int 0, .int 0, .int 0, .int 0, .int 0, .int 0, .int 0, .int 0, .int 0, .int 0, .ref (gB G + i12), .ref (gB G + i16), .ref (gB G + i20), .ref (gB G + i24), .null, .null, .null, .null])); let i28 := gN G25; let G29 := gPush G25 (kA 1 8); let σ30 := z0 σ27 i28; gdP (gK G29 a0 = 9 ∧ gK G29 a1 = 4) (let σ31 := wE σ30 a0 (.inr (2, [.null, .int 0, .int 0, .int 0, .int 0, .int 0, .int 0, .int 0, .int 0, .int 0, .int 0, .int 0, .ref (gB G + i12), .ref (gB G + i16), .ref (gB G + i20), .ref (gB G + i24), .ref (gB G + i28), .null, .null, .null])); let i32 := gN G29; let G33 := gPush G29 (kA 1 8); let σ34 := z0 σ31 i32; gdP (gK G33 a0 = 9 ∧ gK G33 a1 = 4) (let σ35 := wE σ34 a0 (.inr (2, [.null, .int 0, .int 0, .int 0, .int 0, .int 0, .int 0, .int 0, .int 0, .int 0, .int 0, .int 0, .ref (gB G + i12), .ref (gB G + i16), .ref (gB G + i20), .ref (gB G + i24), .ref (gB G + i28), .ref (gB G + i32), .null, .null])); let i36 := gN G33; let G37 := gPush G33 (kA 1 6); let σ38 := z0 σ35 i36; gdP (gK G37 a0 = 9 ∧ gK G37 a1 = 4) (let σ39 := wE σ38 a0 (.inr (2, [.null, .int 0, .int 0, .int 0, .int 0, .int 0, .int 0, .int 0, .int 0, .int 0, .int 0, .int 0, .ref (gB G + i12), .ref (gB G + i16), .ref (gB G + i20), .ref (gB G + i24), .ref (gB G + i28), .ref (gB G + i32), .ref (gB G + i36), .null])); let i40 := gN G37; let G41 := gPush G37 (kA 1 6); let σ42 := z0 σ39 i40; gdP (gK G41 a0 = 9 ∧ gK G41 a1 = 4) (let σ43 := wE σ42 a0 (.inr (2, [.null, .int 0, .int 0, .int 0, .int 0, .int 0, .int 0, .int 0, .int 0, .int 0, .int 0, .int 0, .ref (gB G + i12), .ref (gB G + i16), .ref (gB G + i20), .ref (gB G + i24), .ref (gB G + i28), .ref (gB G + i32), .ref (gB G + i36), .ref (gB G + i40)])); let σ44 := wE σ43 a0 (.inr (2, [.ref (gB G + a1), .int 0, .int 0, .int 0, .int 0, .int 0, .int 0, .int 0, .int 0, .int 0, .int 0, .int 0, .ref (gB G + i12), .ref (gB G + i16), .ref (gB G + i20), .ref (gB G + i24), .ref (gB G + i28), .ref (gB G + i32), .ref (gB G + i36), .ref (gB G + i40)])); let σ45 := wT (wR σ44 a0 (fun j => 0)) a0 0 a1; gdP (clE (gC G41) (gB G41) σ45 a0 3 = .inr (2, [.ref (gB G + a1), .int 0, .int 0, .int 0, .int 0, .int 0, .int 0, .int 0, .int 0, .int 0, .int 0, .int 0, .ref (gB G + i12), .ref (gB G + i16), .ref (gB G + i20), .ref (gB G + i24), .ref (gB G + i28), .ref (gB G + i32), .ref (gB G + i36), .ref (gB G + i40)]) ∧ Sh (va_up (gK G41) a0 3) (gN G41) σ45.2.2.1 ∧ gK G41 a0 = 9) (let G46 := gKind G41 a0 3; some (G46, σ45))))))))))
set_option maxRecDepth 100000 in
set_option maxHeartbeats 4000000 in
theorem fSX2_init {G : Gm} {a0 : Nat} {a1 : Nat} {σ : Sg} {G' : Gm} {σ' : Sg} (hf : fX2_init a0 a1 G σ = some (G', σ')) : gS G G' := by
  delta fX2_init at hf
  have hG : gS G G := gS.rf
  replace hG := hG.tr (gS.push _ (kA 1 8))
  obtain ⟨-, hf⟩ := gdP_s hf
  replace hG := hG.tr (gS.push _ (kA 1 8))
  obtain ⟨-, hf⟩ := gdP_s hf
  replace hG := hG.tr (gS.push _ (kA 1 8))
  obtain ⟨-, hf⟩ := gdP_s hf
  replace hG := hG.tr (gS.push _ (kA 1 8))
  obtain ⟨-, hf⟩ := gdP_s hf
  replace hG := hG.tr (gS.push _ (kA 1 8))
  obtain ⟨-, hf⟩ := gdP_s hf
  replace hG := hG.tr (gS.push _ (kA 1 8))
  obtain ⟨-, hf⟩ := gdP_s hf
  replace hG := hG.tr (gS.push _ (kA 1 6))
  obtain ⟨-, hf⟩ := gdP_s hf
  replace hG := hG.tr (gS.push _ (kA 1 6))
  obtain ⟨-, hf⟩ := gdP_s hf
  obtain ⟨-, hf⟩ := gdP_s hf
  replace hG := hG.tr (gS.kind _ a0 3)
  cases hf
  exact hG
set_option maxRecDepth 100000 in
set_option maxHeartbeats 4000000 in
theorem mX2_init {l : Launch} {G : Gm} {a0 : Nat} {a1 : Nat} {σ : Sg} {G' : Gm} {σ' : Sg} (hk_a0 : gK G a0 = 9) (hE_a0 : σ.2.2.2 a0 = .inr (2, [.null, .int 0, .int 0, .int 0, .int 0, .int 0, .int 0, .int 0, .int 0, .int 0, .int 0, .int 0, .null, .null, .null, .null, .null, .null, .null, .null])) (hk_a1 : gK G a1 = 4) (hf : fX2_init a0 a1 G σ = some (G', σ')) : Mn l G yX2_init cX2_init 2 1 40 8 60 [.ref (gB G + a0), .ref (gB G + a1)] σ G' σ' := by
  refine ⟨fSX2_init hf, ?_⟩
  refine of_Wn "RightKeys$Ring" rfl (by decide) (Nat.le_of_ble_eq_true rfl) ?_
  intro p e s m args below meth c Q hQ C hr hlk hin2 hW ls hl
  have hl : lv_has ls 2 [(0, .ref (gB G + a0)), (1, .ref (gB G + a1))] := hl
  have hG : gS G G := gS.rf
  delta fX2_init at hf
  refine lv_aload_n C.1.1 C.1.2.1 dX2_init_0 rfl (lv_at hl 0 rfl) ?_
  refine W.objInit C.1.1 C.1.2.1 C.1.2.2.2.1 (C.w w_296) (C.w w_131) (C.w w_132) rfl (hl.1.trans C.1.2.2.1.symm) rfl dX2_init_1 (Nat.le_of_ble_eq_true rfl) (Nat.le_of_ble_eq_true rfl) ?_
  refine W.eq (g2 := F0 m 4 ls []) rfl ?_
  refine lv_aload_n C.1.1 C.1.2.1 dX2_init_4 rfl (lv_at hl 0 rfl) ?_
  refine lv_iconst (v := 0) C.1.1 C.1.2.1 dX2_init_5 (by decide) ?_
  refine wpR C hW tbX2 tyX2 tyX2_ok nmX2 (ci := 2) rfl hk_a0 hE_a0 1 (by decide) w_298 rfl (ty := .int) (v := .int 0) (by decide +kernel) rfl rfl (Nat.le_of_ble_eq_true rfl) dX2_init_6 (fun H locs hW hE_a0 => ?_)
  refine lv_aload_n C.1.1 C.1.2.1 dX2_init_9 rfl (lv_at hl 0 rfl) ?_
  refine lv_iconst (v := 0) C.1.1 C.1.2.1 dX2_init_10 (by decide) ?_
  refine wpR C hW tbX2 tyX2 tyX2_ok nmX2 (ci := 2) rfl hk_a0 hE_a0 2 (by decide) w_300 rfl (ty := .int) (v := .int 0) (by decide +kernel) rfl rfl (Nat.le_of_ble_eq_true rfl) dX2_init_11 (fun H locs hW hE_a0 => ?_)
  refine lv_aload_n C.1.1 C.1.2.1 dX2_init_14 rfl (lv_at hl 0 rfl) ?_
  refine lv_iconst (v := 0) C.1.1 C.1.2.1 dX2_init_15 (by decide) ?_
  refine wpR C hW tbX2 tyX2 tyX2_ok nmX2 (ci := 2) rfl hk_a0 hE_a0 3 (by decide) w_302 rfl (ty := .int) (v := .int 0) (by decide +kernel) rfl rfl (Nat.le_of_ble_eq_true rfl) dX2_init_16 (fun H locs hW hE_a0 => ?_)
  refine lv_aload_n C.1.1 C.1.2.1 dX2_init_19 rfl (lv_at hl 0 rfl) ?_
  refine lv_iconst (v := 0) C.1.1 C.1.2.1 dX2_init_20 (by decide) ?_
  refine wpR C hW tbX2 tyX2 tyX2_ok nmX2 (ci := 2) rfl hk_a0 hE_a0 4 (by decide) w_305 rfl (ty := .int) (v := .int 0) (by decide +kernel) rfl rfl (Nat.le_of_ble_eq_true rfl) dX2_init_21 (fun H locs hW hE_a0 => ?_)
  refine lv_aload_n C.1.1 C.1.2.1 dX2_init_24 rfl (lv_at hl 0 rfl) ?_
  refine lv_iconst (v := 0) C.1.1 C.1.2.1 dX2_init_25 (by decide) ?_
  refine wpR C hW tbX2 tyX2 tyX2_ok nmX2 (ci := 2) rfl hk_a0 hE_a0 5 (by decide) w_307 rfl (ty := .int) (v := .int 0) (by decide +kernel) rfl rfl (Nat.le_of_ble_eq_true rfl) dX2_init_26 (fun H locs hW hE_a0 => ?_)
  refine lv_aload_n C.1.1 C.1.2.1 dX2_init_29 rfl (lv_at hl 0 rfl) ?_
  refine lv_iconst (v := 0) C.1.1 C.1.2.1 dX2_init_30 (by decide) ?_
  refine wpR C hW tbX2 tyX2 tyX2_ok nmX2 (ci := 2) rfl hk_a0 hE_a0 6 (by decide) w_309 rfl (ty := .int) (v := .int 0) (by decide +kernel) rfl rfl (Nat.le_of_ble_eq_true rfl) dX2_init_31 (fun H locs hW hE_a0 => ?_)
  refine lv_aload_n C.1.1 C.1.2.1 dX2_init_34 rfl (lv_at hl 0 rfl) ?_
  refine lv_iconst (v := 0) C.1.1 C.1.2.1 dX2_init_35 (by decide) ?_
  refine wpR C hW tbX2 tyX2 tyX2_ok nmX2 (ci := 2) rfl hk_a0 hE_a0 7 (by decide) w_310 rfl (ty := .boolean) (v := .int 0) (by decide +kernel) rfl rfl (Nat.le_of_ble_eq_true rfl) dX2_init_36 (fun H locs hW hE_a0 => ?_)
  refine lv_aload_n C.1.1 C.1.2.1 dX2_init_39 rfl (lv_at hl 0 rfl) ?_
  refine lv_iconst (v := 0) C.1.1 C.1.2.1 dX2_init_40 (by decide) ?_
  refine wpR C hW tbX2 tyX2 tyX2_ok nmX2 (ci := 2) rfl hk_a0 hE_a0 8 (by decide) w_312 rfl (ty := .int) (v := .int 0) (by decide +kernel) rfl rfl (Nat.le_of_ble_eq_true rfl) dX2_init_41 (fun H locs hW hE_a0 => ?_)
  refine lv_aload_n C.1.1 C.1.2.1 dX2_init_44 rfl (lv_at hl 0 rfl) ?_
  refine lv_iconst (v := 0) C.1.1 C.1.2.1 dX2_init_45 (by decide) ?_
  refine wpR C hW tbX2 tyX2 tyX2_ok nmX2 (ci := 2) rfl hk_a0 hE_a0 9 (by decide) w_314 rfl (ty := .int) (v := .int 0) (by decide +kernel) rfl rfl (Nat.le_of_ble_eq_true rfl) dX2_init_46 (fun H locs hW hE_a0 => ?_)
  refine lv_aload_n C.1.1 C.1.2.1 dX2_init_49 rfl (lv_at hl 0 rfl) ?_
  refine lv_iconst (v := 0) C.1.1 C.1.2.1 dX2_init_50 (by decide) ?_
  refine wpR C hW tbX2 tyX2 tyX2_ok nmX2 (ci := 2) rfl hk_a0 hE_a0 10 (by decide) w_316 rfl (ty := .int) (v := .int 0) (by decide +kernel) rfl rfl (Nat.le_of_ble_eq_true rfl) dX2_init_51 (fun H locs hW hE_a0 => ?_)
  refine lv_aload_n C.1.1 C.1.2.1 dX2_init_54 rfl (lv_at hl 0 rfl) ?_
  refine lv_iconst (v := 0) C.1.1 C.1.2.1 dX2_init_55 (by decide) ?_
  refine wpR C hW tbX2 tyX2 tyX2_ok nmX2 (ci := 2) rfl hk_a0 hE_a0 11 (by decide) w_318 rfl (ty := .int) (v := .int 0) (by decide +kernel) rfl rfl (Nat.le_of_ble_eq_true rfl) dX2_init_56 (fun H locs hW hE_a0 => ?_)
  refine lv_aload_n C.1.1 C.1.2.1 dX2_init_59 rfl (lv_at hl 0 rfl) ?_
  refine lv_bipush (v := 8) C.1.1 C.1.2.1 dX2_init_60 (by decide) ?_
  refine wnI C hW w_178 (N := 8) (by decide) (by decide) (Nat.le_of_ble_eq_true rfl) (Nat.le_of_ble_eq_true rfl) (Nat.le_of_ble_eq_true rfl) dX2_init_62 (fun H hW => ?_)
  replace hG := hG.tr (gS.push _ (kA 1 8))
  replace C := (gS.push _ (kA 1 8)).Cx C
  obtain ⟨⟨hk_a0, hk_a1⟩, hf⟩ := gdP_s hf
  refine wpF C hW hin2 tbX2 tyX2 tyX2_ok nmX2 (ci := 2) rfl hk_a0 hE_a0 12 (by decide) w_320 rfl rfl (ty := .array .int) (v := .ref (gB G + _)) (by decide +kernel) rfl rfl (Nat.le_of_ble_eq_true rfl) dX2_init_64 (fun H locs hW hE_a0 => ?_)
  refine lv_aload_n C.1.1 C.1.2.1 dX2_init_67 rfl (lv_at hl 0 rfl) ?_
  refine lv_bipush (v := 8) C.1.1 C.1.2.1 dX2_init_68 (by decide) ?_
  refine wnI C hW w_178 (N := 8) (by decide) (by decide) (Nat.le_of_ble_eq_true rfl) (Nat.le_of_ble_eq_true rfl) (Nat.le_of_ble_eq_true rfl) dX2_init_70 (fun H hW => ?_)
  replace hG := hG.tr (gS.push _ (kA 1 8))
  replace C := (gS.push _ (kA 1 8)).Cx C
  obtain ⟨⟨hk_a0, hk_a1⟩, hf⟩ := gdP_s hf
  refine wpF C hW hin2 tbX2 tyX2 tyX2_ok nmX2 (ci := 2) rfl hk_a0 hE_a0 13 (by decide) w_322 rfl rfl (ty := .array .int) (v := .ref (gB G + _)) (by decide +kernel) rfl rfl (Nat.le_of_ble_eq_true rfl) dX2_init_72 (fun H locs hW hE_a0 => ?_)
  refine lv_aload_n C.1.1 C.1.2.1 dX2_init_75 rfl (lv_at hl 0 rfl) ?_
  refine lv_bipush (v := 8) C.1.1 C.1.2.1 dX2_init_76 (by decide) ?_
  refine wnI C hW w_178 (N := 8) (by decide) (by decide) (Nat.le_of_ble_eq_true rfl) (Nat.le_of_ble_eq_true rfl) (Nat.le_of_ble_eq_true rfl) dX2_init_78 (fun H hW => ?_)
  replace hG := hG.tr (gS.push _ (kA 1 8))
  replace C := (gS.push _ (kA 1 8)).Cx C
  obtain ⟨⟨hk_a0, hk_a1⟩, hf⟩ := gdP_s hf
  refine wpF C hW hin2 tbX2 tyX2 tyX2_ok nmX2 (ci := 2) rfl hk_a0 hE_a0 14 (by decide) w_324 rfl rfl (ty := .array .int) (v := .ref (gB G + _)) (by decide +kernel) rfl rfl (Nat.le_of_ble_eq_true rfl) dX2_init_80 (fun H locs hW hE_a0 => ?_)
  refine lv_aload_n C.1.1 C.1.2.1 dX2_init_83 rfl (lv_at hl 0 rfl) ?_
  refine lv_bipush (v := 8) C.1.1 C.1.2.1 dX2_init_84 (by decide) ?_
  refine wnI C hW w_178 (N := 8) (by decide) (by decide) (Nat.le_of_ble_eq_true rfl) (Nat.le_of_ble_eq_true rfl) (Nat.le_of_ble_eq_true rfl) dX2_init_86 (fun H hW => ?_)
  replace hG := hG.tr (gS.push _ (kA 1 8))
  replace C := (gS.push _ (kA 1 8)).Cx C
  obtain ⟨⟨hk_a0, hk_a1⟩, hf⟩ := gdP_s hf
  refine wpF C hW hin2 tbX2 tyX2 tyX2_ok nmX2 (ci := 2) rfl hk_a0 hE_a0 15 (by decide) w_326 rfl rfl (ty := .array .int) (v := .ref (gB G + _)) (by decide +kernel) rfl rfl (Nat.le_of_ble_eq_true rfl) dX2_init_88 (fun H locs hW hE_a0 => ?_)
  refine lv_aload_n C.1.1 C.1.2.1 dX2_init_91 rfl (lv_at hl 0 rfl) ?_
  refine lv_bipush (v := 8) C.1.1 C.1.2.1 dX2_init_92 (by decide) ?_
  refine wnI C hW w_178 (N := 8) (by decide) (by decide) (Nat.le_of_ble_eq_true rfl) (Nat.le_of_ble_eq_true rfl) (Nat.le_of_ble_eq_true rfl) dX2_init_94 (fun H hW => ?_)
  replace hG := hG.tr (gS.push _ (kA 1 8))
  replace C := (gS.push _ (kA 1 8)).Cx C
  obtain ⟨⟨hk_a0, hk_a1⟩, hf⟩ := gdP_s hf
  refine wpF C hW hin2 tbX2 tyX2 tyX2_ok nmX2 (ci := 2) rfl hk_a0 hE_a0 16 (by decide) w_328 rfl rfl (ty := .array .int) (v := .ref (gB G + _)) (by decide +kernel) rfl rfl (Nat.le_of_ble_eq_true rfl) dX2_init_96 (fun H locs hW hE_a0 => ?_)
  refine lv_aload_n C.1.1 C.1.2.1 dX2_init_99 rfl (lv_at hl 0 rfl) ?_
  refine lv_bipush (v := 8) C.1.1 C.1.2.1 dX2_init_100 (by decide) ?_
  refine wnI C hW w_178 (N := 8) (by decide) (by decide) (Nat.le_of_ble_eq_true rfl) (Nat.le_of_ble_eq_true rfl) (Nat.le_of_ble_eq_true rfl) dX2_init_102 (fun H hW => ?_)
  replace hG := hG.tr (gS.push _ (kA 1 8))
  replace C := (gS.push _ (kA 1 8)).Cx C
  obtain ⟨⟨hk_a0, hk_a1⟩, hf⟩ := gdP_s hf
  refine wpF C hW hin2 tbX2 tyX2 tyX2_ok nmX2 (ci := 2) rfl hk_a0 hE_a0 17 (by decide) w_330 rfl rfl (ty := .array .int) (v := .ref (gB G + _)) (by decide +kernel) rfl rfl (Nat.le_of_ble_eq_true rfl) dX2_init_104 (fun H locs hW hE_a0 => ?_)
  refine lv_aload_n C.1.1 C.1.2.1 dX2_init_107 rfl (lv_at hl 0 rfl) ?_
  refine lv_bipush (v := 6) C.1.1 C.1.2.1 dX2_init_108 (by decide) ?_
  refine wnI C hW w_178 (N := 6) (by decide) (by decide) (Nat.le_of_ble_eq_true rfl) (Nat.le_of_ble_eq_true rfl) (Nat.le_of_ble_eq_true rfl) dX2_init_110 (fun H hW => ?_)
  replace hG := hG.tr (gS.push _ (kA 1 6))
  replace C := (gS.push _ (kA 1 6)).Cx C
  obtain ⟨⟨hk_a0, hk_a1⟩, hf⟩ := gdP_s hf
  refine wpF C hW hin2 tbX2 tyX2 tyX2_ok nmX2 (ci := 2) rfl hk_a0 hE_a0 18 (by decide) w_332 rfl rfl (ty := .array .int) (v := .ref (gB G + _)) (by decide +kernel) rfl rfl (Nat.le_of_ble_eq_true rfl) dX2_init_112 (fun H locs hW hE_a0 => ?_)
  refine lv_aload_n C.1.1 C.1.2.1 dX2_init_115 rfl (lv_at hl 0 rfl) ?_
  refine lv_bipush (v := 6) C.1.1 C.1.2.1 dX2_init_116 (by decide) ?_
  refine wnI C hW w_178 (N := 6) (by decide) (by decide) (Nat.le_of_ble_eq_true rfl) (Nat.le_of_ble_eq_true rfl) (Nat.le_of_ble_eq_true rfl) dX2_init_118 (fun H hW => ?_)
  replace hG := hG.tr (gS.push _ (kA 1 6))
  replace C := (gS.push _ (kA 1 6)).Cx C
  obtain ⟨⟨hk_a0, hk_a1⟩, hf⟩ := gdP_s hf
  refine wpF C hW hin2 tbX2 tyX2 tyX2_ok nmX2 (ci := 2) rfl hk_a0 hE_a0 19 (by decide) w_334 rfl rfl (ty := .array .int) (v := .ref (gB G + _)) (by decide +kernel) rfl rfl (Nat.le_of_ble_eq_true rfl) dX2_init_120 (fun H locs hW hE_a0 => ?_)
  refine lv_aload_n C.1.1 C.1.2.1 dX2_init_123 rfl (lv_at hl 0 rfl) ?_
  refine lv_aload_n C.1.1 C.1.2.1 dX2_init_124 rfl (lv_at hl 1 rfl) ?_
  refine wpR C hW tbX2 tyX2 tyX2_ok nmX2 (ci := 2) rfl hk_a0 hE_a0 0 (by decide) w_297 rfl (ty := .object "RightKeys$Text") (v := .ref (gB G + _)) (by decide +kernel) rfl rfl (Nat.le_of_ble_eq_true rfl) dX2_init_125 (fun H locs hW hE_a0 => ?_)
  obtain ⟨⟨he9, hs9, hk9⟩, hf⟩ := gdP_s hf
  replace hW : Ws (gKind _ a0 3) _ s.heap _ _ := ⟨hW.1.kind hk9 (he9.trans hE_a0.symm) (fun x hx => by simp [wT, wR, va_up, hx]) hs9, hW.2⟩
  replace hG := hG.tr (gS.kind _ a0 3)
  replace C := (gS.kind _ a0 3).Cx C
  replace hk_a0 := gkk hW
  exact rn hQ C hr hlk hG hW hf dX2_init_128
theorem kiX5_init : KI yX5_init cX5_init 1 0 := ⟨⟨w_380, w_115, w_381⟩, rfl, ⟨by decide, by decide, by decide +kernel⟩⟩
noncomputable def fX5_init (a0 : Nat) (G : Gm) (σ : Sg) : Option (Gm × Sg) := let i1 := gN G; let G2 := gPush G (kA 1 8); let σ3 := z0 σ i1; gdP (gK G2 a0 = 9) (let σ4 := wE σ3 a0 (.inr (5, [.ref (gB G + i1), .int 0, .int 0, .int 0, .int 0])); let σ5 := wE σ4 a0 (.inr (5, [.ref (gB G + i1), .int 0, .int 0, .int 0, .int 0])); let σ6 := wE σ5 a0 (.inr (5, [.ref (gB G + i1), .int 0, .int 0, .int 0, .int 0])); let σ7 := wE σ6 a0 (.inr (5, [.ref (gB G + i1), .int 0, .int 0, .int 0, .int 0])); let σ8 := wE σ7 a0 (.inr (5, [.ref (gB G + i1), .int 0, .int 0, .int 0, .int 0])); let σ9 := wR σ8 a0 (fun j => 0); gdP (clE (gC G2) (gB G2) σ9 a0 6 = .inr (5, [.ref (gB G + i1), .int 0, .int 0, .int 0, .int 0]) ∧ Sh (va_up (gK G2) a0 6) (gN G2) σ9.2.2.1 ∧ gK G2 a0 = 9) (let G10 := gKind G2 a0 6; some (G10, σ9)))
set_option maxRecDepth 100000 in
set_option maxHeartbeats 4000000 in
theorem fSX5_init {G : Gm} {a0 : Nat} {σ : Sg} {G' : Gm} {σ' : Sg} (hf : fX5_init a0 G σ = some (G', σ')) : gS G G' := by
  delta fX5_init at hf
  have hG : gS G G := gS.rf
  replace hG := hG.tr (gS.push _ (kA 1 8))
  obtain ⟨-, hf⟩ := gdP_s hf
  obtain ⟨-, hf⟩ := gdP_s hf
  replace hG := hG.tr (gS.kind _ a0 6)
  cases hf
  exact hG
set_option maxRecDepth 100000 in
set_option maxHeartbeats 4000000 in
theorem mX5_init {l : Launch} {G : Gm} {a0 : Nat} {σ : Sg} {G' : Gm} {σ' : Sg} (hk_a0 : gK G a0 = 9) (hE_a0 : σ.2.2.2 a0 = .inr (5, [.null, .int 0, .int 0, .int 0, .int 0]))  (hf : fX5_init a0 G σ = some (G', σ')) : Mn l G yX5_init cX5_init 1 1 40 1 8 [.ref (gB G + a0)] σ G' σ' := by
  refine ⟨fSX5_init hf, ?_⟩
  refine of_Wn "RightKeys$Watch" rfl (by decide) (Nat.le_of_ble_eq_true rfl) ?_
  intro p e s m args below meth c Q hQ C hr hlk hin2 hW ls hl
  have hl : lv_has ls 1 [(0, .ref (gB G + a0))] := hl
  have hG : gS G G := gS.rf
  delta fX5_init at hf
  refine lv_aload_n C.1.1 C.1.2.1 dX5_init_0 rfl (lv_at hl 0 rfl) ?_
  refine W.objInit C.1.1 C.1.2.1 C.1.2.2.2.1 (C.w w_382) (C.w w_131) (C.w w_132) rfl (hl.1.trans C.1.2.2.1.symm) rfl dX5_init_1 (Nat.le_of_ble_eq_true rfl) (Nat.le_of_ble_eq_true rfl) ?_
  refine W.eq (g2 := F0 m 4 ls []) rfl ?_
  refine lv_aload_n C.1.1 C.1.2.1 dX5_init_4 rfl (lv_at hl 0 rfl) ?_
  refine lv_bipush (v := 8) C.1.1 C.1.2.1 dX5_init_5 (by decide) ?_
  refine wnI C hW w_178 (N := 8) (by decide) (by decide) (Nat.le_of_ble_eq_true rfl) (Nat.le_of_ble_eq_true rfl) (Nat.le_of_ble_eq_true rfl) dX5_init_7 (fun H hW => ?_)
  replace hG := hG.tr (gS.push _ (kA 1 8))
  replace C := (gS.push _ (kA 1 8)).Cx C
  obtain ⟨hk_a0, hf⟩ := gdP_s hf
  refine wpF C hW hin2 tbX5 tyX5 tyX5_ok nmX5 (ci := 5) rfl hk_a0 hE_a0 0 (by decide) w_383 rfl rfl (ty := .array .int) (v := .ref (gB G + _)) (by decide +kernel) rfl rfl (Nat.le_of_ble_eq_true rfl) dX5_init_9 (fun H locs hW hE_a0 => ?_)
  refine lv_aload_n C.1.1 C.1.2.1 dX5_init_12 rfl (lv_at hl 0 rfl) ?_
  refine lv_iconst (v := 0) C.1.1 C.1.2.1 dX5_init_13 (by decide) ?_
  refine wpR C hW tbX5 tyX5 tyX5_ok nmX5 (ci := 5) rfl hk_a0 hE_a0 1 (by decide) w_385 rfl (ty := .int) (v := .int 0) (by decide +kernel) rfl rfl (Nat.le_of_ble_eq_true rfl) dX5_init_14 (fun H locs hW hE_a0 => ?_)
  refine lv_aload_n C.1.1 C.1.2.1 dX5_init_17 rfl (lv_at hl 0 rfl) ?_
  refine lv_iconst (v := 0) C.1.1 C.1.2.1 dX5_init_18 (by decide) ?_
  refine wpR C hW tbX5 tyX5 tyX5_ok nmX5 (ci := 5) rfl hk_a0 hE_a0 2 (by decide) w_387 rfl (ty := .int) (v := .int 0) (by decide +kernel) rfl rfl (Nat.le_of_ble_eq_true rfl) dX5_init_19 (fun H locs hW hE_a0 => ?_)
  refine lv_aload_n C.1.1 C.1.2.1 dX5_init_22 rfl (lv_at hl 0 rfl) ?_
  refine lv_iconst (v := 0) C.1.1 C.1.2.1 dX5_init_23 (by decide) ?_
  refine wpR C hW tbX5 tyX5 tyX5_ok nmX5 (ci := 5) rfl hk_a0 hE_a0 3 (by decide) w_389 rfl (ty := .int) (v := .int 0) (by decide +kernel) rfl rfl (Nat.le_of_ble_eq_true rfl) dX5_init_24 (fun H locs hW hE_a0 => ?_)
  refine lv_aload_n C.1.1 C.1.2.1 dX5_init_27 rfl (lv_at hl 0 rfl) ?_
  refine lv_iconst (v := 0) C.1.1 C.1.2.1 dX5_init_28 (by decide) ?_
  refine wpR C hW tbX5 tyX5 tyX5_ok nmX5 (ci := 5) rfl hk_a0 hE_a0 4 (by decide) w_391 rfl (ty := .int) (v := .int 0) (by decide +kernel) rfl rfl (Nat.le_of_ble_eq_true rfl) dX5_init_29 (fun H locs hW hE_a0 => ?_)
  obtain ⟨⟨he9, hs9, hk9⟩, hf⟩ := gdP_s hf
  replace hW : Ws (gKind _ a0 6) _ s.heap _ _ := ⟨hW.1.kind hk9 (he9.trans hE_a0.symm) (fun x hx => by simp [wT, wR, va_up, hx]) hs9, hW.2⟩
  replace hG := hG.tr (gS.kind _ a0 6)
  replace C := (gS.kind _ a0 6).Cx C
  replace hk_a0 := gkk hW
  exact rn hQ C hr hlk hG hW hf dX5_init_32
