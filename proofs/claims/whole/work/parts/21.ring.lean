theorem kvX2_begin : KV 2 "RightKeys$Ring" yX2_begin cX2_begin 3 none 1 := ⟨⟨w_657, w_658, w_114, w_659⟩, ⟨rfl, by decide, by decide, by decide +kernel⟩, by decide, rfl⟩
noncomputable def bX2_begin_117 (a0 : Nat) (a1 : Nat) (x2 : Int32) (σ : Sg) : Option ((Int32 × Sg) ⊕ (Sg)) := if (8 : Int32) ≤ x2 then (some (Sum.inr σ)) else (if vin x2 8 then (let σ24 := wI σ (a0 + 4) ((x2).toNatClampNeg) x2; (let x2_25 := x2 + (1 : Int32); some (Sum.inl (x2_25, σ24)))) else none)
noncomputable def fX2_begin (a0 : Nat) (a1 : Nat) (σ : Sg) : Option (Sg) := (let σ1 := wT σ a0 0 a1; let σ2 := wI σ1 a0 1 (0 : Int32); let σ3 := wI σ2 a0 2 (((1 : Int32) <<< ((σ2.1 a1 0) &&& 31)) - (1 : Int32)); let σ4 := wI σ3 a0 3 (0 : Int32); let σ5 := wI σ4 a0 4 (0 : Int32); let σ6 := wI σ5 a0 5 (0 : Int32); let σ7 := wI σ6 a0 6 (0 : Int32); let σ8 := wI σ7 a0 7 (0 : Int32); let σ9 := wI σ8 a0 8 (σ8.1 a1 3); let σ10 := wI σ9 a0 9 (0 : Int32); let σ11 := wI σ10 a0 10 (0 : Int32); let σ12 := wI σ11 a0 11 (0 : Int32); let σ15 := wR σ12 (a0 + 1) (va_cpy (σ12.1 (a1 + 2)) (σ12.1 (a0 + 1)) ((0 : Int32)).toNatClampNeg ((0 : Int32)).toNatClampNeg ((8 : Int32)).toNatClampNeg); let σ18 := wR σ15 (a0 + 2) (va_cpy (σ15.1 (a1 + 3)) (σ15.1 (a0 + 2)) ((0 : Int32)).toNatClampNeg ((0 : Int32)).toNatClampNeg ((8 : Int32)).toNatClampNeg); let σ21 := wR σ18 (a0 + 3) (va_cpy (σ18.1 (a1 + 4)) (σ18.1 (a0 + 3)) ((0 : Int32)).toNatClampNeg ((0 : Int32)).toNatClampNeg ((8 : Int32)).toNatClampNeg); (lp (fun st => bX2_begin_117 a0 a1 st.1 st.2) ((0 : Int32), σ21)).bind (fun σ27 => (fJ7_fill_53178 8 (a0 + 5) (0 : Int32) σ27).bind (fun σ30 => (fJ7_fill_53178 8 (a0 + 6) (-2 : Int32) σ30).bind (fun σ36 => (let σ42 := wR σ36 (a0 + 7) (va_cpy (σ36.1 (a1 + 6)) (σ36.1 (a0 + 7)) ((0 : Int32)).toNatClampNeg ((0 : Int32)).toNatClampNeg ((6 : Int32)).toNatClampNeg); (fJ7_fill_53178 6 (a0 + 8) (-2 : Int32) σ42).bind (fun σ45 => some σ45))))))
set_option maxRecDepth 100000 in
set_option maxHeartbeats 4000000 in
theorem mX2_begin {l : Launch} {G : Gm} {a0 : Nat} {a1 : Nat} {σ : Sg} {σ' : Sg} (hk_a0 : gK G a0 = 3) (hk_a1 : gK G a1 = 4) (hf : fX2_begin a0 a1 σ = some σ') : Mv l G yX2_begin cX2_begin 3 1 40 [.ref (gB G + a0), .ref (gB G + a1)] σ σ' := by
  refine of_W "RightKeys$Ring" rfl (by decide) (Nat.le_of_ble_eq_true rfl) ?_
  intro p e s m args below meth c Q hQ C hr hlk hW ls hl
  have h00 := hW.1
  have hl : lv_has ls 3 [(0, .ref (gB G + a0)), (1, .ref (gB G + a1))] := hl
  delta fX2_begin at hf
  have L117 : ∀ (n : Nat) (x2 : Int32) (σ : Sg) (H : Heap) (locs : List Loc) (ls : Array Slot) (out : (Sg)), iter (fun st => bX2_begin_117 a0 a1 st.1 st.2) n (x2, σ) = some out → Ws G σ s.heap H locs → lv_has ls 3 [(0, .ref (gB G + a0)), (1, .ref (gB G + a1)), (2, .int x2)] → (∀ (σ : Sg) (H : Heap) (locs : List Loc) (ls : Array Slot), out = σ → Ws G σ s.heap H locs → lv_has ls 3 [(0, .ref (gB G + a0)), (1, .ref (gB G + a1))] → W p l e (rmOf 1 40) s m args below meth c H locs 0 0 Q (F0 m 136 ls [])) → W p l e (rmOf 1 40) s m args below meth c H locs 0 0 Q (F0 m 117 ls []) := by
    intro n
    induction n with
    | zero =>
      intro x2 σ H locs ls out hf
      exact (it_0 hf).elim
    | succ n ih =>
      intro x2 σ H locs ls out hf hW hl K117_136
      obtain ⟨x, hf, hx⟩ := it_s hf
      have hf : bX2_begin_117 a0 a1 x2 σ = some x := hf
      delta bX2_begin_117 at hf
      refine lv_iload_n C.1.1 C.1.2.1 dX2_begin_117 rfl (lv_at hl 2 rfl) ?_
      refine lv_bipush (v := 8) C.1.1 C.1.2.1 dX2_begin_118 (by decide) ?_
      refine lv_icmp_ge (tgt := 136) C.1.1 C.1.2.1 dX2_begin_120 (by decide) (fun h9 => ?_) (fun h9 => ?_)
      · replace hf := (if_pos h9).symm.trans hf
        cases hf
        cases hx
        exact K117_136 _ _ _ _ rfl hW (lv_sub hl [0, 1] rfl)
      · replace hf := (if_neg h9).symm.trans hf
        refine lv_aload_n C.1.1 C.1.2.1 dX2_begin_123 rfl (lv_at hl 0 rfl) ?_
        have hk22 := sh2_15 hW hk_a0
        refine gf2_15 C hW hk_a0 w_326 dX2_begin_124 ?_
        refine lv_iload_n C.1.1 C.1.2.1 dX2_begin_127 rfl (lv_at hl 2 rfl) ?_
        refine lv_iload_n C.1.1 C.1.2.1 dX2_begin_128 rfl (lv_at hl 2 rfl) ?_
        obtain ⟨hv23, hf⟩ := gd hf
        refine wsi C hW hk22 (vin_p hv23) dX2_begin_129 (fun H locs hW => ?_)
        refine lv_iinc (v := _) (lv' := [(2, .int _), (0, .ref _), (1, .ref _)]) C.1.1 C.1.2.1 dX2_begin_130 hl (k := 2) rfl (ii (k := 1) (by decide)) (by decide) rfl (fun ls hl => ?_)
        refine lv_goto (tgt := 117) C.1.1 C.1.2.1 dX2_begin_133 (by decide) ?_
        cases hf
        exact ih _ _ _ _ _ _ hx hW (lv_sub hl [1, 2, 0] rfl) K117_136
  refine lv_aload_n C.1.1 C.1.2.1 dX2_begin_0 rfl (lv_at hl 0 rfl) ?_
  refine lv_aload_n C.1.1 C.1.2.1 dX2_begin_1 rfl (lv_at hl 1 rfl) ?_
  refine pf2_0 C hW hk_a0 hk_a1 w_297 dX2_begin_2 (fun H locs hW => ?_)
  refine lv_aload_n C.1.1 C.1.2.1 dX2_begin_5 rfl (lv_at hl 0 rfl) ?_
  refine lv_iconst (v := 0) C.1.1 C.1.2.1 dX2_begin_6 (by decide) ?_
  refine pf2_1 C hW hk_a0 w_298 dX2_begin_7 (fun H locs hW => ?_)
  refine lv_aload_n C.1.1 C.1.2.1 dX2_begin_10 rfl (lv_at hl 0 rfl) ?_
  refine lv_iconst (v := 1) C.1.1 C.1.2.1 dX2_begin_11 (by decide) ?_
  refine lv_aload_n C.1.1 C.1.2.1 dX2_begin_12 rfl (lv_at hl 1 rfl) ?_
  refine gf3_0 C hW hk_a1 w_180 dX2_begin_13 ?_
  refine lv_ishl C.1.1 C.1.2.1 dX2_begin_16 ?_
  refine lv_iconst (v := 1) C.1.1 C.1.2.1 dX2_begin_17 (by decide) ?_
  refine lv_isub C.1.1 C.1.2.1 dX2_begin_18 ?_
  refine pf2_2 C hW hk_a0 w_300 dX2_begin_19 (fun H locs hW => ?_)
  refine lv_aload_n C.1.1 C.1.2.1 dX2_begin_22 rfl (lv_at hl 0 rfl) ?_
  refine lv_iconst (v := 0) C.1.1 C.1.2.1 dX2_begin_23 (by decide) ?_
  refine pf2_3 C hW hk_a0 w_302 dX2_begin_24 (fun H locs hW => ?_)
  refine lv_aload_n C.1.1 C.1.2.1 dX2_begin_27 rfl (lv_at hl 0 rfl) ?_
  refine lv_iconst (v := 0) C.1.1 C.1.2.1 dX2_begin_28 (by decide) ?_
  refine pf2_4 C hW hk_a0 w_305 dX2_begin_29 (fun H locs hW => ?_)
  refine lv_aload_n C.1.1 C.1.2.1 dX2_begin_32 rfl (lv_at hl 0 rfl) ?_
  refine lv_iconst (v := 0) C.1.1 C.1.2.1 dX2_begin_33 (by decide) ?_
  refine pf2_5 C hW hk_a0 w_307 dX2_begin_34 (fun H locs hW => ?_)
  refine lv_aload_n C.1.1 C.1.2.1 dX2_begin_37 rfl (lv_at hl 0 rfl) ?_
  refine lv_iconst (v := 0) C.1.1 C.1.2.1 dX2_begin_38 (by decide) ?_
  refine pf2_6 C hW hk_a0 w_309 dX2_begin_39 (fun H locs hW => ?_)
  refine lv_aload_n C.1.1 C.1.2.1 dX2_begin_42 rfl (lv_at hl 0 rfl) ?_
  refine lv_iconst (v := 0) C.1.1 C.1.2.1 dX2_begin_43 (by decide) ?_
  refine pf2_7 C hW hk_a0 w_310 (Or.inl rfl) dX2_begin_44 (fun H locs hW => ?_)
  refine lv_aload_n C.1.1 C.1.2.1 dX2_begin_47 rfl (lv_at hl 0 rfl) ?_
  refine lv_aload_n C.1.1 C.1.2.1 dX2_begin_48 rfl (lv_at hl 1 rfl) ?_
  refine gf3_3 C hW hk_a1 w_192 dX2_begin_49 ?_
  refine pf2_8 C hW hk_a0 w_312 dX2_begin_52 (fun H locs hW => ?_)
  refine lv_aload_n C.1.1 C.1.2.1 dX2_begin_55 rfl (lv_at hl 0 rfl) ?_
  refine lv_iconst (v := 0) C.1.1 C.1.2.1 dX2_begin_56 (by decide) ?_
  refine pf2_9 C hW hk_a0 w_314 dX2_begin_57 (fun H locs hW => ?_)
  refine lv_aload_n C.1.1 C.1.2.1 dX2_begin_60 rfl (lv_at hl 0 rfl) ?_
  refine lv_iconst (v := 0) C.1.1 C.1.2.1 dX2_begin_61 (by decide) ?_
  refine pf2_10 C hW hk_a0 w_316 dX2_begin_62 (fun H locs hW => ?_)
  refine lv_aload_n C.1.1 C.1.2.1 dX2_begin_65 rfl (lv_at hl 0 rfl) ?_
  refine lv_iconst (v := 0) C.1.1 C.1.2.1 dX2_begin_66 (by decide) ?_
  refine pf2_11 C hW hk_a0 w_318 dX2_begin_67 (fun H locs hW => ?_)
  refine lv_aload_n C.1.1 C.1.2.1 dX2_begin_70 rfl (lv_at hl 1 rfl) ?_
  have hk13 := sh3_5 hW hk_a1
  refine gf3_5 C hW hk_a1 w_198 dX2_begin_71 ?_
  refine lv_iconst (v := 0) C.1.1 C.1.2.1 dX2_begin_74 (by decide) ?_
  refine lv_aload_n C.1.1 C.1.2.1 dX2_begin_75 rfl (lv_at hl 0 rfl) ?_
  have hk14 := sh2_12 hW hk_a0
  refine gf2_12 C hW hk_a0 w_320 dX2_begin_76 ?_
  refine lv_iconst (v := 0) C.1.1 C.1.2.1 dX2_begin_79 (by decide) ?_
  refine lv_bipush (v := 8) C.1.1 C.1.2.1 dX2_begin_80 (by decide) ?_
  refine cCpy C hW w_660 w_662 w_661 w_122 hl.1 hk13 hk14 (by decide) (by decide) (by decide) (by decide) (by decide) (Nat.le_of_ble_eq_true rfl) (by decide) dX2_begin_82 (fun H locs hW => ?_)
  refine lv_aload_n C.1.1 C.1.2.1 dX2_begin_85 rfl (lv_at hl 1 rfl) ?_
  have hk16 := sh3_6 hW hk_a1
  refine gf3_6 C hW hk_a1 w_201 dX2_begin_86 ?_
  refine lv_iconst (v := 0) C.1.1 C.1.2.1 dX2_begin_89 (by decide) ?_
  refine lv_aload_n C.1.1 C.1.2.1 dX2_begin_90 rfl (lv_at hl 0 rfl) ?_
  have hk17 := sh2_13 hW hk_a0
  refine gf2_13 C hW hk_a0 w_322 dX2_begin_91 ?_
  refine lv_iconst (v := 0) C.1.1 C.1.2.1 dX2_begin_94 (by decide) ?_
  refine lv_bipush (v := 8) C.1.1 C.1.2.1 dX2_begin_95 (by decide) ?_
  refine cCpy C hW w_660 w_662 w_661 w_122 hl.1 hk16 hk17 (by decide) (by decide) (by decide) (by decide) (by decide) (Nat.le_of_ble_eq_true rfl) (by decide) dX2_begin_97 (fun H locs hW => ?_)
  refine lv_aload_n C.1.1 C.1.2.1 dX2_begin_100 rfl (lv_at hl 1 rfl) ?_
  have hk19 := sh3_7 hW hk_a1
  refine gf3_7 C hW hk_a1 w_204 dX2_begin_101 ?_
  refine lv_iconst (v := 0) C.1.1 C.1.2.1 dX2_begin_104 (by decide) ?_
  refine lv_aload_n C.1.1 C.1.2.1 dX2_begin_105 rfl (lv_at hl 0 rfl) ?_
  have hk20 := sh2_14 hW hk_a0
  refine gf2_14 C hW hk_a0 w_324 dX2_begin_106 ?_
  refine lv_iconst (v := 0) C.1.1 C.1.2.1 dX2_begin_109 (by decide) ?_
  refine lv_bipush (v := 8) C.1.1 C.1.2.1 dX2_begin_110 (by decide) ?_
  refine cCpy C hW w_660 w_662 w_661 w_122 hl.1 hk19 hk20 (by decide) (by decide) (by decide) (by decide) (by decide) (Nat.le_of_ble_eq_true rfl) (by decide) dX2_begin_112 (fun H locs hW => ?_)
  refine lv_iconst (v := 0) C.1.1 C.1.2.1 dX2_begin_115 (by decide) ?_
  refine lv_istore_n (lv' := [(2, .int _), (0, .ref _), (1, .ref _)]) C.1.1 C.1.2.1 dX2_begin_116 rfl hl (by decide) rfl (fun ls hl => ?_)
  obtain ⟨o26, ho, hf⟩ := bd hf
  obtain ⟨n, ho⟩ := lp_it ho
  refine L117 n _ _ _ _ _ o26 ho hW (lv_sub hl [1, 2, 0] rfl) ?_
  intro  σ27 H locs ls e9 hW hl
  subst e9
  try dsimp only at hf
  refine lv_aload_n C.1.1 C.1.2.1 dX2_begin_136 rfl (lv_at hl 0 rfl) ?_
  have hk28 := sh2_16 hW hk_a0
  refine gf2_16 C hW hk_a0 w_328 dX2_begin_137 ?_
  refine lv_iconst (v := 0) C.1.1 C.1.2.1 dX2_begin_140 (by decide) ?_
  obtain ⟨σ30, hc29, hf⟩ := bd hf
  try dsimp only at hf
  refine cSv C hW (mJ7_fill_53178 hk28 hc29) ksJ7_fill_53178 w_663 ⟨(Nat.le_of_ble_eq_true rfl), (Nat.le_of_ble_eq_true rfl)⟩ ⟨Nat.zero_le _, Nat.zero_le _⟩ rfl hl.1 (rest := []) rfl (Nat.le_of_ble_eq_true rfl) dX2_begin_141 (fun H locs hW => ?_)
  refine lv_aload_n C.1.1 C.1.2.1 dX2_begin_144 rfl (lv_at hl 0 rfl) ?_
  have hk34 := sh2_17 hW hk_a0
  refine gf2_17 C hW hk_a0 w_330 dX2_begin_145 ?_
  refine lv_bipush (v := (-2)) C.1.1 C.1.2.1 dX2_begin_148 (by decide) ?_
  obtain ⟨σ36, hc35, hf⟩ := bd hf
  try dsimp only at hf
  refine cSv C hW (mJ7_fill_53178 hk34 hc35) ksJ7_fill_53178 w_663 ⟨(Nat.le_of_ble_eq_true rfl), (Nat.le_of_ble_eq_true rfl)⟩ ⟨Nat.zero_le _, Nat.zero_le _⟩ rfl hl.1 (rest := []) rfl (Nat.le_of_ble_eq_true rfl) dX2_begin_150 (fun H locs hW => ?_)
  refine lv_aload_n C.1.1 C.1.2.1 dX2_begin_153 rfl (lv_at hl 1 rfl) ?_
  have hk40 := sh3_9 hW hk_a1
  refine gf3_9 C hW hk_a1 w_211 dX2_begin_154 ?_
  refine lv_iconst (v := 0) C.1.1 C.1.2.1 dX2_begin_157 (by decide) ?_
  refine lv_aload_n C.1.1 C.1.2.1 dX2_begin_158 rfl (lv_at hl 0 rfl) ?_
  have hk41 := sh2_18 hW hk_a0
  refine gf2_18 C hW hk_a0 w_332 dX2_begin_159 ?_
  refine lv_iconst (v := 0) C.1.1 C.1.2.1 dX2_begin_162 (by decide) ?_
  refine lv_bipush (v := 6) C.1.1 C.1.2.1 dX2_begin_163 (by decide) ?_
  refine cCpy C hW w_660 w_662 w_661 w_122 hl.1 hk40 hk41 (by decide) (by decide) (by decide) (by decide) (by decide) (Nat.le_of_ble_eq_true rfl) (by decide) dX2_begin_165 (fun H locs hW => ?_)
  refine lv_aload_n C.1.1 C.1.2.1 dX2_begin_168 rfl (lv_at hl 0 rfl) ?_
  have hk43 := sh2_19 hW hk_a0
  refine gf2_19 C hW hk_a0 w_334 dX2_begin_169 ?_
  refine lv_bipush (v := (-2)) C.1.1 C.1.2.1 dX2_begin_172 (by decide) ?_
  obtain ⟨σ45, hc44, hf⟩ := bd hf
  try dsimp only at hf
  refine cSv C hW (mJ7_fill_53178 hk43 hc44) ksJ7_fill_53178 w_663 ⟨(Nat.le_of_ble_eq_true rfl), (Nat.le_of_ble_eq_true rfl)⟩ ⟨Nat.zero_le _, Nat.zero_le _⟩ rfl hl.1 (rest := []) rfl (Nat.le_of_ble_eq_true rfl) dX2_begin_174 (fun H locs hW => ?_)
  exact rv hQ C hr hlk hW hf dX2_begin_177
theorem kvX2_copyFrom : KV 2 "RightKeys$Ring" yX2_copyFrom cX2_copyFrom 2 none 1 := ⟨⟨w_781, w_782, w_114, w_783⟩, ⟨rfl, by decide, by decide, by decide +kernel⟩, by decide, rfl⟩
noncomputable def fX2_copyFrom (a0 : Nat) (a1 : Nat) (σ : Sg) : Option (Sg) := (let σ2 := wT σ a0 0 (σ.2.2.1 a1 0); let σ3 := wI σ2 a0 1 (σ2.1 a1 1); let σ4 := wI σ3 a0 2 (σ3.1 a1 2); let σ5 := wI σ4 a0 3 (σ4.1 a1 3); let σ6 := wI σ5 a0 4 (σ5.1 a1 4); let σ7 := wI σ6 a0 5 (σ6.1 a1 5); let σ8 := wI σ7 a0 6 (σ7.1 a1 6); if nz (σ8.1 a1 7) then (let σ9 := wI σ8 a0 7 (σ8.1 a1 7); (let σ11 := wI σ9 a0 8 (σ9.1 a1 8); let σ12 := wI σ11 a0 9 (σ11.1 a1 9); let σ13 := wI σ12 a0 10 (σ12.1 a1 10); let σ14 := wI σ13 a0 11 (σ13.1 a1 11); let σ17 := wR σ14 (a0 + 1) (va_cpy (σ14.1 (a1 + 1)) (σ14.1 (a0 + 1)) ((0 : Int32)).toNatClampNeg ((0 : Int32)).toNatClampNeg ((8 : Int32)).toNatClampNeg); let σ20 := wR σ17 (a0 + 2) (va_cpy (σ17.1 (a1 + 2)) (σ17.1 (a0 + 2)) ((0 : Int32)).toNatClampNeg ((0 : Int32)).toNatClampNeg ((8 : Int32)).toNatClampNeg); let σ23 := wR σ20 (a0 + 3) (va_cpy (σ20.1 (a1 + 3)) (σ20.1 (a0 + 3)) ((0 : Int32)).toNatClampNeg ((0 : Int32)).toNatClampNeg ((8 : Int32)).toNatClampNeg); let σ26 := wR σ23 (a0 + 4) (va_cpy (σ23.1 (a1 + 4)) (σ23.1 (a0 + 4)) ((0 : Int32)).toNatClampNeg ((0 : Int32)).toNatClampNeg ((8 : Int32)).toNatClampNeg); let σ29 := wR σ26 (a0 + 5) (va_cpy (σ26.1 (a1 + 5)) (σ26.1 (a0 + 5)) ((0 : Int32)).toNatClampNeg ((0 : Int32)).toNatClampNeg ((8 : Int32)).toNatClampNeg); let σ32 := wR σ29 (a0 + 6) (va_cpy (σ29.1 (a1 + 6)) (σ29.1 (a0 + 6)) ((0 : Int32)).toNatClampNeg ((0 : Int32)).toNatClampNeg ((8 : Int32)).toNatClampNeg); let σ35 := wR σ32 (a0 + 7) (va_cpy (σ32.1 (a1 + 7)) (σ32.1 (a0 + 7)) ((0 : Int32)).toNatClampNeg ((0 : Int32)).toNatClampNeg ((6 : Int32)).toNatClampNeg); let σ38 := wR σ35 (a0 + 8) (va_cpy (σ35.1 (a1 + 8)) (σ35.1 (a0 + 8)) ((0 : Int32)).toNatClampNeg ((0 : Int32)).toNatClampNeg ((6 : Int32)).toNatClampNeg); some σ38)) else none)
set_option maxRecDepth 100000 in
set_option maxHeartbeats 4000000 in
theorem mX2_copyFrom {l : Launch} {G : Gm} {a0 : Nat} {a1 : Nat} {σ : Sg} {σ' : Sg} (hk_a0 : gK G a0 = 3) (hk_a1 : gK G a1 = 3) (hf : fX2_copyFrom a0 a1 σ = some σ') : Mv l G yX2_copyFrom cX2_copyFrom 2 1 40 [.ref (gB G + a0), .ref (gB G + a1)] σ σ' := by
  refine of_W "RightKeys$Ring" rfl (by decide) (Nat.le_of_ble_eq_true rfl) ?_
  intro p e s m args below meth c Q hQ C hr hlk hW ls hl
  have h00 := hW.1
  have hl : lv_has ls 2 [(0, .ref (gB G + a0)), (1, .ref (gB G + a1))] := hl
  delta fX2_copyFrom at hf
  refine lv_aload_n C.1.1 C.1.2.1 dX2_copyFrom_0 rfl (lv_at hl 0 rfl) ?_
  refine lv_aload_n C.1.1 C.1.2.1 dX2_copyFrom_1 rfl (lv_at hl 1 rfl) ?_
  have hk1 := sh2_0 hW hk_a1
  refine gf2_0 C hW hk_a1 w_297 dX2_copyFrom_2 ?_
  refine pf2_0 C hW hk_a0 hk1 w_297 dX2_copyFrom_5 (fun H locs hW => ?_)
  refine lv_aload_n C.1.1 C.1.2.1 dX2_copyFrom_8 rfl (lv_at hl 0 rfl) ?_
  refine lv_aload_n C.1.1 C.1.2.1 dX2_copyFrom_9 rfl (lv_at hl 1 rfl) ?_
  refine gf2_1 C hW hk_a1 w_298 dX2_copyFrom_10 ?_
  refine pf2_1 C hW hk_a0 w_298 dX2_copyFrom_13 (fun H locs hW => ?_)
  refine lv_aload_n C.1.1 C.1.2.1 dX2_copyFrom_16 rfl (lv_at hl 0 rfl) ?_
  refine lv_aload_n C.1.1 C.1.2.1 dX2_copyFrom_17 rfl (lv_at hl 1 rfl) ?_
  refine gf2_2 C hW hk_a1 w_300 dX2_copyFrom_18 ?_
  refine pf2_2 C hW hk_a0 w_300 dX2_copyFrom_21 (fun H locs hW => ?_)
  refine lv_aload_n C.1.1 C.1.2.1 dX2_copyFrom_24 rfl (lv_at hl 0 rfl) ?_
  refine lv_aload_n C.1.1 C.1.2.1 dX2_copyFrom_25 rfl (lv_at hl 1 rfl) ?_
  refine gf2_3 C hW hk_a1 w_302 dX2_copyFrom_26 ?_
  refine pf2_3 C hW hk_a0 w_302 dX2_copyFrom_29 (fun H locs hW => ?_)
  refine lv_aload_n C.1.1 C.1.2.1 dX2_copyFrom_32 rfl (lv_at hl 0 rfl) ?_
  refine lv_aload_n C.1.1 C.1.2.1 dX2_copyFrom_33 rfl (lv_at hl 1 rfl) ?_
  refine gf2_4 C hW hk_a1 w_305 dX2_copyFrom_34 ?_
  refine pf2_4 C hW hk_a0 w_305 dX2_copyFrom_37 (fun H locs hW => ?_)
  refine lv_aload_n C.1.1 C.1.2.1 dX2_copyFrom_40 rfl (lv_at hl 0 rfl) ?_
  refine lv_aload_n C.1.1 C.1.2.1 dX2_copyFrom_41 rfl (lv_at hl 1 rfl) ?_
  refine gf2_5 C hW hk_a1 w_307 dX2_copyFrom_42 ?_
  refine pf2_5 C hW hk_a0 w_307 dX2_copyFrom_45 (fun H locs hW => ?_)
  refine lv_aload_n C.1.1 C.1.2.1 dX2_copyFrom_48 rfl (lv_at hl 0 rfl) ?_
  refine lv_aload_n C.1.1 C.1.2.1 dX2_copyFrom_49 rfl (lv_at hl 1 rfl) ?_
  refine gf2_6 C hW hk_a1 w_309 dX2_copyFrom_50 ?_
  refine pf2_6 C hW hk_a0 w_309 dX2_copyFrom_53 (fun H locs hW => ?_)
  refine lv_aload_n C.1.1 C.1.2.1 dX2_copyFrom_56 rfl (lv_at hl 0 rfl) ?_
  refine lv_aload_n C.1.1 C.1.2.1 dX2_copyFrom_57 rfl (lv_at hl 1 rfl) ?_
  refine gf2_7 C hW hk_a1 w_310 dX2_copyFrom_58 ?_
  obtain ⟨hz10, hf⟩ := gd hf
  refine pf2_7 C hW hk_a0 w_310 hz10 dX2_copyFrom_61 (fun H locs hW => ?_)
  refine lv_aload_n C.1.1 C.1.2.1 dX2_copyFrom_64 rfl (lv_at hl 0 rfl) ?_
  refine lv_aload_n C.1.1 C.1.2.1 dX2_copyFrom_65 rfl (lv_at hl 1 rfl) ?_
  refine gf2_8 C hW hk_a1 w_312 dX2_copyFrom_66 ?_
  refine pf2_8 C hW hk_a0 w_312 dX2_copyFrom_69 (fun H locs hW => ?_)
  refine lv_aload_n C.1.1 C.1.2.1 dX2_copyFrom_72 rfl (lv_at hl 0 rfl) ?_
  refine lv_aload_n C.1.1 C.1.2.1 dX2_copyFrom_73 rfl (lv_at hl 1 rfl) ?_
  refine gf2_9 C hW hk_a1 w_314 dX2_copyFrom_74 ?_
  refine pf2_9 C hW hk_a0 w_314 dX2_copyFrom_77 (fun H locs hW => ?_)
  refine lv_aload_n C.1.1 C.1.2.1 dX2_copyFrom_80 rfl (lv_at hl 0 rfl) ?_
  refine lv_aload_n C.1.1 C.1.2.1 dX2_copyFrom_81 rfl (lv_at hl 1 rfl) ?_
  refine gf2_10 C hW hk_a1 w_316 dX2_copyFrom_82 ?_
  refine pf2_10 C hW hk_a0 w_316 dX2_copyFrom_85 (fun H locs hW => ?_)
  refine lv_aload_n C.1.1 C.1.2.1 dX2_copyFrom_88 rfl (lv_at hl 0 rfl) ?_
  refine lv_aload_n C.1.1 C.1.2.1 dX2_copyFrom_89 rfl (lv_at hl 1 rfl) ?_
  refine gf2_11 C hW hk_a1 w_318 dX2_copyFrom_90 ?_
  refine pf2_11 C hW hk_a0 w_318 dX2_copyFrom_93 (fun H locs hW => ?_)
  refine lv_aload_n C.1.1 C.1.2.1 dX2_copyFrom_96 rfl (lv_at hl 1 rfl) ?_
  have hk15 := sh2_12 hW hk_a1
  refine gf2_12 C hW hk_a1 w_320 dX2_copyFrom_97 ?_
  refine lv_iconst (v := 0) C.1.1 C.1.2.1 dX2_copyFrom_100 (by decide) ?_
  refine lv_aload_n C.1.1 C.1.2.1 dX2_copyFrom_101 rfl (lv_at hl 0 rfl) ?_
  have hk16 := sh2_12 hW hk_a0
  refine gf2_12 C hW hk_a0 w_320 dX2_copyFrom_102 ?_
  refine lv_iconst (v := 0) C.1.1 C.1.2.1 dX2_copyFrom_105 (by decide) ?_
  refine lv_bipush (v := 8) C.1.1 C.1.2.1 dX2_copyFrom_106 (by decide) ?_
  refine cCpy C hW w_660 w_662 w_661 w_122 hl.1 hk15 hk16 (by decide) (by decide) (by decide) (by decide) (by decide) (Nat.le_of_ble_eq_true rfl) (by decide) dX2_copyFrom_108 (fun H locs hW => ?_)
  refine lv_aload_n C.1.1 C.1.2.1 dX2_copyFrom_111 rfl (lv_at hl 1 rfl) ?_
  have hk18 := sh2_13 hW hk_a1
  refine gf2_13 C hW hk_a1 w_322 dX2_copyFrom_112 ?_
  refine lv_iconst (v := 0) C.1.1 C.1.2.1 dX2_copyFrom_115 (by decide) ?_
  refine lv_aload_n C.1.1 C.1.2.1 dX2_copyFrom_116 rfl (lv_at hl 0 rfl) ?_
  have hk19 := sh2_13 hW hk_a0
  refine gf2_13 C hW hk_a0 w_322 dX2_copyFrom_117 ?_
  refine lv_iconst (v := 0) C.1.1 C.1.2.1 dX2_copyFrom_120 (by decide) ?_
  refine lv_bipush (v := 8) C.1.1 C.1.2.1 dX2_copyFrom_121 (by decide) ?_
  refine cCpy C hW w_660 w_662 w_661 w_122 hl.1 hk18 hk19 (by decide) (by decide) (by decide) (by decide) (by decide) (Nat.le_of_ble_eq_true rfl) (by decide) dX2_copyFrom_123 (fun H locs hW => ?_)
  refine lv_aload_n C.1.1 C.1.2.1 dX2_copyFrom_126 rfl (lv_at hl 1 rfl) ?_
  have hk21 := sh2_14 hW hk_a1
  refine gf2_14 C hW hk_a1 w_324 dX2_copyFrom_127 ?_
  refine lv_iconst (v := 0) C.1.1 C.1.2.1 dX2_copyFrom_130 (by decide) ?_
  refine lv_aload_n C.1.1 C.1.2.1 dX2_copyFrom_131 rfl (lv_at hl 0 rfl) ?_
  have hk22 := sh2_14 hW hk_a0
  refine gf2_14 C hW hk_a0 w_324 dX2_copyFrom_132 ?_
  refine lv_iconst (v := 0) C.1.1 C.1.2.1 dX2_copyFrom_135 (by decide) ?_
  refine lv_bipush (v := 8) C.1.1 C.1.2.1 dX2_copyFrom_136 (by decide) ?_
  refine cCpy C hW w_660 w_662 w_661 w_122 hl.1 hk21 hk22 (by decide) (by decide) (by decide) (by decide) (by decide) (Nat.le_of_ble_eq_true rfl) (by decide) dX2_copyFrom_138 (fun H locs hW => ?_)
  refine lv_aload_n C.1.1 C.1.2.1 dX2_copyFrom_141 rfl (lv_at hl 1 rfl) ?_
  have hk24 := sh2_15 hW hk_a1
  refine gf2_15 C hW hk_a1 w_326 dX2_copyFrom_142 ?_
  refine lv_iconst (v := 0) C.1.1 C.1.2.1 dX2_copyFrom_145 (by decide) ?_
  refine lv_aload_n C.1.1 C.1.2.1 dX2_copyFrom_146 rfl (lv_at hl 0 rfl) ?_
  have hk25 := sh2_15 hW hk_a0
  refine gf2_15 C hW hk_a0 w_326 dX2_copyFrom_147 ?_
  refine lv_iconst (v := 0) C.1.1 C.1.2.1 dX2_copyFrom_150 (by decide) ?_
  refine lv_bipush (v := 8) C.1.1 C.1.2.1 dX2_copyFrom_151 (by decide) ?_
  refine cCpy C hW w_660 w_662 w_661 w_122 hl.1 hk24 hk25 (by decide) (by decide) (by decide) (by decide) (by decide) (Nat.le_of_ble_eq_true rfl) (by decide) dX2_copyFrom_153 (fun H locs hW => ?_)
  refine lv_aload_n C.1.1 C.1.2.1 dX2_copyFrom_156 rfl (lv_at hl 1 rfl) ?_
  have hk27 := sh2_16 hW hk_a1
  refine gf2_16 C hW hk_a1 w_328 dX2_copyFrom_157 ?_
  refine lv_iconst (v := 0) C.1.1 C.1.2.1 dX2_copyFrom_160 (by decide) ?_
  refine lv_aload_n C.1.1 C.1.2.1 dX2_copyFrom_161 rfl (lv_at hl 0 rfl) ?_
  have hk28 := sh2_16 hW hk_a0
  refine gf2_16 C hW hk_a0 w_328 dX2_copyFrom_162 ?_
  refine lv_iconst (v := 0) C.1.1 C.1.2.1 dX2_copyFrom_165 (by decide) ?_
  refine lv_bipush (v := 8) C.1.1 C.1.2.1 dX2_copyFrom_166 (by decide) ?_
  refine cCpy C hW w_660 w_662 w_661 w_122 hl.1 hk27 hk28 (by decide) (by decide) (by decide) (by decide) (by decide) (Nat.le_of_ble_eq_true rfl) (by decide) dX2_copyFrom_168 (fun H locs hW => ?_)
  refine lv_aload_n C.1.1 C.1.2.1 dX2_copyFrom_171 rfl (lv_at hl 1 rfl) ?_
  have hk30 := sh2_17 hW hk_a1
  refine gf2_17 C hW hk_a1 w_330 dX2_copyFrom_172 ?_
  refine lv_iconst (v := 0) C.1.1 C.1.2.1 dX2_copyFrom_175 (by decide) ?_
  refine lv_aload_n C.1.1 C.1.2.1 dX2_copyFrom_176 rfl (lv_at hl 0 rfl) ?_
  have hk31 := sh2_17 hW hk_a0
  refine gf2_17 C hW hk_a0 w_330 dX2_copyFrom_177 ?_
  refine lv_iconst (v := 0) C.1.1 C.1.2.1 dX2_copyFrom_180 (by decide) ?_
  refine lv_bipush (v := 8) C.1.1 C.1.2.1 dX2_copyFrom_181 (by decide) ?_
  refine cCpy C hW w_660 w_662 w_661 w_122 hl.1 hk30 hk31 (by decide) (by decide) (by decide) (by decide) (by decide) (Nat.le_of_ble_eq_true rfl) (by decide) dX2_copyFrom_183 (fun H locs hW => ?_)
  refine lv_aload_n C.1.1 C.1.2.1 dX2_copyFrom_186 rfl (lv_at hl 1 rfl) ?_
  have hk33 := sh2_18 hW hk_a1
  refine gf2_18 C hW hk_a1 w_332 dX2_copyFrom_187 ?_
  refine lv_iconst (v := 0) C.1.1 C.1.2.1 dX2_copyFrom_190 (by decide) ?_
  refine lv_aload_n C.1.1 C.1.2.1 dX2_copyFrom_191 rfl (lv_at hl 0 rfl) ?_
  have hk34 := sh2_18 hW hk_a0
  refine gf2_18 C hW hk_a0 w_332 dX2_copyFrom_192 ?_
  refine lv_iconst (v := 0) C.1.1 C.1.2.1 dX2_copyFrom_195 (by decide) ?_
  refine lv_bipush (v := 6) C.1.1 C.1.2.1 dX2_copyFrom_196 (by decide) ?_
  refine cCpy C hW w_660 w_662 w_661 w_122 hl.1 hk33 hk34 (by decide) (by decide) (by decide) (by decide) (by decide) (Nat.le_of_ble_eq_true rfl) (by decide) dX2_copyFrom_198 (fun H locs hW => ?_)
  refine lv_aload_n C.1.1 C.1.2.1 dX2_copyFrom_201 rfl (lv_at hl 1 rfl) ?_
  have hk36 := sh2_19 hW hk_a1
  refine gf2_19 C hW hk_a1 w_334 dX2_copyFrom_202 ?_
  refine lv_iconst (v := 0) C.1.1 C.1.2.1 dX2_copyFrom_205 (by decide) ?_
  refine lv_aload_n C.1.1 C.1.2.1 dX2_copyFrom_206 rfl (lv_at hl 0 rfl) ?_
  have hk37 := sh2_19 hW hk_a0
  refine gf2_19 C hW hk_a0 w_334 dX2_copyFrom_207 ?_
  refine lv_iconst (v := 0) C.1.1 C.1.2.1 dX2_copyFrom_210 (by decide) ?_
  refine lv_bipush (v := 6) C.1.1 C.1.2.1 dX2_copyFrom_211 (by decide) ?_
  refine cCpy C hW w_660 w_662 w_661 w_122 hl.1 hk36 hk37 (by decide) (by decide) (by decide) (by decide) (by decide) (Nat.le_of_ble_eq_true rfl) (by decide) dX2_copyFrom_213 (fun H locs hW => ?_)
  exact rv hQ C hr hlk hW hf dX2_copyFrom_216
theorem ksX2_lot : KS yX2_lot cX2_lot 5 (some .int) 3 := ⟨⟨w_829, w_114, w_830⟩, ⟨by decide, by decide, by decide +kernel⟩⟩
noncomputable def jX2_lot_24 (p0 : Int32) (p1 : Int32) (p2 : Int32) (x4 : Int32) (s0 : Int32) (s1 : Int32) (σ : Sg) : Option ((Int32 × Int32 × Sg) ⊕ (Int32 × Sg)) := (let x3_1 := (((s0 ^^^ s1) * (1103515245 : Int32)) + (12345 : Int32)); let x3_2 := (x3_1 ^^^ (ius x3_1 (15 : Int32))); let x4_3 := x4 + (1 : Int32); some (Sum.inl (x3_2, x4_3, σ)))
noncomputable def bX2_lot_5 (p0 : Int32) (p1 : Int32) (p2 : Int32) (x3 : Int32) (x4 : Int32) (σ : Sg) : Option ((Int32 × Int32 × Sg) ⊕ (Int32 × Sg)) := if (2 : Int32) ≤ x4 then (some (Sum.inr (x3, σ))) else (if x4 = 0 then (jX2_lot_24 p0 p1 p2 x4 x3 (133 : Int32) σ) else (jX2_lot_24 p0 p1 p2 x4 x3 p2 σ))
noncomputable def fX2_lot (p0 : Int32) (p1 : Int32) (p2 : Int32) (σ : Sg) : Option (Int32 × Sg) := (lp (fun st => bX2_lot_5 p0 p1 p2 st.1 st.2.1 st.2.2) (p1, (0 : Int32), σ)).bind (fun q8 => let y6 := q8.1; let σ5 := q8.2;  if p0 ≤ 0 then (some ((0 : Int32), σ5)) else ((if ¬ p0 = 0 then (some ((irem (ius y6 (1 : Int32)) p0), σ5)) else none)))
set_option maxRecDepth 100000 in
set_option maxHeartbeats 4000000 in
theorem mX2_lot {l : Launch} {G : Gm} {p0 : Int32} {p1 : Int32} {p2 : Int32} {σ : Sg} {r : Int32} {σ' : Sg}  (hf : fX2_lot p0 p1 p2 σ = some (r, σ')) : Mi l G yX2_lot cX2_lot 5 .int 0 0 [.int p0, .int p1, .int p2] σ r σ' := by
  refine of_W "RightKeys$Ring" rfl (by decide) (Nat.le_of_ble_eq_true rfl) ?_
  intro p e s m args below meth c Q hQ C hr hlk hW ls hl
  have h00 := hW.1
  have hl : lv_has ls 5 [(0, .int p0), (1, .int p1), (2, .int p2)] := hl
  delta fX2_lot at hf
  have L5 : ∀ (n : Nat) (x3 : Int32) (x4 : Int32) (σ : Sg) (H : Heap) (locs : List Loc) (ls : Array Slot) (out : (Int32 × Sg)), iter (fun st => bX2_lot_5 p0 p1 p2 st.1 st.2.1 st.2.2) n (x3, x4, σ) = some out → Ws G σ s.heap H locs → lv_has ls 5 [(0, .int p0), (2, .int p2), (3, .int x3), (4, .int x4)] → (∀ (y3 : Int32) (σ : Sg) (H : Heap) (locs : List Loc) (ls : Array Slot), out = (y3, σ) → Ws G σ s.heap H locs → lv_has ls 5 [(0, .int p0), (3, .int y3)] → W p l e (rmOf 0 0) s m args below meth c H locs 0 0 Q (F0 m 46 ls [])) → W p l e (rmOf 0 0) s m args below meth c H locs 0 0 Q (F0 m 5 ls []) := by
    intro n
    induction n with
    | zero =>
      intro x3 x4 σ H locs ls out hf
      exact (it_0 hf).elim
    | succ n ih =>
      intro x3 x4 σ H locs ls out hf hW hl K5_46
      obtain ⟨x, hf, hx⟩ := it_s hf
      have hf : bX2_lot_5 p0 p1 p2 x3 x4 σ = some x := hf
      delta bX2_lot_5 at hf
      have J24 : ∀ (x4 : Int32) (s0 : Int32) (s1 : Int32) (σ : Sg) (H : Heap) (locs : List Loc) (ls : Array Slot), jX2_lot_24 p0 p1 p2 x4 s0 s1 σ = some x → Ws G σ s.heap H locs → lv_has ls 5 [(0, .int p0), (2, .int p2), (4, .int x4)] → W p l e (rmOf 0 0) s m args below meth c H locs 0 0 Q (F0 m 24 ls [.int s1, .int s0]) := by
        intro x4 s0 s1 σ H locs ls hf hW hl
        delta jX2_lot_24 at hf
        refine lv_ixor C.1.1 C.1.2.1 dX2_lot_24 ?_
        refine lv_ldc (v := 1103515245) C.1.1 C.1.2.1 C.1.2.2.2.1 (C.w w_831) dX2_lot_25 ?_
        refine lv_imul C.1.1 C.1.2.1 dX2_lot_27 ?_
        refine lv_sipush (v := 12345) C.1.1 C.1.2.1 dX2_lot_28 (by decide) ?_
        refine lv_iadd C.1.1 C.1.2.1 dX2_lot_31 ?_
        refine lv_istore_n (lv' := [(3, .int _), (0, .int _), (2, .int _), (4, .int _)]) C.1.1 C.1.2.1 dX2_lot_32 rfl hl (by decide) rfl (fun ls hl => ?_)
        refine lv_iload_n C.1.1 C.1.2.1 dX2_lot_33 rfl (lv_at hl 0 rfl) ?_
        refine lv_iload_n C.1.1 C.1.2.1 dX2_lot_34 rfl (lv_at hl 0 rfl) ?_
        refine lv_bipush (v := 15) C.1.1 C.1.2.1 dX2_lot_35 (by decide) ?_
        refine lv_iushr (v := ius _ _) C.1.1 C.1.2.1 dX2_lot_37 rfl ?_
        refine lv_ixor C.1.1 C.1.2.1 dX2_lot_38 ?_
        refine lv_istore_n (lv' := [(3, .int _), (0, .int _), (2, .int _), (4, .int _)]) C.1.1 C.1.2.1 dX2_lot_39 rfl hl (by decide) rfl (fun ls hl => ?_)
        refine lv_iinc (v := _) (lv' := [(4, .int _), (3, .int _), (0, .int _), (2, .int _)]) C.1.1 C.1.2.1 dX2_lot_40 hl (k := 3) rfl (ii (k := 1) (by decide)) (by decide) rfl (fun ls hl => ?_)
        refine lv_goto (tgt := 5) C.1.1 C.1.2.1 dX2_lot_43 (by decide) ?_
        cases hf
        exact ih _ _ _ _ _ _ _ hx hW (lv_sub hl [2, 3, 1, 0] rfl) K5_46
      refine lv_iload C.1.1 C.1.2.1 dX2_lot_5 (lv_at hl 3 rfl) ?_
      refine lv_iconst (v := 2) C.1.1 C.1.2.1 dX2_lot_7 (by decide) ?_
      refine lv_icmp_ge (tgt := 46) C.1.1 C.1.2.1 dX2_lot_8 (by decide) (fun h9 => ?_) (fun h9 => ?_)
      · replace hf := (if_pos h9).symm.trans hf
        cases hf
        cases hx
        exact K5_46 _ _ _ _ _ rfl hW (lv_sub hl [0, 2] rfl)
      · replace hf := (if_neg h9).symm.trans hf
        refine lv_iload_n C.1.1 C.1.2.1 dX2_lot_11 rfl (lv_at hl 2 rfl) ?_
        refine lv_iload C.1.1 C.1.2.1 dX2_lot_12 (lv_at hl 3 rfl) ?_
        refine lv_if_ne (tgt := 23) C.1.1 C.1.2.1 dX2_lot_14 (by decide) (fun h9 => ?_) (fun h9 => ?_)
        · replace hf := (if_neg h9).symm.trans hf
          refine lv_iload_n C.1.1 C.1.2.1 dX2_lot_23 rfl (lv_at hl 1 rfl) ?_
          exact J24 _ _ _ _ _ _ _ hf hW (lv_sub hl [0, 1, 3] rfl)
        · replace hf := (if_pos h9).symm.trans hf
          refine lv_sipush (v := 133) C.1.1 C.1.2.1 dX2_lot_17 (by decide) ?_
          refine lv_goto (tgt := 24) C.1.1 C.1.2.1 dX2_lot_20 (by decide) ?_
          exact J24 _ _ _ _ _ _ _ hf hW (lv_sub hl [0, 1, 3] rfl)
  refine lv_iload_n C.1.1 C.1.2.1 dX2_lot_0 rfl (lv_at hl 1 rfl) ?_
  refine lv_istore_n (lv' := [(3, .int _), (0, .int _), (1, .int _), (2, .int _)]) C.1.1 C.1.2.1 dX2_lot_1 rfl hl (by decide) rfl (fun ls hl => ?_)
  refine lv_iconst (v := 0) C.1.1 C.1.2.1 dX2_lot_2 (by decide) ?_
  refine lv_istore (lv' := [(4, .int _), (3, .int _), (0, .int _), (1, .int _), (2, .int _)]) C.1.1 C.1.2.1 dX2_lot_3 hl (by decide) rfl (fun ls hl => ?_)
  obtain ⟨o4, ho, hf⟩ := bd hf
  obtain ⟨n, ho⟩ := lp_it ho
  refine L5 n _ _ _ _ _ _ o4 ho hW (lv_sub hl [2, 4, 1, 0] rfl) ?_
  intro y6 σ5 H locs ls e9 hW hl
  subst e9
  try dsimp only at hf
  refine lv_iload_n C.1.1 C.1.2.1 dX2_lot_46 rfl (lv_at hl 0 rfl) ?_
  refine lv_if_le (tgt := 58) C.1.1 C.1.2.1 dX2_lot_47 (by decide) (fun h9 => ?_) (fun h9 => ?_)
  · replace hf := (if_pos h9).symm.trans hf
    refine lv_iconst (v := 0) C.1.1 C.1.2.1 dX2_lot_58 (by decide) ?_
    exact ri hQ C hr hlk hW hf (rok_i _) dX2_lot_59
  · replace hf := (if_neg h9).symm.trans hf
    refine lv_iload_n C.1.1 C.1.2.1 dX2_lot_50 rfl (lv_at hl 1 rfl) ?_
    refine lv_iconst (v := 1) C.1.1 C.1.2.1 dX2_lot_51 (by decide) ?_
    refine lv_iushr (v := ius _ _) C.1.1 C.1.2.1 dX2_lot_52 rfl ?_
    refine lv_iload_n C.1.1 C.1.2.1 dX2_lot_53 rfl (lv_at hl 0 rfl) ?_
    obtain ⟨hz7, hf⟩ := gd hf
    refine lv_irem C.1.1 C.1.2.1 dX2_lot_54 hz7 ?_
    refine lv_goto (tgt := 59) C.1.1 C.1.2.1 dX2_lot_55 (by decide) ?_
    exact ri hQ C hr hlk hW hf (rok_i _) dX2_lot_59
theorem kvX2_setVariables : KV 2 "RightKeys$Ring" yX2_setVariables cX2_setVariables 7 none 5 := ⟨⟨w_690, w_22, w_114, w_691⟩, ⟨rfl, by decide, by decide, by decide +kernel⟩, by decide, rfl⟩
noncomputable def fX2_setVariables (a0 : Nat) (p1 : Int32) (p2 : Int32) (p3 : Int32) (p4 : Int32) (p5 : Int32) (σ : Sg) : Option (Sg) := (let x6_4 := (((σ.2.2.1 a0 0) + 7) + 3); let σ5 := wI σ x6_4 0 (irem (σ.1 a0 1) (24 : Int32)); let σ6 := wI σ5 x6_4 1 ((σ5.1 a0 1) / (24 : Int32)); let σ7 := wI σ6 x6_4 2 p1; let σ8 := wI σ7 x6_4 3 p2; let σ9 := wI σ8 x6_4 4 p3; let σ10 := wI σ9 x6_4 5 p4; (fJ6_bitCount_0f7a4 (σ10.1 a0 2) σ10).bind (fun q15 => let r13 := q15.1; let σ12 := q15.2; (let σ16 := wI σ12 x6_4 6 r13; (fJ6_bitCount_0f7a4 (σ16.1 a0 3) σ16).bind (fun q21 => let r19 := q21.1; let σ18 := q21.2; (let σ22 := wI σ18 x6_4 7 r19; let σ23 := wI σ22 x6_4 8 p5; some σ23)))))
set_option maxRecDepth 100000 in
set_option maxHeartbeats 4000000 in
theorem mX2_setVariables {l : Launch} {G : Gm} {a0 : Nat} {p1 : Int32} {p2 : Int32} {p3 : Int32} {p4 : Int32} {p5 : Int32} {σ : Sg} {σ' : Sg} (hk_a0 : gK G a0 = 3) (hf : fX2_setVariables a0 p1 p2 p3 p4 p5 σ = some σ') : Mv l G yX2_setVariables cX2_setVariables 7 1 20 [.ref (gB G + a0), .int p1, .int p2, .int p3, .int p4, .int p5] σ σ' := by
  refine of_W "RightKeys$Ring" rfl (by decide) (Nat.le_of_ble_eq_true rfl) ?_
  intro p e s m args below meth c Q hQ C hr hlk hW ls hl
  have h00 := hW.1
  have hl : lv_has ls 7 [(0, .ref (gB G + a0)), (1, .int p1), (2, .int p2), (3, .int p3), (4, .int p4), (5, .int p5)] := hl
  delta fX2_setVariables at hf
  refine lv_aload_n C.1.1 C.1.2.1 dX2_setVariables_0 rfl (lv_at hl 0 rfl) ?_
  have hk1 := sh2_0 hW hk_a0
  refine gf2_0 C hW hk_a0 w_297 dX2_setVariables_1 ?_
  have hk2 := sh3_10 hW hk1
  refine gf3_10 C hW hk1 w_214 dX2_setVariables_4 ?_
  have hk3 := sh0_3 hW hk2
  refine gf0_3 C hW hk2 w_163 dX2_setVariables_7 ?_
  refine lv_astore (lv' := [(6, .ref _), (0, .ref _), (1, .int _), (2, .int _), (3, .int _), (4, .int _), (5, .int _)]) C.1.1 C.1.2.1 dX2_setVariables_10 hl (by decide) rfl (fun ls hl => ?_)
  refine lv_aload C.1.1 C.1.2.1 dX2_setVariables_12 (lv_at hl 0 rfl) ?_
  refine lv_iconst (v := 0) C.1.1 C.1.2.1 dX2_setVariables_14 (by decide) ?_
  refine lv_aload_n C.1.1 C.1.2.1 dX2_setVariables_15 rfl (lv_at hl 1 rfl) ?_
  refine gf2_1 C hW hk_a0 w_298 dX2_setVariables_16 ?_
  refine lv_bipush (v := 24) C.1.1 C.1.2.1 dX2_setVariables_19 (by decide) ?_
  refine lv_irem C.1.1 C.1.2.1 dX2_setVariables_21 (by decide) ?_
  refine wsi C hW hk3 (vin_p ⟨by decide, by decide⟩) dX2_setVariables_22 (fun H locs hW => ?_)
  refine lv_aload C.1.1 C.1.2.1 dX2_setVariables_23 (lv_at hl 0 rfl) ?_
  refine lv_iconst (v := 1) C.1.1 C.1.2.1 dX2_setVariables_25 (by decide) ?_
  refine lv_aload_n C.1.1 C.1.2.1 dX2_setVariables_26 rfl (lv_at hl 1 rfl) ?_
  refine gf2_1 C hW hk_a0 w_298 dX2_setVariables_27 ?_
  refine lv_bipush (v := 24) C.1.1 C.1.2.1 dX2_setVariables_30 (by decide) ?_
  refine lv_idiv C.1.1 C.1.2.1 dX2_setVariables_32 (by decide) ?_
  refine wsi C hW hk3 (vin_p ⟨by decide, by decide⟩) dX2_setVariables_33 (fun H locs hW => ?_)
  refine lv_aload C.1.1 C.1.2.1 dX2_setVariables_34 (lv_at hl 0 rfl) ?_
  refine lv_iconst (v := 2) C.1.1 C.1.2.1 dX2_setVariables_36 (by decide) ?_
  refine lv_iload_n C.1.1 C.1.2.1 dX2_setVariables_37 rfl (lv_at hl 2 rfl) ?_
  refine wsi C hW hk3 (vin_p ⟨by decide, by decide⟩) dX2_setVariables_38 (fun H locs hW => ?_)
  refine lv_aload C.1.1 C.1.2.1 dX2_setVariables_39 (lv_at hl 0 rfl) ?_
  refine lv_iconst (v := 3) C.1.1 C.1.2.1 dX2_setVariables_41 (by decide) ?_
  refine lv_iload_n C.1.1 C.1.2.1 dX2_setVariables_42 rfl (lv_at hl 3 rfl) ?_
  refine wsi C hW hk3 (vin_p ⟨by decide, by decide⟩) dX2_setVariables_43 (fun H locs hW => ?_)
  refine lv_aload C.1.1 C.1.2.1 dX2_setVariables_44 (lv_at hl 0 rfl) ?_
  refine lv_iconst (v := 4) C.1.1 C.1.2.1 dX2_setVariables_46 (by decide) ?_
  refine lv_iload_n C.1.1 C.1.2.1 dX2_setVariables_47 rfl (lv_at hl 4 rfl) ?_
  refine wsi C hW hk3 (vin_p ⟨by decide, by decide⟩) dX2_setVariables_48 (fun H locs hW => ?_)
  refine lv_aload C.1.1 C.1.2.1 dX2_setVariables_49 (lv_at hl 0 rfl) ?_
  refine lv_iconst (v := 5) C.1.1 C.1.2.1 dX2_setVariables_51 (by decide) ?_
  refine lv_iload C.1.1 C.1.2.1 dX2_setVariables_52 (lv_at hl 5 rfl) ?_
  refine wsi C hW hk3 (vin_p ⟨by decide, by decide⟩) dX2_setVariables_54 (fun H locs hW => ?_)
  refine lv_aload C.1.1 C.1.2.1 dX2_setVariables_55 (lv_at hl 0 rfl) ?_
  refine lv_bipush (v := 6) C.1.1 C.1.2.1 dX2_setVariables_57 (by decide) ?_
  refine lv_aload_n C.1.1 C.1.2.1 dX2_setVariables_59 rfl (lv_at hl 1 rfl) ?_
  refine gf2_2 C hW hk_a0 w_300 dX2_setVariables_60 ?_
  obtain ⟨⟨r13, σ12⟩, hc11, hf⟩ := bd hf
  try dsimp only at hf
  refine cSi C hW (mJ6_bitCount_0f7a4 hc11) ksJ6_bitCount_0f7a4 w_692 ⟨(Nat.le_of_ble_eq_true rfl), (Nat.le_of_ble_eq_true rfl)⟩ ⟨Nat.zero_le _, Nat.zero_le _⟩ rfl hl.1 (rest := [.int _, .ref _]) rfl (Nat.le_of_ble_eq_true rfl) dX2_setVariables_63 (fun H locs hn14 hW => ?_)
  refine wsi C hW hk3 (vin_p ⟨by decide, by decide⟩) dX2_setVariables_66 (fun H locs hW => ?_)
  refine lv_aload C.1.1 C.1.2.1 dX2_setVariables_67 (lv_at hl 0 rfl) ?_
  refine lv_bipush (v := 7) C.1.1 C.1.2.1 dX2_setVariables_69 (by decide) ?_
  refine lv_aload_n C.1.1 C.1.2.1 dX2_setVariables_71 rfl (lv_at hl 1 rfl) ?_
  refine gf2_3 C hW hk_a0 w_302 dX2_setVariables_72 ?_
  obtain ⟨⟨r19, σ18⟩, hc17, hf⟩ := bd hf
  try dsimp only at hf
  refine cSi C hW (mJ6_bitCount_0f7a4 hc17) ksJ6_bitCount_0f7a4 w_692 ⟨(Nat.le_of_ble_eq_true rfl), (Nat.le_of_ble_eq_true rfl)⟩ ⟨Nat.zero_le _, Nat.zero_le _⟩ rfl hl.1 (rest := [.int _, .ref _]) rfl (Nat.le_of_ble_eq_true rfl) dX2_setVariables_75 (fun H locs hn20 hW => ?_)
  refine wsi C hW hk3 (vin_p ⟨by decide, by decide⟩) dX2_setVariables_78 (fun H locs hW => ?_)
  refine lv_aload C.1.1 C.1.2.1 dX2_setVariables_79 (lv_at hl 0 rfl) ?_
  refine lv_bipush (v := 8) C.1.1 C.1.2.1 dX2_setVariables_81 (by decide) ?_
  refine lv_iload C.1.1 C.1.2.1 dX2_setVariables_83 (lv_at hl 6 rfl) ?_
  refine wsi C hW hk3 (vin_p ⟨by decide, by decide⟩) dX2_setVariables_85 (fun H locs hW => ?_)
  exact rv hQ C hr hlk hW hf dX2_setVariables_86
theorem kvX2_isLate : KV 2 "RightKeys$Ring" yX2_isLate cX2_isLate 3 (some .boolean) 1 := ⟨⟨w_826, w_33, w_114, w_827⟩, ⟨rfl, by decide, by decide, by decide +kernel⟩, by decide, rfl⟩
noncomputable def fX2_isLate (a0 : Nat) (p1 : Int32) (σ : Sg) : Option (Int32 × Sg) := if vin p1 8 then ((fX2_setVariables a0 (0 : Int32) (σ.1 (a0 + 3) ((p1).toNatClampNeg)) (0 : Int32) p1 (0 : Int32) σ).bind (fun σ4 => (fX0_valueOf ((σ4.2.2.1 a0 0) + 7) (3 : Int32) σ4).bind (fun q14 => let r12 := q14.1; let σ11 := q14.2; (fX2_lot (100 : Int32) (σ11.1 a0 8) (((32 : Int32) * (σ11.1 a0 1)) + p1) σ11).bind (fun q19 => let r17 := q19.1; let σ16 := q19.2; if (imax (0 : Int32) (imin (100 : Int32) r12)) ≤ r17 then (some ((0 : Int32), σ16)) else (some ((1 : Int32), σ16)))))) else none
set_option maxRecDepth 100000 in
set_option maxHeartbeats 4000000 in
theorem mX2_isLate {l : Launch} {G : Gm} {a0 : Nat} {p1 : Int32} {σ : Sg} {r : Int32} {σ' : Sg} (hk_a0 : gK G a0 = 3) (hf : fX2_isLate a0 p1 σ = some (r, σ')) : Mi l G yX2_isLate cX2_isLate 3 .boolean 2 65 [.ref (gB G + a0), .int p1] σ r σ' := by
  refine of_W "RightKeys$Ring" rfl (by decide) (Nat.le_of_ble_eq_true rfl) ?_
  intro p e s m args below meth c Q hQ C hr hlk hW ls hl
  have h00 := hW.1
  have hl : lv_has ls 3 [(0, .ref (gB G + a0)), (1, .int p1)] := hl
  delta fX2_isLate at hf
  refine lv_aload_n C.1.1 C.1.2.1 dX2_isLate_0 rfl (lv_at hl 0 rfl) ?_
  refine lv_iconst (v := 0) C.1.1 C.1.2.1 dX2_isLate_1 (by decide) ?_
  refine lv_aload_n C.1.1 C.1.2.1 dX2_isLate_2 rfl (lv_at hl 0 rfl) ?_
  have hk1 := sh2_14 hW hk_a0
  refine gf2_14 C hW hk_a0 w_324 dX2_isLate_3 ?_
  refine lv_iload_n C.1.1 C.1.2.1 dX2_isLate_6 rfl (lv_at hl 1 rfl) ?_
  obtain ⟨hv2, hf⟩ := gd hf
  refine wai C hW hk1 (vin_p hv2) dX2_isLate_7 ?_
  refine lv_iconst (v := 0) C.1.1 C.1.2.1 dX2_isLate_8 (by decide) ?_
  refine lv_iload_n C.1.1 C.1.2.1 dX2_isLate_9 rfl (lv_at hl 1 rfl) ?_
  refine lv_iconst (v := 0) C.1.1 C.1.2.1 dX2_isLate_10 (by decide) ?_
  obtain ⟨σ4, hc3, hf⟩ := bd hf
  try dsimp only at hf
  refine cVv C hW (mX2_setVariables hk_a0 hc3) hk_a0 kvX2_setVariables w_688 ⟨(Nat.le_of_ble_eq_true rfl), (Nat.le_of_ble_eq_true rfl)⟩ ⟨Nat.zero_le _, Nat.zero_le _⟩ rfl hl.1 (rest := []) rfl (Nat.le_of_ble_eq_true rfl) dX2_isLate_11 (fun H locs hW => ?_)
  refine lv_aload_n C.1.1 C.1.2.1 dX2_isLate_14 rfl (lv_at hl 0 rfl) ?_
  have hk8 := sh2_0 hW hk_a0
  refine gf2_0 C hW hk_a0 w_297 dX2_isLate_15 ?_
  have hk9 := sh3_10 hW hk8
  refine gf3_10 C hW hk8 w_214 dX2_isLate_18 ?_
  refine lv_iconst (v := 3) C.1.1 C.1.2.1 dX2_isLate_21 (by decide) ?_
  obtain ⟨⟨r12, σ11⟩, hc10, hf⟩ := bd hf
  try dsimp only at hf
  refine cVi C hW (mX0_valueOf hk9 hc10) hk9 kvX0_valueOf w_698 ⟨(Nat.le_of_ble_eq_true rfl), (Nat.le_of_ble_eq_true rfl)⟩ ⟨Nat.zero_le _, Nat.zero_le _⟩ rfl hl.1 (rest := []) rfl (Nat.le_of_ble_eq_true rfl) dX2_isLate_22 (fun H locs hn13 hW => ?_)
  refine lv_istore_n (lv' := [(2, .int _), (0, .ref _), (1, .int _)]) C.1.1 C.1.2.1 dX2_isLate_25 rfl hl (by decide) rfl (fun ls hl => ?_)
  refine lv_bipush (v := 100) C.1.1 C.1.2.1 dX2_isLate_26 (by decide) ?_
  refine lv_aload_n C.1.1 C.1.2.1 dX2_isLate_28 rfl (lv_at hl 1 rfl) ?_
  refine gf2_8 C hW hk_a0 w_312 dX2_isLate_29 ?_
  refine lv_bipush (v := 32) C.1.1 C.1.2.1 dX2_isLate_32 (by decide) ?_
  refine lv_aload_n C.1.1 C.1.2.1 dX2_isLate_34 rfl (lv_at hl 1 rfl) ?_
  refine gf2_1 C hW hk_a0 w_298 dX2_isLate_35 ?_
  refine lv_imul C.1.1 C.1.2.1 dX2_isLate_38 ?_
  refine lv_iload_n C.1.1 C.1.2.1 dX2_isLate_39 rfl (lv_at hl 2 rfl) ?_
  refine lv_iadd C.1.1 C.1.2.1 dX2_isLate_40 ?_
  obtain ⟨⟨r17, σ16⟩, hc15, hf⟩ := bd hf
  try dsimp only at hf
  refine cSi C hW (mX2_lot hc15) ksX2_lot w_828 ⟨(Nat.le_of_ble_eq_true rfl), (Nat.le_of_ble_eq_true rfl)⟩ ⟨Nat.zero_le _, Nat.zero_le _⟩ rfl hl.1 (rest := []) rfl (Nat.le_of_ble_eq_true rfl) dX2_isLate_41 (fun H locs hn18 hW => ?_)
  refine lv_iconst (v := 0) C.1.1 C.1.2.1 dX2_isLate_44 (by decide) ?_
  refine lv_bipush (v := 100) C.1.1 C.1.2.1 dX2_isLate_45 (by decide) ?_
  refine lv_iload_n C.1.1 C.1.2.1 dX2_isLate_47 rfl (lv_at hl 0 rfl) ?_
  refine cMin C w_708 w_559 w_121 w_560 hl.1 (Nat.le_of_ble_eq_true rfl) (Nat.le_of_ble_eq_true rfl) ⟨Nat.zero_le _, Nat.zero_le _⟩ dX2_isLate_48 ?_
  refine cMax C w_709 w_703 w_121 w_704 hl.1 (Nat.le_of_ble_eq_true rfl) (Nat.le_of_ble_eq_true rfl) ⟨Nat.zero_le _, Nat.zero_le _⟩ dX2_isLate_51 ?_
  refine lv_icmp_ge (tgt := 61) C.1.1 C.1.2.1 dX2_isLate_54 (by decide) (fun h9 => ?_) (fun h9 => ?_)
  · replace hf := (if_pos h9).symm.trans hf
    refine lv_iconst (v := 0) C.1.1 C.1.2.1 dX2_isLate_61 (by decide) ?_
    exact ri hQ C hr hlk hW hf (rok_z (Or.inl rfl)) dX2_isLate_62
  · replace hf := (if_neg h9).symm.trans hf
    refine lv_iconst (v := 1) C.1.1 C.1.2.1 dX2_isLate_57 (by decide) ?_
    refine lv_goto (tgt := 62) C.1.1 C.1.2.1 dX2_isLate_58 (by decide) ?_
    exact ri hQ C hr hlk hW hf (rok_z (Or.inr rfl)) dX2_isLate_62
theorem kvX2_letPeopleCome : KV 2 "RightKeys$Ring" yX2_letPeopleCome cX2_letPeopleCome 7 none 1 := ⟨⟨w_822, w_32, w_114, w_823⟩, ⟨rfl, by decide, by decide, by decide +kernel⟩, by decide, rfl⟩
noncomputable def jX2_letPeopleCome_152 (a0 : Nat) (p1 : Int32) (x2 : Int32) (x3 : Int32) (x4 : Int32) (σ : Sg) : Option ((Int32 × Sg) ⊕ (Sg)) := (let x4_15 := x4 + (1 : Int32); some (Sum.inl (x4_15, σ)))
noncomputable def jX2_letPeopleCome_139 (a0 : Nat) (p1 : Int32) (x2 : Int32) (x3 : Int32) (x4 : Int32) (σ : Sg) : Option ((Int32 × Sg) ⊕ (Sg)) := (let σ18 := wI σ a0 3 ((σ.1 a0 3) ||| ((1 : Int32) <<< (x4 &&& 31))); jX2_letPeopleCome_152 a0 p1 x2 x3 x4 σ18)
noncomputable def jX2_letPeopleCome_102 (a0 : Nat) (p1 : Int32) (x2 : Int32) (x3 : Int32) (x4 : Int32) (x5 : Int32) (σ : Sg) : Option ((Int32 × Sg) ⊕ (Sg)) := if x5 = 0 then (if (σ.1 a0 7) = 0 then ((fX2_isLate a0 x4 σ).bind (fun q23 => let r21 := q23.1; let σ20 := q23.2; if r21 = 0 then (jX2_letPeopleCome_139 a0 p1 x2 x3 x4 σ20) else ((let σ24 := wI σ20 a0 5 ((σ20.1 a0 5) ||| ((1 : Int32) <<< (x4 &&& 31))); jX2_letPeopleCome_152 a0 p1 x2 x3 x4 σ24)))) else (jX2_letPeopleCome_139 a0 p1 x2 x3 x4 σ)) else (jX2_letPeopleCome_139 a0 p1 x2 x3 x4 σ)
noncomputable def jX2_letPeopleCome_79 (a0 : Nat) (p1 : Int32) (x2 : Int32) (x3 : Int32) (x4 : Int32) (x5 : Int32) (s0 : Int32) (σ : Sg) : Option ((Int32 × Sg) ⊕ (Sg)) := if s0 = 0 then (jX2_letPeopleCome_152 a0 p1 x2 x3 x4 σ) else (if vin x4 8 then (if (σ.1 (a0 + 2) ((x4).toNatClampNeg)) = x2 then (jX2_letPeopleCome_102 a0 p1 x2 x3 x4 x5 σ) else (if x5 = 0 then (jX2_letPeopleCome_152 a0 p1 x2 x3 x4 σ) else (jX2_letPeopleCome_102 a0 p1 x2 x3 x4 x5 σ))) else none)
noncomputable def jX2_letPeopleCome_48 (a0 : Nat) (p1 : Int32) (x2 : Int32) (x3 : Int32) (x4 : Int32) (s0 : Int32) (σ : Sg) : Option ((Int32 × Sg) ⊕ (Sg)) := (fX6_bit ((((σ.1 a0 2) ||| (σ.1 a0 3)) ||| p1) ||| (σ.1 a0 6)) x4 σ).bind (fun q14 => let r12 := q14.1; let σ11 := q14.2; if r12 = 0 then (jX2_letPeopleCome_79 a0 p1 x2 x3 x4 s0 (1 : Int32) σ11) else (jX2_letPeopleCome_79 a0 p1 x2 x3 x4 s0 (0 : Int32) σ11))
noncomputable def bX2_letPeopleCome_21 (a0 : Nat) (p1 : Int32) (x2 : Int32) (x3 : Int32) (x4 : Int32) (σ : Sg) : Option ((Int32 × Sg) ⊕ (Sg)) := if (σ.1 (σ.2.2.1 a0 0) 0) ≤ x4 then (some (Sum.inr σ)) else ((fX6_bit x3 x4 σ).bind (fun q9 => let r7 := q9.1; let σ6 := q9.2; if r7 = (1 : Int32) then (jX2_letPeopleCome_48 a0 p1 x2 x3 x4 (1 : Int32) σ6) else (jX2_letPeopleCome_48 a0 p1 x2 x3 x4 (0 : Int32) σ6)))
noncomputable def fX2_letPeopleCome (a0 : Nat) (p1 : Int32) (σ : Sg) : Option (Sg) := (let x2_1 := (irem (σ.1 a0 1) (24 : Int32)); let x3_2 := (σ.1 a0 5); let σ3 := wI σ a0 5 (0 : Int32); (lp (fun st => bX2_letPeopleCome_21 a0 p1 x2_1 x3_2 st.1 st.2) ((0 : Int32), σ3)).bind (fun σ26 => some σ26))
set_option maxRecDepth 100000 in
set_option maxHeartbeats 4000000 in
theorem mX2_letPeopleCome {l : Launch} {G : Gm} {a0 : Nat} {p1 : Int32} {σ : Sg} {σ' : Sg} (hk_a0 : gK G a0 = 3) (hf : fX2_letPeopleCome a0 p1 σ = some σ') : Mv l G yX2_letPeopleCome cX2_letPeopleCome 7 3 87 [.ref (gB G + a0), .int p1] σ σ' := by
  refine of_W "RightKeys$Ring" rfl (by decide) (Nat.le_of_ble_eq_true rfl) ?_
  intro p e s m args below meth c Q hQ C hr hlk hW ls hl
  have h00 := hW.1
  have hl : lv_has ls 7 [(0, .ref (gB G + a0)), (1, .int p1)] := hl
  delta fX2_letPeopleCome at hf
  have L21 : ∀ (x2 : Int32) (x3 : Int32) (n : Nat) (x4 : Int32) (σ : Sg) (H : Heap) (locs : List Loc) (ls : Array Slot) (out : (Sg)), iter (fun st => bX2_letPeopleCome_21 a0 p1 x2 x3 st.1 st.2) n (x4, σ) = some out → Ws G σ s.heap H locs → lv_has ls 7 [(0, .ref (gB G + a0)), (1, .int p1), (2, .int x2), (3, .int x3), (4, .int x4)] → (∀ (σ : Sg) (H : Heap) (locs : List Loc) (ls : Array Slot), out = σ → Ws G σ s.heap H locs → lv_has ls 7 [] → W p l e (rmOf 3 87) s m args below meth c H locs 0 0 Q (F0 m 158 ls [])) → W p l e (rmOf 3 87) s m args below meth c H locs 0 0 Q (F0 m 21 ls []) := by
    intro x2 x3 n
    induction n with
    | zero =>
      intro x4 σ H locs ls out hf
      exact (it_0 hf).elim
    | succ n ih =>
      intro x4 σ H locs ls out hf hW hl K21_158
      obtain ⟨x, hf, hx⟩ := it_s hf
      have hf : bX2_letPeopleCome_21 a0 p1 x2 x3 x4 σ = some x := hf
      delta bX2_letPeopleCome_21 at hf
      have J152 : ∀ (x4 : Int32) (σ : Sg) (H : Heap) (locs : List Loc) (ls : Array Slot), jX2_letPeopleCome_152 a0 p1 x2 x3 x4 σ = some x → Ws G σ s.heap H locs → lv_has ls 7 [(0, .ref (gB G + a0)), (1, .int p1), (2, .int x2), (3, .int x3), (4, .int x4)] → W p l e (rmOf 3 87) s m args below meth c H locs 0 0 Q (F0 m 152 ls []) := by
        intro x4 σ H locs ls hf hW hl
        delta jX2_letPeopleCome_152 at hf
        refine lv_iinc (v := _) (lv' := [(4, .int _), (0, .ref _), (1, .int _), (2, .int _), (3, .int _)]) C.1.1 C.1.2.1 dX2_letPeopleCome_152 hl (k := 4) rfl (ii (k := 1) (by decide)) (by decide) rfl (fun ls hl => ?_)
        refine lv_goto (tgt := 21) C.1.1 C.1.2.1 dX2_letPeopleCome_155 (by decide) ?_
        cases hf
        exact ih _ _ _ _ _ _ hx hW (lv_sub hl [1, 2, 3, 4, 0] rfl) K21_158
      have J139 : ∀ (x4 : Int32) (σ : Sg) (H : Heap) (locs : List Loc) (ls : Array Slot), jX2_letPeopleCome_139 a0 p1 x2 x3 x4 σ = some x → Ws G σ s.heap H locs → lv_has ls 7 [(0, .ref (gB G + a0)), (1, .int p1), (2, .int x2), (3, .int x3), (4, .int x4)] → W p l e (rmOf 3 87) s m args below meth c H locs 0 0 Q (F0 m 139 ls []) := by
        intro x4 σ H locs ls hf hW hl
        delta jX2_letPeopleCome_139 at hf
        refine lv_aload_n C.1.1 C.1.2.1 dX2_letPeopleCome_139 rfl (lv_at hl 0 rfl) ?_
        refine lv_dup C.1.1 C.1.2.1 dX2_letPeopleCome_140 rfl ?_
        refine gf2_3 C hW hk_a0 w_302 dX2_letPeopleCome_141 ?_
        refine lv_iconst (v := 1) C.1.1 C.1.2.1 dX2_letPeopleCome_144 (by decide) ?_
        refine lv_iload C.1.1 C.1.2.1 dX2_letPeopleCome_145 (lv_at hl 4 rfl) ?_
        refine lv_ishl C.1.1 C.1.2.1 dX2_letPeopleCome_147 ?_
        refine lv_ior C.1.1 C.1.2.1 dX2_letPeopleCome_148 ?_
        refine pf2_3 C hW hk_a0 w_302 dX2_letPeopleCome_149 (fun H locs hW => ?_)
        exact J152 _ _ _ _ _ hf hW (lv_sub hl [0, 1, 2, 3, 4] rfl)
      have J102 : ∀ (x4 : Int32) (x5 : Int32) (σ : Sg) (H : Heap) (locs : List Loc) (ls : Array Slot), jX2_letPeopleCome_102 a0 p1 x2 x3 x4 x5 σ = some x → Ws G σ s.heap H locs → lv_has ls 7 [(0, .ref (gB G + a0)), (1, .int p1), (2, .int x2), (3, .int x3), (4, .int x4), (5, .int x5)] → W p l e (rmOf 3 87) s m args below meth c H locs 0 0 Q (F0 m 102 ls []) := by
        intro x4 x5 σ H locs ls hf hW hl
        delta jX2_letPeopleCome_102 at hf
        refine lv_iload C.1.1 C.1.2.1 dX2_letPeopleCome_102 (lv_at hl 5 rfl) ?_
        refine lv_if_ne (tgt := 139) C.1.1 C.1.2.1 dX2_letPeopleCome_104 (by decide) (fun h9 => ?_) (fun h9 => ?_)
        · replace hf := (if_neg h9).symm.trans hf
          exact J139 _ _ _ _ _ hf hW (lv_sub hl [0, 1, 2, 3, 4] rfl)
        · replace hf := (if_pos h9).symm.trans hf
          refine lv_aload_n C.1.1 C.1.2.1 dX2_letPeopleCome_107 rfl (lv_at hl 0 rfl) ?_
          refine gf2_7 C hW hk_a0 w_310 dX2_letPeopleCome_108 ?_
          refine lv_if_ne (tgt := 139) C.1.1 C.1.2.1 dX2_letPeopleCome_111 (by decide) (fun h9 => ?_) (fun h9 => ?_)
          · replace hf := (if_neg h9).symm.trans hf
            exact J139 _ _ _ _ _ hf hW (lv_sub hl [0, 1, 2, 3, 4] rfl)
          · replace hf := (if_pos h9).symm.trans hf
            refine lv_aload_n C.1.1 C.1.2.1 dX2_letPeopleCome_114 rfl (lv_at hl 0 rfl) ?_
            refine lv_iload C.1.1 C.1.2.1 dX2_letPeopleCome_115 (lv_at hl 4 rfl) ?_
            obtain ⟨⟨r21, σ20⟩, hc19, hf⟩ := bd hf
            try dsimp only at hf
            refine cVi C hW (mX2_isLate hk_a0 hc19) hk_a0 kvX2_isLate w_824 ⟨(Nat.le_of_ble_eq_true rfl), (Nat.le_of_ble_eq_true rfl)⟩ ⟨Nat.zero_le _, Nat.zero_le _⟩ rfl hl.1 (rest := []) rfl (Nat.le_of_ble_eq_true rfl) dX2_letPeopleCome_117 (fun H locs hn22 hW => ?_)
            refine lv_if_eq (tgt := 139) C.1.1 C.1.2.1 dX2_letPeopleCome_120 (by decide) (fun h9 => ?_) (fun h9 => ?_)
            · replace hf := (if_pos h9).symm.trans hf
              exact J139 _ _ _ _ _ hf hW (lv_sub hl [0, 1, 2, 3, 4] rfl)
            · replace hf := (if_neg h9).symm.trans hf
              refine lv_aload_n C.1.1 C.1.2.1 dX2_letPeopleCome_123 rfl (lv_at hl 0 rfl) ?_
              refine lv_dup C.1.1 C.1.2.1 dX2_letPeopleCome_124 rfl ?_
              refine gf2_5 C hW hk_a0 w_307 dX2_letPeopleCome_125 ?_
              refine lv_iconst (v := 1) C.1.1 C.1.2.1 dX2_letPeopleCome_128 (by decide) ?_
              refine lv_iload C.1.1 C.1.2.1 dX2_letPeopleCome_129 (lv_at hl 4 rfl) ?_
              refine lv_ishl C.1.1 C.1.2.1 dX2_letPeopleCome_131 ?_
              refine lv_ior C.1.1 C.1.2.1 dX2_letPeopleCome_132 ?_
              refine pf2_5 C hW hk_a0 w_307 dX2_letPeopleCome_133 (fun H locs hW => ?_)
              refine lv_goto (tgt := 152) C.1.1 C.1.2.1 dX2_letPeopleCome_136 (by decide) ?_
              exact J152 _ _ _ _ _ hf hW (lv_sub hl [0, 1, 2, 3, 4] rfl)
      have J79 : ∀ (x4 : Int32) (x5 : Int32) (s0 : Int32) (σ : Sg) (H : Heap) (locs : List Loc) (ls : Array Slot), jX2_letPeopleCome_79 a0 p1 x2 x3 x4 x5 s0 σ = some x → Ws G σ s.heap H locs → lv_has ls 7 [(0, .ref (gB G + a0)), (1, .int p1), (2, .int x2), (3, .int x3), (4, .int x4), (5, .int x5)] → W p l e (rmOf 3 87) s m args below meth c H locs 0 0 Q (F0 m 79 ls [.int s0]) := by
        intro x4 x5 s0 σ H locs ls hf hW hl
        delta jX2_letPeopleCome_79 at hf
        refine lv_istore (lv' := [(6, .int _), (0, .ref _), (1, .int _), (2, .int _), (3, .int _), (4, .int _), (5, .int _)]) C.1.1 C.1.2.1 dX2_letPeopleCome_79 hl (by decide) rfl (fun ls hl => ?_)
        refine lv_iload C.1.1 C.1.2.1 dX2_letPeopleCome_81 (lv_at hl 0 rfl) ?_
        refine lv_if_eq (tgt := 152) C.1.1 C.1.2.1 dX2_letPeopleCome_83 (by decide) (fun h9 => ?_) (fun h9 => ?_)
        · replace hf := (if_pos h9).symm.trans hf
          exact J152 _ _ _ _ _ hf hW (lv_sub hl [1, 2, 3, 4, 5] rfl)
        · replace hf := (if_neg h9).symm.trans hf
          refine lv_aload_n C.1.1 C.1.2.1 dX2_letPeopleCome_86 rfl (lv_at hl 1 rfl) ?_
          have hk16 := sh2_13 hW hk_a0
          refine gf2_13 C hW hk_a0 w_322 dX2_letPeopleCome_87 ?_
          refine lv_iload C.1.1 C.1.2.1 dX2_letPeopleCome_90 (lv_at hl 5 rfl) ?_
          obtain ⟨hv17, hf⟩ := gd hf
          refine wai C hW hk16 (vin_p hv17) dX2_letPeopleCome_92 ?_
          refine lv_iload_n C.1.1 C.1.2.1 dX2_letPeopleCome_93 rfl (lv_at hl 3 rfl) ?_
          refine lv_icmp_eq (tgt := 102) C.1.1 C.1.2.1 dX2_letPeopleCome_94 (by decide) (fun h9 => ?_) (fun h9 => ?_)
          · replace hf := (if_pos h9).symm.trans hf
            exact J102 _ _ _ _ _ _ hf hW (lv_sub hl [1, 2, 3, 4, 5, 6] rfl)
          · replace hf := (if_neg h9).symm.trans hf
            refine lv_iload C.1.1 C.1.2.1 dX2_letPeopleCome_97 (lv_at hl 6 rfl) ?_
            refine lv_if_eq (tgt := 152) C.1.1 C.1.2.1 dX2_letPeopleCome_99 (by decide) (fun h9 => ?_) (fun h9 => ?_)
            · replace hf := (if_pos h9).symm.trans hf
              exact J152 _ _ _ _ _ hf hW (lv_sub hl [1, 2, 3, 4, 5] rfl)
            · replace hf := (if_neg h9).symm.trans hf
              exact J102 _ _ _ _ _ _ hf hW (lv_sub hl [1, 2, 3, 4, 5, 6] rfl)
      have J48 : ∀ (x4 : Int32) (s0 : Int32) (σ : Sg) (H : Heap) (locs : List Loc) (ls : Array Slot), jX2_letPeopleCome_48 a0 p1 x2 x3 x4 s0 σ = some x → Ws G σ s.heap H locs → lv_has ls 7 [(0, .ref (gB G + a0)), (1, .int p1), (2, .int x2), (3, .int x3), (4, .int x4)] → W p l e (rmOf 3 87) s m args below meth c H locs 0 0 Q (F0 m 48 ls [.int s0]) := by
        intro x4 s0 σ H locs ls hf hW hl
        delta jX2_letPeopleCome_48 at hf
        refine lv_istore (lv' := [(5, .int _), (0, .ref _), (1, .int _), (2, .int _), (3, .int _), (4, .int _)]) C.1.1 C.1.2.1 dX2_letPeopleCome_48 hl (by decide) rfl (fun ls hl => ?_)
        refine lv_aload_n C.1.1 C.1.2.1 dX2_letPeopleCome_50 rfl (lv_at hl 1 rfl) ?_
        refine gf2_2 C hW hk_a0 w_300 dX2_letPeopleCome_51 ?_
        refine lv_aload_n C.1.1 C.1.2.1 dX2_letPeopleCome_54 rfl (lv_at hl 1 rfl) ?_
        refine gf2_3 C hW hk_a0 w_302 dX2_letPeopleCome_55 ?_
        refine lv_ior C.1.1 C.1.2.1 dX2_letPeopleCome_58 ?_
        refine lv_iload_n C.1.1 C.1.2.1 dX2_letPeopleCome_59 rfl (lv_at hl 2 rfl) ?_
        refine lv_ior C.1.1 C.1.2.1 dX2_letPeopleCome_60 ?_
        refine lv_aload_n C.1.1 C.1.2.1 dX2_letPeopleCome_61 rfl (lv_at hl 1 rfl) ?_
        refine gf2_6 C hW hk_a0 w_309 dX2_letPeopleCome_62 ?_
        refine lv_ior C.1.1 C.1.2.1 dX2_letPeopleCome_65 ?_
        refine lv_iload C.1.1 C.1.2.1 dX2_letPeopleCome_66 (lv_at hl 5 rfl) ?_
        obtain ⟨⟨r12, σ11⟩, hc10, hf⟩ := bd hf
        try dsimp only at hf
        refine cNi C hW (mX6_bit hc10) ksX6_bit (by decide) ⟨(Nat.le_of_ble_eq_true rfl), (Nat.le_of_ble_eq_true rfl)⟩ ⟨Nat.zero_le _, Nat.zero_le _⟩ rfl hl.1 (rest := []) rfl (Nat.le_of_ble_eq_true rfl) dX2_letPeopleCome_68 (fun H locs hn13 hW => ?_)
        refine lv_if_ne (tgt := 78) C.1.1 C.1.2.1 dX2_letPeopleCome_71 (by decide) (fun h9 => ?_) (fun h9 => ?_)
        · replace hf := (if_neg h9).symm.trans hf
          refine lv_iconst (v := 0) C.1.1 C.1.2.1 dX2_letPeopleCome_78 (by decide) ?_
          exact J79 _ _ _ _ _ _ _ hf hW (lv_sub hl [1, 2, 3, 4, 5, 0] rfl)
        · replace hf := (if_pos h9).symm.trans hf
          refine lv_iconst (v := 1) C.1.1 C.1.2.1 dX2_letPeopleCome_74 (by decide) ?_
          refine lv_goto (tgt := 79) C.1.1 C.1.2.1 dX2_letPeopleCome_75 (by decide) ?_
          exact J79 _ _ _ _ _ _ _ hf hW (lv_sub hl [1, 2, 3, 4, 5, 0] rfl)
      refine lv_iload C.1.1 C.1.2.1 dX2_letPeopleCome_21 (lv_at hl 4 rfl) ?_
      refine lv_aload_n C.1.1 C.1.2.1 dX2_letPeopleCome_23 rfl (lv_at hl 0 rfl) ?_
      have hk4 := sh2_0 hW hk_a0
      refine gf2_0 C hW hk_a0 w_297 dX2_letPeopleCome_24 ?_
      refine gf3_0 C hW hk4 w_180 dX2_letPeopleCome_27 ?_
      refine lv_icmp_ge (tgt := 158) C.1.1 C.1.2.1 dX2_letPeopleCome_30 (by decide) (fun h9 => ?_) (fun h9 => ?_)
      · replace hf := (if_pos h9).symm.trans hf
        cases hf
        cases hx
        exact K21_158 _ _ _ _ rfl hW (lv_sub hl [] rfl)
      · replace hf := (if_neg h9).symm.trans hf
        refine lv_iload_n C.1.1 C.1.2.1 dX2_letPeopleCome_33 rfl (lv_at hl 3 rfl) ?_
        refine lv_iload C.1.1 C.1.2.1 dX2_letPeopleCome_34 (lv_at hl 4 rfl) ?_
        obtain ⟨⟨r7, σ6⟩, hc5, hf⟩ := bd hf
        try dsimp only at hf
        refine cNi C hW (mX6_bit hc5) ksX6_bit (by decide) ⟨(Nat.le_of_ble_eq_true rfl), (Nat.le_of_ble_eq_true rfl)⟩ ⟨Nat.zero_le _, Nat.zero_le _⟩ rfl hl.1 (rest := []) rfl (Nat.le_of_ble_eq_true rfl) dX2_letPeopleCome_36 (fun H locs hn8 hW => ?_)
        refine lv_iconst (v := 1) C.1.1 C.1.2.1 dX2_letPeopleCome_39 (by decide) ?_
        refine lv_icmp_ne (tgt := 47) C.1.1 C.1.2.1 dX2_letPeopleCome_40 (by decide) (fun h9 => ?_) (fun h9 => ?_)
        · replace hf := (if_neg h9).symm.trans hf
          refine lv_iconst (v := 0) C.1.1 C.1.2.1 dX2_letPeopleCome_47 (by decide) ?_
          exact J48 _ _ _ _ _ _ hf hW (lv_sub hl [0, 1, 2, 3, 4] rfl)
        · replace hf := (if_pos h9).symm.trans hf
          refine lv_iconst (v := 1) C.1.1 C.1.2.1 dX2_letPeopleCome_43 (by decide) ?_
          refine lv_goto (tgt := 48) C.1.1 C.1.2.1 dX2_letPeopleCome_44 (by decide) ?_
          exact J48 _ _ _ _ _ _ hf hW (lv_sub hl [0, 1, 2, 3, 4] rfl)
  refine lv_aload_n C.1.1 C.1.2.1 dX2_letPeopleCome_0 rfl (lv_at hl 0 rfl) ?_
  refine gf2_1 C hW hk_a0 w_298 dX2_letPeopleCome_1 ?_
  refine lv_bipush (v := 24) C.1.1 C.1.2.1 dX2_letPeopleCome_4 (by decide) ?_
  refine lv_irem C.1.1 C.1.2.1 dX2_letPeopleCome_6 (by decide) ?_
  refine lv_istore_n (lv' := [(2, .int _), (0, .ref _), (1, .int _)]) C.1.1 C.1.2.1 dX2_letPeopleCome_7 rfl hl (by decide) rfl (fun ls hl => ?_)
  refine lv_aload_n C.1.1 C.1.2.1 dX2_letPeopleCome_8 rfl (lv_at hl 1 rfl) ?_
  refine gf2_5 C hW hk_a0 w_307 dX2_letPeopleCome_9 ?_
  refine lv_istore_n (lv' := [(3, .int _), (2, .int _), (0, .ref _), (1, .int _)]) C.1.1 C.1.2.1 dX2_letPeopleCome_12 rfl hl (by decide) rfl (fun ls hl => ?_)
  refine lv_aload_n C.1.1 C.1.2.1 dX2_letPeopleCome_13 rfl (lv_at hl 2 rfl) ?_
  refine lv_iconst (v := 0) C.1.1 C.1.2.1 dX2_letPeopleCome_14 (by decide) ?_
  refine pf2_5 C hW hk_a0 w_307 dX2_letPeopleCome_15 (fun H locs hW => ?_)
  refine lv_iconst (v := 0) C.1.1 C.1.2.1 dX2_letPeopleCome_18 (by decide) ?_
  refine lv_istore (lv' := [(4, .int _), (3, .int _), (2, .int _), (0, .ref _), (1, .int _)]) C.1.1 C.1.2.1 dX2_letPeopleCome_19 hl (by decide) rfl (fun ls hl => ?_)
  obtain ⟨o25, ho, hf⟩ := bd hf
  obtain ⟨n, ho⟩ := lp_it ho
  refine L21 _ _ n _ _ _ _ _ o25 ho hW (lv_sub hl [3, 4, 2, 1, 0] rfl) ?_
  intro  σ26 H locs ls e9 hW hl
  subst e9
  try dsimp only at hf
  exact rv hQ C hr hlk hW hf dX2_letPeopleCome_158
theorem kvX2_letPeopleGo : KV 2 "RightKeys$Ring" yX2_letPeopleGo cX2_letPeopleGo 5 (some .int) 0 := ⟨⟨w_818, w_31, w_114, w_819⟩, ⟨rfl, by decide, by decide, by decide +kernel⟩, by decide, rfl⟩
noncomputable def jX2_letPeopleGo_78 (a0 : Nat) (x2 : Int32) (x3 : Int32) (x1 : Int32) (x4 : Int32) (σ : Sg) : Option ((Int32 × Int32 × Sg) ⊕ (Int32 × Sg)) := (let x4_6 := x4 + (1 : Int32); some (Sum.inl (x1, x4_6, σ)))
noncomputable def bX2_letPeopleGo_30 (a0 : Nat) (x2 : Int32) (x3 : Int32) (x1 : Int32) (x4 : Int32) (σ : Sg) : Option ((Int32 × Int32 × Sg) ⊕ (Int32 × Sg)) := if (σ.1 (σ.2.2.1 a0 0) 0) ≤ x4 then (some (Sum.inr (x1, σ))) else (if vin x4 8 then (if (σ.1 (a0 + 1) ((x4).toNatClampNeg)) = x2 then ((fX6_bit x3 x4 σ).bind (fun q11 => let r9 := q11.1; let σ8 := q11.2; if r9 = (1 : Int32) then ((let x1_12 := (x1 ||| ((1 : Int32) <<< (x4 &&& 31))); let σ14 := wI σ8 (a0 + 5) ((x4).toNatClampNeg) (0 : Int32); jX2_letPeopleGo_78 a0 x2 x3 x1_12 x4 σ14)) else (jX2_letPeopleGo_78 a0 x2 x3 x1 x4 σ8))) else (jX2_letPeopleGo_78 a0 x2 x3 x1 x4 σ)) else none)
noncomputable def fX2_letPeopleGo (a0 : Nat) (σ : Sg) : Option (Int32 × Sg) := (let x2_1 := (irem (σ.1 a0 1) (24 : Int32)); let x3_2 := (((σ.1 a0 2) ||| (σ.1 a0 3)) &&& ((σ.1 a0 4) ^^^ (-1 : Int32))); (lp (fun st => bX2_letPeopleGo_30 a0 x2_1 x3_2 st.1 st.2.1 st.2.2) ((0 : Int32), (0 : Int32), σ)).bind (fun q20 => let y17 := q20.1; let σ16 := q20.2;  (let σ18 := wI σ16 a0 2 ((σ16.1 a0 2) &&& (y17 ^^^ (-1 : Int32))); let σ19 := wI σ18 a0 3 ((σ18.1 a0 3) &&& (y17 ^^^ (-1 : Int32))); some (y17, σ19))))
set_option maxRecDepth 100000 in
set_option maxHeartbeats 4000000 in
theorem mX2_letPeopleGo {l : Launch} {G : Gm} {a0 : Nat} {σ : Sg} {r : Int32} {σ' : Sg} (hk_a0 : gK G a0 = 3) (hf : fX2_letPeopleGo a0 σ = some (r, σ')) : Mi l G yX2_letPeopleGo cX2_letPeopleGo 5 .int 1 21 [.ref (gB G + a0)] σ r σ' := by
  refine of_W "RightKeys$Ring" rfl (by decide) (Nat.le_of_ble_eq_true rfl) ?_
  intro p e s m args below meth c Q hQ C hr hlk hW ls hl
  have h00 := hW.1
  have hl : lv_has ls 5 [(0, .ref (gB G + a0))] := hl
  delta fX2_letPeopleGo at hf
  have L30 : ∀ (x2 : Int32) (x3 : Int32) (n : Nat) (x1 : Int32) (x4 : Int32) (σ : Sg) (H : Heap) (locs : List Loc) (ls : Array Slot) (out : (Int32 × Sg)), iter (fun st => bX2_letPeopleGo_30 a0 x2 x3 st.1 st.2.1 st.2.2) n (x1, x4, σ) = some out → Ws G σ s.heap H locs → lv_has ls 5 [(0, .ref (gB G + a0)), (1, .int x1), (2, .int x2), (3, .int x3), (4, .int x4)] → (∀ (y1 : Int32) (σ : Sg) (H : Heap) (locs : List Loc) (ls : Array Slot), out = (y1, σ) → Ws G σ s.heap H locs → lv_has ls 5 [(0, .ref (gB G + a0)), (1, .int y1)] → W p l e (rmOf 1 21) s m args below meth c H locs 0 0 Q (F0 m 84 ls [])) → W p l e (rmOf 1 21) s m args below meth c H locs 0 0 Q (F0 m 30 ls []) := by
    intro x2 x3 n
    induction n with
    | zero =>
      intro x1 x4 σ H locs ls out hf
      exact (it_0 hf).elim
    | succ n ih =>
      intro x1 x4 σ H locs ls out hf hW hl K30_84
      obtain ⟨x, hf, hx⟩ := it_s hf
      have hf : bX2_letPeopleGo_30 a0 x2 x3 x1 x4 σ = some x := hf
      delta bX2_letPeopleGo_30 at hf
      have J78 : ∀ (x1 : Int32) (x4 : Int32) (σ : Sg) (H : Heap) (locs : List Loc) (ls : Array Slot), jX2_letPeopleGo_78 a0 x2 x3 x1 x4 σ = some x → Ws G σ s.heap H locs → lv_has ls 5 [(0, .ref (gB G + a0)), (1, .int x1), (2, .int x2), (3, .int x3), (4, .int x4)] → W p l e (rmOf 1 21) s m args below meth c H locs 0 0 Q (F0 m 78 ls []) := by
        intro x1 x4 σ H locs ls hf hW hl
        delta jX2_letPeopleGo_78 at hf
        refine lv_iinc (v := _) (lv' := [(4, .int _), (0, .ref _), (1, .int _), (2, .int _), (3, .int _)]) C.1.1 C.1.2.1 dX2_letPeopleGo_78 hl (k := 4) rfl (ii (k := 1) (by decide)) (by decide) rfl (fun ls hl => ?_)
        refine lv_goto (tgt := 30) C.1.1 C.1.2.1 dX2_letPeopleGo_81 (by decide) ?_
        cases hf
        exact ih _ _ _ _ _ _ _ hx hW (lv_sub hl [1, 2, 3, 4, 0] rfl) K30_84
      refine lv_iload C.1.1 C.1.2.1 dX2_letPeopleGo_30 (lv_at hl 4 rfl) ?_
      refine lv_aload_n C.1.1 C.1.2.1 dX2_letPeopleGo_32 rfl (lv_at hl 0 rfl) ?_
      have hk3 := sh2_0 hW hk_a0
      refine gf2_0 C hW hk_a0 w_297 dX2_letPeopleGo_33 ?_
      refine gf3_0 C hW hk3 w_180 dX2_letPeopleGo_36 ?_
      refine lv_icmp_ge (tgt := 84) C.1.1 C.1.2.1 dX2_letPeopleGo_39 (by decide) (fun h9 => ?_) (fun h9 => ?_)
      · replace hf := (if_pos h9).symm.trans hf
        cases hf
        cases hx
        exact K30_84 _ _ _ _ _ rfl hW (lv_sub hl [0, 1] rfl)
      · replace hf := (if_neg h9).symm.trans hf
        refine lv_aload_n C.1.1 C.1.2.1 dX2_letPeopleGo_42 rfl (lv_at hl 0 rfl) ?_
        have hk4 := sh2_12 hW hk_a0
        refine gf2_12 C hW hk_a0 w_320 dX2_letPeopleGo_43 ?_
        refine lv_iload C.1.1 C.1.2.1 dX2_letPeopleGo_46 (lv_at hl 4 rfl) ?_
        obtain ⟨hv5, hf⟩ := gd hf
        refine wai C hW hk4 (vin_p hv5) dX2_letPeopleGo_48 ?_
        refine lv_iload_n C.1.1 C.1.2.1 dX2_letPeopleGo_49 rfl (lv_at hl 2 rfl) ?_
        refine lv_icmp_ne (tgt := 78) C.1.1 C.1.2.1 dX2_letPeopleGo_50 (by decide) (fun h9 => ?_) (fun h9 => ?_)
        · replace hf := (if_neg h9).symm.trans hf
          exact J78 _ _ _ _ _ _ hf hW (lv_sub hl [0, 1, 2, 3, 4] rfl)
        · replace hf := (if_pos h9).symm.trans hf
          refine lv_iload_n C.1.1 C.1.2.1 dX2_letPeopleGo_53 rfl (lv_at hl 3 rfl) ?_
          refine lv_iload C.1.1 C.1.2.1 dX2_letPeopleGo_54 (lv_at hl 4 rfl) ?_
          obtain ⟨⟨r9, σ8⟩, hc7, hf⟩ := bd hf
          try dsimp only at hf
          refine cNi C hW (mX6_bit hc7) ksX6_bit (by decide) ⟨(Nat.le_of_ble_eq_true rfl), (Nat.le_of_ble_eq_true rfl)⟩ ⟨Nat.zero_le _, Nat.zero_le _⟩ rfl hl.1 (rest := []) rfl (Nat.le_of_ble_eq_true rfl) dX2_letPeopleGo_56 (fun H locs hn10 hW => ?_)
          refine lv_iconst (v := 1) C.1.1 C.1.2.1 dX2_letPeopleGo_59 (by decide) ?_
          refine lv_icmp_ne (tgt := 78) C.1.1 C.1.2.1 dX2_letPeopleGo_60 (by decide) (fun h9 => ?_) (fun h9 => ?_)
          · replace hf := (if_neg h9).symm.trans hf
            exact J78 _ _ _ _ _ _ hf hW (lv_sub hl [0, 1, 2, 3, 4] rfl)
          · replace hf := (if_pos h9).symm.trans hf
            refine lv_iload_n C.1.1 C.1.2.1 dX2_letPeopleGo_63 rfl (lv_at hl 1 rfl) ?_
            refine lv_iconst (v := 1) C.1.1 C.1.2.1 dX2_letPeopleGo_64 (by decide) ?_
            refine lv_iload C.1.1 C.1.2.1 dX2_letPeopleGo_65 (lv_at hl 4 rfl) ?_
            refine lv_ishl C.1.1 C.1.2.1 dX2_letPeopleGo_67 ?_
            refine lv_ior C.1.1 C.1.2.1 dX2_letPeopleGo_68 ?_
            refine lv_istore_n (lv' := [(1, .int _), (0, .ref _), (2, .int _), (3, .int _), (4, .int _)]) C.1.1 C.1.2.1 dX2_letPeopleGo_69 rfl hl (by decide) rfl (fun ls hl => ?_)
            refine lv_aload_n C.1.1 C.1.2.1 dX2_letPeopleGo_70 rfl (lv_at hl 1 rfl) ?_
            have hk13 := sh2_16 hW hk_a0
            refine gf2_16 C hW hk_a0 w_328 dX2_letPeopleGo_71 ?_
            refine lv_iload C.1.1 C.1.2.1 dX2_letPeopleGo_74 (lv_at hl 4 rfl) ?_
            refine lv_iconst (v := 0) C.1.1 C.1.2.1 dX2_letPeopleGo_76 (by decide) ?_
            refine wsi C hW hk13 (vin_p hv5) dX2_letPeopleGo_77 (fun H locs hW => ?_)
            exact J78 _ _ _ _ _ _ hf hW (lv_sub hl [1, 0, 2, 3, 4] rfl)
  refine lv_iconst (v := 0) C.1.1 C.1.2.1 dX2_letPeopleGo_0 (by decide) ?_
  refine lv_istore_n (lv' := [(1, .int _), (0, .ref _)]) C.1.1 C.1.2.1 dX2_letPeopleGo_1 rfl hl (by decide) rfl (fun ls hl => ?_)
  refine lv_aload_n C.1.1 C.1.2.1 dX2_letPeopleGo_2 rfl (lv_at hl 1 rfl) ?_
  refine gf2_1 C hW hk_a0 w_298 dX2_letPeopleGo_3 ?_
  refine lv_bipush (v := 24) C.1.1 C.1.2.1 dX2_letPeopleGo_6 (by decide) ?_
  refine lv_irem C.1.1 C.1.2.1 dX2_letPeopleGo_8 (by decide) ?_
  refine lv_istore_n (lv' := [(2, .int _), (1, .int _), (0, .ref _)]) C.1.1 C.1.2.1 dX2_letPeopleGo_9 rfl hl (by decide) rfl (fun ls hl => ?_)
  refine lv_aload_n C.1.1 C.1.2.1 dX2_letPeopleGo_10 rfl (lv_at hl 2 rfl) ?_
  refine gf2_2 C hW hk_a0 w_300 dX2_letPeopleGo_11 ?_
  refine lv_aload_n C.1.1 C.1.2.1 dX2_letPeopleGo_14 rfl (lv_at hl 2 rfl) ?_
  refine gf2_3 C hW hk_a0 w_302 dX2_letPeopleGo_15 ?_
  refine lv_ior C.1.1 C.1.2.1 dX2_letPeopleGo_18 ?_
  refine lv_aload_n C.1.1 C.1.2.1 dX2_letPeopleGo_19 rfl (lv_at hl 2 rfl) ?_
  refine gf2_4 C hW hk_a0 w_305 dX2_letPeopleGo_20 ?_
  refine lv_iconst (v := (-1)) C.1.1 C.1.2.1 dX2_letPeopleGo_23 (by decide) ?_
  refine lv_ixor C.1.1 C.1.2.1 dX2_letPeopleGo_24 ?_
  refine lv_iand C.1.1 C.1.2.1 dX2_letPeopleGo_25 ?_
  refine lv_istore_n (lv' := [(3, .int _), (2, .int _), (1, .int _), (0, .ref _)]) C.1.1 C.1.2.1 dX2_letPeopleGo_26 rfl hl (by decide) rfl (fun ls hl => ?_)
  refine lv_iconst (v := 0) C.1.1 C.1.2.1 dX2_letPeopleGo_27 (by decide) ?_
  refine lv_istore (lv' := [(4, .int _), (3, .int _), (2, .int _), (1, .int _), (0, .ref _)]) C.1.1 C.1.2.1 dX2_letPeopleGo_28 hl (by decide) rfl (fun ls hl => ?_)
  obtain ⟨o15, ho, hf⟩ := bd hf
  obtain ⟨n, ho⟩ := lp_it ho
  refine L30 _ _ n _ _ _ _ _ _ o15 ho hW (lv_sub hl [4, 3, 2, 1, 0] rfl) ?_
  intro y17 σ16 H locs ls e9 hW hl
  subst e9
  try dsimp only at hf
  refine lv_aload_n C.1.1 C.1.2.1 dX2_letPeopleGo_84 rfl (lv_at hl 0 rfl) ?_
  refine lv_dup C.1.1 C.1.2.1 dX2_letPeopleGo_85 rfl ?_
  refine gf2_2 C hW hk_a0 w_300 dX2_letPeopleGo_86 ?_
  refine lv_iload_n C.1.1 C.1.2.1 dX2_letPeopleGo_89 rfl (lv_at hl 1 rfl) ?_
  refine lv_iconst (v := (-1)) C.1.1 C.1.2.1 dX2_letPeopleGo_90 (by decide) ?_
  refine lv_ixor C.1.1 C.1.2.1 dX2_letPeopleGo_91 ?_
  refine lv_iand C.1.1 C.1.2.1 dX2_letPeopleGo_92 ?_
  refine pf2_2 C hW hk_a0 w_300 dX2_letPeopleGo_93 (fun H locs hW => ?_)
  refine lv_aload_n C.1.1 C.1.2.1 dX2_letPeopleGo_96 rfl (lv_at hl 0 rfl) ?_
  refine lv_dup C.1.1 C.1.2.1 dX2_letPeopleGo_97 rfl ?_
  refine gf2_3 C hW hk_a0 w_302 dX2_letPeopleGo_98 ?_
  refine lv_iload_n C.1.1 C.1.2.1 dX2_letPeopleGo_101 rfl (lv_at hl 1 rfl) ?_
  refine lv_iconst (v := (-1)) C.1.1 C.1.2.1 dX2_letPeopleGo_102 (by decide) ?_
  refine lv_ixor C.1.1 C.1.2.1 dX2_letPeopleGo_103 ?_
  refine lv_iand C.1.1 C.1.2.1 dX2_letPeopleGo_104 ?_
  refine pf2_3 C hW hk_a0 w_302 dX2_letPeopleGo_105 (fun H locs hW => ?_)
  refine lv_iload_n C.1.1 C.1.2.1 dX2_letPeopleGo_108 rfl (lv_at hl 1 rfl) ?_
  exact ri hQ C hr hlk hW hf (rok_i _) dX2_letPeopleGo_109
theorem kvX2_bringIn : KV 2 "RightKeys$Ring" yX2_bringIn cX2_bringIn 2 none 1 := ⟨⟨w_842, w_843, w_114, w_844⟩, ⟨rfl, by decide, by decide, by decide +kernel⟩, by decide, rfl⟩
noncomputable def fX2_bringIn (a0 : Nat) (p1 : Int32) (σ : Sg) : Option (Sg) := (let σ1 := wI σ a0 2 ((σ.1 a0 2) ||| ((1 : Int32) <<< (p1 &&& 31))); let σ2 := wI σ1 a0 3 ((σ1.1 a0 3) &&& (((1 : Int32) <<< (p1 &&& 31)) ^^^ (-1 : Int32))); if vin p1 8 then (let σ5 := wI σ2 (a0 + 5) ((p1).toNatClampNeg) (0 : Int32); some σ5) else none)
set_option maxRecDepth 100000 in
set_option maxHeartbeats 4000000 in
theorem mX2_bringIn {l : Launch} {G : Gm} {a0 : Nat} {p1 : Int32} {σ : Sg} {σ' : Sg} (hk_a0 : gK G a0 = 3) (hf : fX2_bringIn a0 p1 σ = some σ') : Mv l G yX2_bringIn cX2_bringIn 2 0 0 [.ref (gB G + a0), .int p1] σ σ' := by
  refine of_W "RightKeys$Ring" rfl (by decide) (Nat.le_of_ble_eq_true rfl) ?_
  intro p e s m args below meth c Q hQ C hr hlk hW ls hl
  have h00 := hW.1
  have hl : lv_has ls 2 [(0, .ref (gB G + a0)), (1, .int p1)] := hl
  delta fX2_bringIn at hf
  refine lv_aload_n C.1.1 C.1.2.1 dX2_bringIn_0 rfl (lv_at hl 0 rfl) ?_
  refine lv_dup C.1.1 C.1.2.1 dX2_bringIn_1 rfl ?_
  refine gf2_2 C hW hk_a0 w_300 dX2_bringIn_2 ?_
  refine lv_iconst (v := 1) C.1.1 C.1.2.1 dX2_bringIn_5 (by decide) ?_
  refine lv_iload_n C.1.1 C.1.2.1 dX2_bringIn_6 rfl (lv_at hl 1 rfl) ?_
  refine lv_ishl C.1.1 C.1.2.1 dX2_bringIn_7 ?_
  refine lv_ior C.1.1 C.1.2.1 dX2_bringIn_8 ?_
  refine pf2_2 C hW hk_a0 w_300 dX2_bringIn_9 (fun H locs hW => ?_)
  refine lv_aload_n C.1.1 C.1.2.1 dX2_bringIn_12 rfl (lv_at hl 0 rfl) ?_
  refine lv_dup C.1.1 C.1.2.1 dX2_bringIn_13 rfl ?_
  refine gf2_3 C hW hk_a0 w_302 dX2_bringIn_14 ?_
  refine lv_iconst (v := 1) C.1.1 C.1.2.1 dX2_bringIn_17 (by decide) ?_
  refine lv_iload_n C.1.1 C.1.2.1 dX2_bringIn_18 rfl (lv_at hl 1 rfl) ?_
  refine lv_ishl C.1.1 C.1.2.1 dX2_bringIn_19 ?_
  refine lv_iconst (v := (-1)) C.1.1 C.1.2.1 dX2_bringIn_20 (by decide) ?_
  refine lv_ixor C.1.1 C.1.2.1 dX2_bringIn_21 ?_
  refine lv_iand C.1.1 C.1.2.1 dX2_bringIn_22 ?_
  refine pf2_3 C hW hk_a0 w_302 dX2_bringIn_23 (fun H locs hW => ?_)
  refine lv_aload_n C.1.1 C.1.2.1 dX2_bringIn_26 rfl (lv_at hl 0 rfl) ?_
  have hk3 := sh2_16 hW hk_a0
  refine gf2_16 C hW hk_a0 w_328 dX2_bringIn_27 ?_
  refine lv_iload_n C.1.1 C.1.2.1 dX2_bringIn_30 rfl (lv_at hl 1 rfl) ?_
  refine lv_iconst (v := 0) C.1.1 C.1.2.1 dX2_bringIn_31 (by decide) ?_
  obtain ⟨hv4, hf⟩ := gd hf
  refine wsi C hW hk3 (vin_p hv4) dX2_bringIn_32 (fun H locs hW => ?_)
  exact rv hQ C hr hlk hW hf dX2_bringIn_33
theorem kvX2_hasOwnSpare : KV 2 "RightKeys$Ring" yX2_hasOwnSpare cX2_hasOwnSpare 3 (some .boolean) 1 := ⟨⟨w_744, w_26, w_114, w_745⟩, ⟨rfl, by decide, by decide, by decide +kernel⟩, by decide, rfl⟩
noncomputable def jX2_hasOwnSpare_38 (a0 : Nat) (p1 : Int32) (x2 : Int32) (σ : Sg) : Option ((Int32 × Sg) ⊕ ((Sg) ⊕ (Sg))) := (let x2_5 := x2 + (1 : Int32); some (Sum.inl (x2_5, σ)))
noncomputable def bX2_hasOwnSpare_2 (a0 : Nat) (p1 : Int32) (x2 : Int32) (σ : Sg) : Option ((Int32 × Sg) ⊕ ((Sg) ⊕ (Sg))) := if (σ.1 (σ.2.2.1 a0 0) 1) ≤ x2 then (some (Sum.inr (Sum.inr σ))) else (if vin x2 6 then (if (σ.1 ((σ.2.2.1 a0 0) + 5) ((x2).toNatClampNeg)) = p1 then (if (σ.1 (a0 + 7) ((x2).toNatClampNeg)) = p1 then (some (Sum.inr (Sum.inl σ))) else (jX2_hasOwnSpare_38 a0 p1 x2 σ)) else (jX2_hasOwnSpare_38 a0 p1 x2 σ)) else none)
noncomputable def fX2_hasOwnSpare (a0 : Nat) (p1 : Int32) (σ : Sg) : Option (Int32 × Sg) := (lp (fun st => bX2_hasOwnSpare_2 a0 p1 st.1 st.2) ((0 : Int32), σ)).bind (fun o7 => Sum.elim (fun σ8 => some ((1 : Int32), σ8)) (fun o7_ => (fun σ9 => some ((0 : Int32), σ9)) o7_) o7)
set_option maxRecDepth 100000 in
set_option maxHeartbeats 4000000 in
theorem mX2_hasOwnSpare {l : Launch} {G : Gm} {a0 : Nat} {p1 : Int32} {σ : Sg} {r : Int32} {σ' : Sg} (hk_a0 : gK G a0 = 3) (hf : fX2_hasOwnSpare a0 p1 σ = some (r, σ')) : Mi l G yX2_hasOwnSpare cX2_hasOwnSpare 3 .boolean 0 0 [.ref (gB G + a0), .int p1] σ r σ' := by
  refine of_W "RightKeys$Ring" rfl (by decide) (Nat.le_of_ble_eq_true rfl) ?_
  intro p e s m args below meth c Q hQ C hr hlk hW ls hl
  have h00 := hW.1
  have hl : lv_has ls 3 [(0, .ref (gB G + a0)), (1, .int p1)] := hl
  delta fX2_hasOwnSpare at hf
  have L2 : ∀ (n : Nat) (x2 : Int32) (σ : Sg) (H : Heap) (locs : List Loc) (ls : Array Slot) (out : ((Sg) ⊕ (Sg))), iter (fun st => bX2_hasOwnSpare_2 a0 p1 st.1 st.2) n (x2, σ) = some out → Ws G σ s.heap H locs → lv_has ls 3 [(0, .ref (gB G + a0)), (1, .int p1), (2, .int x2)] → (∀ (σ : Sg) (H : Heap) (locs : List Loc) (ls : Array Slot), out = (Sum.inl σ) → Ws G σ s.heap H locs → lv_has ls 3 [] → W p l e (rmOf 0 0) s m args below meth c H locs 0 0 Q (F0 m 36 ls [])) → (∀ (σ : Sg) (H : Heap) (locs : List Loc) (ls : Array Slot), out = (Sum.inr σ) → Ws G σ s.heap H locs → lv_has ls 3 [] → W p l e (rmOf 0 0) s m args below meth c H locs 0 0 Q (F0 m 44 ls [])) → W p l e (rmOf 0 0) s m args below meth c H locs 0 0 Q (F0 m 2 ls []) := by
    intro n
    induction n with
    | zero =>
      intro x2 σ H locs ls out hf
      exact (it_0 hf).elim
    | succ n ih =>
      intro x2 σ H locs ls out hf hW hl K2_36 K2_44
      obtain ⟨x, hf, hx⟩ := it_s hf
      have hf : bX2_hasOwnSpare_2 a0 p1 x2 σ = some x := hf
      delta bX2_hasOwnSpare_2 at hf
      have J38 : ∀ (x2 : Int32) (σ : Sg) (H : Heap) (locs : List Loc) (ls : Array Slot), jX2_hasOwnSpare_38 a0 p1 x2 σ = some x → Ws G σ s.heap H locs → lv_has ls 3 [(0, .ref (gB G + a0)), (1, .int p1), (2, .int x2)] → W p l e (rmOf 0 0) s m args below meth c H locs 0 0 Q (F0 m 38 ls []) := by
        intro x2 σ H locs ls hf hW hl
        delta jX2_hasOwnSpare_38 at hf
        refine lv_iinc (v := _) (lv' := [(2, .int _), (0, .ref _), (1, .int _)]) C.1.1 C.1.2.1 dX2_hasOwnSpare_38 hl (k := 2) rfl (ii (k := 1) (by decide)) (by decide) rfl (fun ls hl => ?_)
        refine lv_goto (tgt := 2) C.1.1 C.1.2.1 dX2_hasOwnSpare_41 (by decide) ?_
        cases hf
        exact ih _ _ _ _ _ _ hx hW (lv_sub hl [1, 2, 0] rfl) K2_36 K2_44
      refine lv_iload_n C.1.1 C.1.2.1 dX2_hasOwnSpare_2 rfl (lv_at hl 2 rfl) ?_
      refine lv_aload_n C.1.1 C.1.2.1 dX2_hasOwnSpare_3 rfl (lv_at hl 0 rfl) ?_
      have hk1 := sh2_0 hW hk_a0
      refine gf2_0 C hW hk_a0 w_297 dX2_hasOwnSpare_4 ?_
      refine gf3_1 C hW hk1 w_185 dX2_hasOwnSpare_7 ?_
      refine lv_icmp_ge (tgt := 44) C.1.1 C.1.2.1 dX2_hasOwnSpare_10 (by decide) (fun h9 => ?_) (fun h9 => ?_)
      · replace hf := (if_pos h9).symm.trans hf
        cases hf
        cases hx
        exact K2_44 _ _ _ _ rfl hW (lv_sub hl [] rfl)
      · replace hf := (if_neg h9).symm.trans hf
        refine lv_aload_n C.1.1 C.1.2.1 dX2_hasOwnSpare_13 rfl (lv_at hl 0 rfl) ?_
        have hk2 := sh2_0 hW hk_a0
        refine gf2_0 C hW hk_a0 w_297 dX2_hasOwnSpare_14 ?_
        have hk3 := sh3_8 hW hk2
        refine gf3_8 C hW hk2 w_209 dX2_hasOwnSpare_17 ?_
        refine lv_iload_n C.1.1 C.1.2.1 dX2_hasOwnSpare_20 rfl (lv_at hl 2 rfl) ?_
        obtain ⟨hv4, hf⟩ := gd hf
        refine wai C hW hk3 (vin_p hv4) dX2_hasOwnSpare_21 ?_
        refine lv_iload_n C.1.1 C.1.2.1 dX2_hasOwnSpare_22 rfl (lv_at hl 1 rfl) ?_
        refine lv_icmp_ne (tgt := 38) C.1.1 C.1.2.1 dX2_hasOwnSpare_23 (by decide) (fun h9 => ?_) (fun h9 => ?_)
        · replace hf := (if_neg h9).symm.trans hf
          exact J38 _ _ _ _ _ hf hW (lv_sub hl [0, 1, 2] rfl)
        · replace hf := (if_pos h9).symm.trans hf
          refine lv_aload_n C.1.1 C.1.2.1 dX2_hasOwnSpare_26 rfl (lv_at hl 0 rfl) ?_
          have hk6 := sh2_18 hW hk_a0
          refine gf2_18 C hW hk_a0 w_332 dX2_hasOwnSpare_27 ?_
          refine lv_iload_n C.1.1 C.1.2.1 dX2_hasOwnSpare_30 rfl (lv_at hl 2 rfl) ?_
          refine wai C hW hk6 (vin_p hv4) dX2_hasOwnSpare_31 ?_
          refine lv_iload_n C.1.1 C.1.2.1 dX2_hasOwnSpare_32 rfl (lv_at hl 1 rfl) ?_
          refine lv_icmp_ne (tgt := 38) C.1.1 C.1.2.1 dX2_hasOwnSpare_33 (by decide) (fun h9 => ?_) (fun h9 => ?_)
          · replace hf := (if_neg h9).symm.trans hf
            exact J38 _ _ _ _ _ hf hW (lv_sub hl [0, 1, 2] rfl)
          · replace hf := (if_pos h9).symm.trans hf
            cases hf
            cases hx
            exact K2_36 _ _ _ _ rfl hW (lv_sub hl [] rfl)
  refine lv_iconst (v := 0) C.1.1 C.1.2.1 dX2_hasOwnSpare_0 (by decide) ?_
  refine lv_istore_n (lv' := [(2, .int _), (0, .ref _), (1, .int _)]) C.1.1 C.1.2.1 dX2_hasOwnSpare_1 rfl hl (by decide) rfl (fun ls hl => ?_)
  obtain ⟨o7, ho, hf⟩ := bd hf
  obtain ⟨n, ho⟩ := lp_it ho
  refine L2 n _ _ _ _ _ o7 ho hW (lv_sub hl [1, 2, 0] rfl) ?_ ?_
  · intro  σ8 H locs ls e9 hW hl
    subst e9
    try dsimp only at hf
    refine lv_iconst (v := 1) C.1.1 C.1.2.1 dX2_hasOwnSpare_36 (by decide) ?_
    exact ri hQ C hr hlk hW hf (rok_z (Or.inr rfl)) dX2_hasOwnSpare_37
  · intro  σ9 H locs ls e9 hW hl
    subst e9
    try dsimp only at hf
    refine lv_iconst (v := 0) C.1.1 C.1.2.1 dX2_hasOwnSpare_44 (by decide) ?_
    exact ri hQ C hr hlk hW hf (rok_z (Or.inl rfl)) dX2_hasOwnSpare_45
theorem kvX2_isOut : KV 2 "RightKeys$Ring" yX2_isOut cX2_isOut 2 (some .boolean) 1 := ⟨⟨w_748, w_27, w_114, w_749⟩, ⟨rfl, by decide, by decide, by decide +kernel⟩, by decide, rfl⟩
noncomputable def fX2_isOut (a0 : Nat) (p1 : Int32) (σ : Sg) : Option (Int32 × Sg) := (fX6_bit ((σ.1 a0 2) ||| (σ.1 a0 3)) p1 σ).bind (fun q5 => let r3 := q5.1; let σ2 := q5.2; if r3 = 0 then (some ((1 : Int32), σ2)) else (some ((0 : Int32), σ2)))
set_option maxRecDepth 100000 in
set_option maxHeartbeats 4000000 in
theorem mX2_isOut {l : Launch} {G : Gm} {a0 : Nat} {p1 : Int32} {σ : Sg} {r : Int32} {σ' : Sg} (hk_a0 : gK G a0 = 3) (hf : fX2_isOut a0 p1 σ = some (r, σ')) : Mi l G yX2_isOut cX2_isOut 2 .boolean 1 21 [.ref (gB G + a0), .int p1] σ r σ' := by
  refine of_W "RightKeys$Ring" rfl (by decide) (Nat.le_of_ble_eq_true rfl) ?_
  intro p e s m args below meth c Q hQ C hr hlk hW ls hl
  have h00 := hW.1
  have hl : lv_has ls 2 [(0, .ref (gB G + a0)), (1, .int p1)] := hl
  delta fX2_isOut at hf
  refine lv_aload_n C.1.1 C.1.2.1 dX2_isOut_0 rfl (lv_at hl 0 rfl) ?_
  refine gf2_2 C hW hk_a0 w_300 dX2_isOut_1 ?_
  refine lv_aload_n C.1.1 C.1.2.1 dX2_isOut_4 rfl (lv_at hl 0 rfl) ?_
  refine gf2_3 C hW hk_a0 w_302 dX2_isOut_5 ?_
  refine lv_ior C.1.1 C.1.2.1 dX2_isOut_8 ?_
  refine lv_iload_n C.1.1 C.1.2.1 dX2_isOut_9 rfl (lv_at hl 1 rfl) ?_
  obtain ⟨⟨r3, σ2⟩, hc1, hf⟩ := bd hf
  try dsimp only at hf
  refine cNi C hW (mX6_bit hc1) ksX6_bit (by decide) ⟨(Nat.le_of_ble_eq_true rfl), (Nat.le_of_ble_eq_true rfl)⟩ ⟨Nat.zero_le _, Nat.zero_le _⟩ rfl hl.1 (rest := []) rfl (Nat.le_of_ble_eq_true rfl) dX2_isOut_10 (fun H locs hn4 hW => ?_)
  refine lv_if_ne (tgt := 20) C.1.1 C.1.2.1 dX2_isOut_13 (by decide) (fun h9 => ?_) (fun h9 => ?_)
  · replace hf := (if_neg h9).symm.trans hf
    refine lv_iconst (v := 0) C.1.1 C.1.2.1 dX2_isOut_20 (by decide) ?_
    exact ri hQ C hr hlk hW hf (rok_z (Or.inl rfl)) dX2_isOut_21
  · replace hf := (if_pos h9).symm.trans hf
    refine lv_iconst (v := 1) C.1.1 C.1.2.1 dX2_isOut_16 (by decide) ?_
    refine lv_goto (tgt := 21) C.1.1 C.1.2.1 dX2_isOut_17 (by decide) ?_
    exact ri hQ C hr hlk hW hf (rok_z (Or.inr rfl)) dX2_isOut_21
theorem kvX2_leftOf : KV 2 "RightKeys$Ring" yX2_leftOf cX2_leftOf 2 (some .int) 1 := ⟨⟨w_736, w_24, w_114, w_737⟩, ⟨rfl, by decide, by decide, by decide +kernel⟩, by decide, rfl⟩
noncomputable def fX2_leftOf (a0 : Nat) (p1 : Int32) (σ : Sg) : Option (Int32 × Sg) := if p1 ≤ 0 then (some (((σ.1 (σ.2.2.1 a0 0) 0) - (1 : Int32)), σ)) else (some ((p1 - (1 : Int32)), σ))
set_option maxRecDepth 100000 in
set_option maxHeartbeats 4000000 in
theorem mX2_leftOf {l : Launch} {G : Gm} {a0 : Nat} {p1 : Int32} {σ : Sg} {r : Int32} {σ' : Sg} (hk_a0 : gK G a0 = 3) (hf : fX2_leftOf a0 p1 σ = some (r, σ')) : Mi l G yX2_leftOf cX2_leftOf 2 .int 0 0 [.ref (gB G + a0), .int p1] σ r σ' := by
  refine of_W "RightKeys$Ring" rfl (by decide) (Nat.le_of_ble_eq_true rfl) ?_
  intro p e s m args below meth c Q hQ C hr hlk hW ls hl
  have h00 := hW.1
  have hl : lv_has ls 2 [(0, .ref (gB G + a0)), (1, .int p1)] := hl
  delta fX2_leftOf at hf
  refine lv_iload_n C.1.1 C.1.2.1 dX2_leftOf_0 rfl (lv_at hl 1 rfl) ?_
  refine lv_if_le (tgt := 10) C.1.1 C.1.2.1 dX2_leftOf_1 (by decide) (fun h9 => ?_) (fun h9 => ?_)
  · replace hf := (if_pos h9).symm.trans hf
    refine lv_aload_n C.1.1 C.1.2.1 dX2_leftOf_10 rfl (lv_at hl 0 rfl) ?_
    have hk1 := sh2_0 hW hk_a0
    refine gf2_0 C hW hk_a0 w_297 dX2_leftOf_11 ?_
    refine gf3_0 C hW hk1 w_180 dX2_leftOf_14 ?_
    refine lv_iconst (v := 1) C.1.1 C.1.2.1 dX2_leftOf_17 (by decide) ?_
    refine lv_isub C.1.1 C.1.2.1 dX2_leftOf_18 ?_
    exact ri hQ C hr hlk hW hf (rok_i _) dX2_leftOf_19
  · replace hf := (if_neg h9).symm.trans hf
    refine lv_iload_n C.1.1 C.1.2.1 dX2_leftOf_4 rfl (lv_at hl 1 rfl) ?_
    refine lv_iconst (v := 1) C.1.1 C.1.2.1 dX2_leftOf_5 (by decide) ?_
    refine lv_isub C.1.1 C.1.2.1 dX2_leftOf_6 ?_
    refine lv_goto (tgt := 19) C.1.1 C.1.2.1 dX2_leftOf_7 (by decide) ?_
    exact ri hQ C hr hlk hW hf (rok_i _) dX2_leftOf_19
theorem kvX2_rightOf : KV 2 "RightKeys$Ring" yX2_rightOf cX2_rightOf 2 (some .int) 1 := ⟨⟨w_740, w_25, w_114, w_741⟩, ⟨rfl, by decide, by decide, by decide +kernel⟩, by decide, rfl⟩
noncomputable def fX2_rightOf (a0 : Nat) (p1 : Int32) (σ : Sg) : Option (Int32 × Sg) := if (σ.1 (σ.2.2.1 a0 0) 0) ≤ (p1 + (1 : Int32)) then (some ((0 : Int32), σ)) else (some ((p1 + (1 : Int32)), σ))
set_option maxRecDepth 100000 in
set_option maxHeartbeats 4000000 in
theorem mX2_rightOf {l : Launch} {G : Gm} {a0 : Nat} {p1 : Int32} {σ : Sg} {r : Int32} {σ' : Sg} (hk_a0 : gK G a0 = 3) (hf : fX2_rightOf a0 p1 σ = some (r, σ')) : Mi l G yX2_rightOf cX2_rightOf 2 .int 0 0 [.ref (gB G + a0), .int p1] σ r σ' := by
  refine of_W "RightKeys$Ring" rfl (by decide) (Nat.le_of_ble_eq_true rfl) ?_
  intro p e s m args below meth c Q hQ C hr hlk hW ls hl
  have h00 := hW.1
  have hl : lv_has ls 2 [(0, .ref (gB G + a0)), (1, .int p1)] := hl
  delta fX2_rightOf at hf
  refine lv_iload_n C.1.1 C.1.2.1 dX2_rightOf_0 rfl (lv_at hl 1 rfl) ?_
  refine lv_iconst (v := 1) C.1.1 C.1.2.1 dX2_rightOf_1 (by decide) ?_
  refine lv_iadd C.1.1 C.1.2.1 dX2_rightOf_2 ?_
  refine lv_aload_n C.1.1 C.1.2.1 dX2_rightOf_3 rfl (lv_at hl 0 rfl) ?_
  have hk1 := sh2_0 hW hk_a0
  refine gf2_0 C hW hk_a0 w_297 dX2_rightOf_4 ?_
  refine gf3_0 C hW hk1 w_180 dX2_rightOf_7 ?_
  refine lv_icmp_ge (tgt := 19) C.1.1 C.1.2.1 dX2_rightOf_10 (by decide) (fun h9 => ?_) (fun h9 => ?_)
  · replace hf := (if_pos h9).symm.trans hf
    refine lv_iconst (v := 0) C.1.1 C.1.2.1 dX2_rightOf_19 (by decide) ?_
    exact ri hQ C hr hlk hW hf (rok_i _) dX2_rightOf_20
  · replace hf := (if_neg h9).symm.trans hf
    refine lv_iload_n C.1.1 C.1.2.1 dX2_rightOf_13 rfl (lv_at hl 1 rfl) ?_
    refine lv_iconst (v := 1) C.1.1 C.1.2.1 dX2_rightOf_14 (by decide) ?_
    refine lv_iadd C.1.1 C.1.2.1 dX2_rightOf_15 ?_
    refine lv_goto (tgt := 20) C.1.1 C.1.2.1 dX2_rightOf_16 (by decide) ?_
    exact ri hQ C hr hlk hW hf (rok_i _) dX2_rightOf_20
theorem kvX2_wouldLetIn : KV 2 "RightKeys$Ring" yX2_wouldLetIn cX2_wouldLetIn 3 (some .boolean) 2 := ⟨⟨w_723, w_724, w_114, w_725⟩, ⟨rfl, by decide, by decide, by decide +kernel⟩, by decide, rfl⟩
noncomputable def fX2_wouldLetIn (a0 : Nat) (p1 : Int32) (p2 : Int32) (σ : Sg) : Option (Int32 × Sg) := if vin p2 8 then (if vin p1 8 then ((fX2_setVariables a0 (σ.1 (a0 + 5) ((p2).toNatClampNeg)) (σ.1 (a0 + 3) ((p1).toNatClampNeg)) (σ.1 (a0 + 3) ((p2).toNatClampNeg)) p2 (0 : Int32) σ).bind (fun σ7 => (fX0_valueOf ((σ7.2.2.1 a0 0) + 7) (0 : Int32) σ7).bind (fun q17 => let r15 := q17.1; let σ14 := q17.2; if r15 ≤ 0 then (some ((0 : Int32), σ14)) else (some ((1 : Int32), σ14))))) else none) else none
set_option maxRecDepth 100000 in
set_option maxHeartbeats 4000000 in
theorem mX2_wouldLetIn {l : Launch} {G : Gm} {a0 : Nat} {p1 : Int32} {p2 : Int32} {σ : Sg} {r : Int32} {σ' : Sg} (hk_a0 : gK G a0 = 3) (hf : fX2_wouldLetIn a0 p1 p2 σ = some (r, σ')) : Mi l G yX2_wouldLetIn cX2_wouldLetIn 3 .boolean 2 65 [.ref (gB G + a0), .int p1, .int p2] σ r σ' := by
  refine of_W "RightKeys$Ring" rfl (by decide) (Nat.le_of_ble_eq_true rfl) ?_
  intro p e s m args below meth c Q hQ C hr hlk hW ls hl
  have h00 := hW.1
  have hl : lv_has ls 3 [(0, .ref (gB G + a0)), (1, .int p1), (2, .int p2)] := hl
  delta fX2_wouldLetIn at hf
  refine lv_aload_n C.1.1 C.1.2.1 dX2_wouldLetIn_0 rfl (lv_at hl 0 rfl) ?_
  refine lv_aload_n C.1.1 C.1.2.1 dX2_wouldLetIn_1 rfl (lv_at hl 0 rfl) ?_
  have hk1 := sh2_16 hW hk_a0
  refine gf2_16 C hW hk_a0 w_328 dX2_wouldLetIn_2 ?_
  refine lv_iload_n C.1.1 C.1.2.1 dX2_wouldLetIn_5 rfl (lv_at hl 2 rfl) ?_
  obtain ⟨hv2, hf⟩ := gd hf
  refine wai C hW hk1 (vin_p hv2) dX2_wouldLetIn_6 ?_
  refine lv_aload_n C.1.1 C.1.2.1 dX2_wouldLetIn_7 rfl (lv_at hl 0 rfl) ?_
  have hk3 := sh2_14 hW hk_a0
  refine gf2_14 C hW hk_a0 w_324 dX2_wouldLetIn_8 ?_
  refine lv_iload_n C.1.1 C.1.2.1 dX2_wouldLetIn_11 rfl (lv_at hl 1 rfl) ?_
  obtain ⟨hv4, hf⟩ := gd hf
  refine wai C hW hk3 (vin_p hv4) dX2_wouldLetIn_12 ?_
  refine lv_aload_n C.1.1 C.1.2.1 dX2_wouldLetIn_13 rfl (lv_at hl 0 rfl) ?_
  have hk5 := sh2_14 hW hk_a0
  refine gf2_14 C hW hk_a0 w_324 dX2_wouldLetIn_14 ?_
  refine lv_iload_n C.1.1 C.1.2.1 dX2_wouldLetIn_17 rfl (lv_at hl 2 rfl) ?_
  refine wai C hW hk5 (vin_p hv2) dX2_wouldLetIn_18 ?_
  refine lv_iload_n C.1.1 C.1.2.1 dX2_wouldLetIn_19 rfl (lv_at hl 2 rfl) ?_
  refine lv_iconst (v := 0) C.1.1 C.1.2.1 dX2_wouldLetIn_20 (by decide) ?_
  obtain ⟨σ7, hc6, hf⟩ := bd hf
  try dsimp only at hf
  refine cVv C hW (mX2_setVariables hk_a0 hc6) hk_a0 kvX2_setVariables w_688 ⟨(Nat.le_of_ble_eq_true rfl), (Nat.le_of_ble_eq_true rfl)⟩ ⟨Nat.zero_le _, Nat.zero_le _⟩ rfl hl.1 (rest := []) rfl (Nat.le_of_ble_eq_true rfl) dX2_wouldLetIn_21 (fun H locs hW => ?_)
  refine lv_aload_n C.1.1 C.1.2.1 dX2_wouldLetIn_24 rfl (lv_at hl 0 rfl) ?_
  have hk11 := sh2_0 hW hk_a0
  refine gf2_0 C hW hk_a0 w_297 dX2_wouldLetIn_25 ?_
  have hk12 := sh3_10 hW hk11
  refine gf3_10 C hW hk11 w_214 dX2_wouldLetIn_28 ?_
  refine lv_iconst (v := 0) C.1.1 C.1.2.1 dX2_wouldLetIn_31 (by decide) ?_
  obtain ⟨⟨r15, σ14⟩, hc13, hf⟩ := bd hf
  try dsimp only at hf
  refine cVi C hW (mX0_valueOf hk12 hc13) hk12 kvX0_valueOf w_698 ⟨(Nat.le_of_ble_eq_true rfl), (Nat.le_of_ble_eq_true rfl)⟩ ⟨Nat.zero_le _, Nat.zero_le _⟩ rfl hl.1 (rest := []) rfl (Nat.le_of_ble_eq_true rfl) dX2_wouldLetIn_32 (fun H locs hn16 hW => ?_)
  refine lv_if_le (tgt := 42) C.1.1 C.1.2.1 dX2_wouldLetIn_35 (by decide) (fun h9 => ?_) (fun h9 => ?_)
  · replace hf := (if_pos h9).symm.trans hf
    refine lv_iconst (v := 0) C.1.1 C.1.2.1 dX2_wouldLetIn_42 (by decide) ?_
    exact ri hQ C hr hlk hW hf (rok_z (Or.inl rfl)) dX2_wouldLetIn_43
  · replace hf := (if_neg h9).symm.trans hf
    refine lv_iconst (v := 1) C.1.1 C.1.2.1 dX2_wouldLetIn_38 (by decide) ?_
    refine lv_goto (tgt := 43) C.1.1 C.1.2.1 dX2_wouldLetIn_39 (by decide) ?_
    exact ri hQ C hr hlk hW hf (rok_z (Or.inr rfl)) dX2_wouldLetIn_43
theorem kvX2_letInIfCan : KV 2 "RightKeys$Ring" yX2_letInIfCan cX2_letInIfCan 5 (some .boolean) 1 := ⟨⟨w_838, w_34, w_114, w_839⟩, ⟨rfl, by decide, by decide, by decide +kernel⟩, by decide, rfl⟩
noncomputable def jX2_letInIfCan_148 (a0 : Nat) (p1 : Int32) (s0 : Nat) (s1 : Int32) (s2 : Int32) (σ : Sg) : Option (Int32 × Sg) := (let σ25 := wI σ s0 11 (s1 + s2); some ((1 : Int32), σ25))
noncomputable def jX2_letInIfCan_119 (a0 : Nat) (p1 : Int32) (x2 : Int32) (σ : Sg) : Option (Int32 × Sg) := (fX2_bringIn a0 p1 σ).bind (fun σ20 => (let σ24 := wI σ20 a0 10 ((σ20.1 a0 10) + (1 : Int32)); if x2 = 0 then (jX2_letInIfCan_148 a0 p1 a0 (σ24.1 a0 11) (0 : Int32) σ24) else (jX2_letInIfCan_148 a0 p1 a0 (σ24.1 a0 11) (1 : Int32) σ24)))
noncomputable def jX2_letInIfCan_34 (a0 : Nat) (p1 : Int32) (x2 : Int32) (σ : Sg) : Option (Int32 × Sg) := if vin p1 8 then (let σ18 := wI σ (a0 + 6) ((p1).toNatClampNeg) p1; jX2_letInIfCan_119 a0 p1 x2 σ18) else none
noncomputable def jX2_letInIfCan_71 (a0 : Nat) (p1 : Int32) (x2 : Int32) (x4 : Int32) (σ : Sg) : Option (Int32 × Sg) := (fX2_isOut a0 x4 σ).bind (fun q36 => let r34 := q36.1; let σ33 := q36.2; if r34 = 0 then ((fX6_bit (σ33.1 (σ33.2.2.1 a0 0) 2) x4 σ33).bind (fun q42 => let r40 := q42.1; let σ39 := q42.2; if r40 = (1 : Int32) then ((fX2_wouldLetIn a0 x4 p1 σ39).bind (fun q47 => let r45 := q47.1; let σ44 := q47.2; if r45 = 0 then (some ((0 : Int32), σ44)) else (if vin p1 8 then (let σ50 := wI σ44 (a0 + 6) ((p1).toNatClampNeg) x4; jX2_letInIfCan_119 a0 p1 x2 σ50) else none))) else (some ((0 : Int32), σ39)))) else (some ((0 : Int32), σ33)))
noncomputable def fX2_letInIfCan (a0 : Nat) (p1 : Int32) (σ : Sg) : Option (Int32 × Sg) := (fX2_hasOwnSpare a0 p1 σ).bind (fun q5 => let r3 := q5.1; let σ2 := q5.2; (fX2_leftOf a0 p1 σ2).bind (fun q10 => let r8 := q10.1; let σ7 := q10.2; (fX2_rightOf a0 p1 σ7).bind (fun q15 => let r13 := q15.1; let σ12 := q15.2; if r3 = 0 then (if (σ12.1 (σ12.2.2.1 a0 0) 0) = (1 : Int32) then (jX2_letInIfCan_34 a0 p1 r3 σ12) else ((fX2_isOut a0 r8 σ12).bind (fun q31 => let r29 := q31.1; let σ28 := q31.2; if r29 = 0 then ((fX2_wouldLetIn a0 r8 p1 σ28).bind (fun q55 => let r53 := q55.1; let σ52 := q55.2; if r53 = 0 then (jX2_letInIfCan_71 a0 p1 r3 r13 σ52) else (if vin p1 8 then (let σ58 := wI σ52 (a0 + 6) ((p1).toNatClampNeg) r8; jX2_letInIfCan_119 a0 p1 r3 σ58) else none))) else (jX2_letInIfCan_71 a0 p1 r3 r13 σ28)))) else (jX2_letInIfCan_34 a0 p1 r3 σ12))))
set_option maxRecDepth 100000 in
set_option maxHeartbeats 4000000 in
theorem mX2_letInIfCan {l : Launch} {G : Gm} {a0 : Nat} {p1 : Int32} {σ : Sg} {r : Int32} {σ' : Sg} (hk_a0 : gK G a0 = 3) (hf : fX2_letInIfCan a0 p1 σ = some (r, σ')) : Mi l G yX2_letInIfCan cX2_letInIfCan 5 .boolean 3 87 [.ref (gB G + a0), .int p1] σ r σ' := by
  refine of_W "RightKeys$Ring" rfl (by decide) (Nat.le_of_ble_eq_true rfl) ?_
  intro p e s m args below meth c Q hQ C hr hlk hW ls hl
  have h00 := hW.1
  have hl : lv_has ls 5 [(0, .ref (gB G + a0)), (1, .int p1)] := hl
  delta fX2_letInIfCan at hf
  have J148 : ∀ (s0 : Nat) (s1 : Int32) (s2 : Int32) (σ : Sg) (H : Heap) (locs : List Loc) (ls : Array Slot) (hk_s0 : gK G s0 = 3), jX2_letInIfCan_148 a0 p1 s0 s1 s2 σ = some (r, σ') → Ws G σ s.heap H locs → lv_has ls 5 [] → W p l e (rmOf 3 87) s m args below meth c H locs 0 0 Q (F0 m 148 ls [.int s2, .int s1, .ref (gB G + s0)]) := by
    intro s0 s1 s2 σ H locs ls hk_s0 hf hW hl
    delta jX2_letInIfCan_148 at hf
    refine lv_iadd C.1.1 C.1.2.1 dX2_letInIfCan_148 ?_
    refine pf2_11 C hW hk_s0 w_318 dX2_letInIfCan_149 (fun H locs hW => ?_)
    refine lv_iconst (v := 1) C.1.1 C.1.2.1 dX2_letInIfCan_152 (by decide) ?_
    exact ri hQ C hr hlk hW hf (rok_z (Or.inr rfl)) dX2_letInIfCan_153
  have J119 : ∀ (x2 : Int32) (σ : Sg) (H : Heap) (locs : List Loc) (ls : Array Slot), jX2_letInIfCan_119 a0 p1 x2 σ = some (r, σ') → Ws G σ s.heap H locs → lv_has ls 5 [(0, .ref (gB G + a0)), (1, .int p1), (2, .int x2)] → W p l e (rmOf 3 87) s m args below meth c H locs 0 0 Q (F0 m 119 ls []) := by
    intro x2 σ H locs ls hf hW hl
    delta jX2_letInIfCan_119 at hf
    refine lv_aload_n C.1.1 C.1.2.1 dX2_letInIfCan_119 rfl (lv_at hl 0 rfl) ?_
    refine lv_iload_n C.1.1 C.1.2.1 dX2_letInIfCan_120 rfl (lv_at hl 1 rfl) ?_
    obtain ⟨σ20, hc19, hf⟩ := bd hf
    try dsimp only at hf
    refine cVv C hW (mX2_bringIn hk_a0 hc19) hk_a0 kvX2_bringIn w_841 ⟨(Nat.le_of_ble_eq_true rfl), (Nat.le_of_ble_eq_true rfl)⟩ ⟨Nat.zero_le _, Nat.zero_le _⟩ rfl hl.1 (rest := []) rfl (Nat.le_of_ble_eq_true rfl) dX2_letInIfCan_121 (fun H locs hW => ?_)
    refine lv_aload_n C.1.1 C.1.2.1 dX2_letInIfCan_124 rfl (lv_at hl 0 rfl) ?_
    refine lv_dup C.1.1 C.1.2.1 dX2_letInIfCan_125 rfl ?_
    refine gf2_10 C hW hk_a0 w_316 dX2_letInIfCan_126 ?_
    refine lv_iconst (v := 1) C.1.1 C.1.2.1 dX2_letInIfCan_129 (by decide) ?_
    refine lv_iadd C.1.1 C.1.2.1 dX2_letInIfCan_130 ?_
    refine pf2_10 C hW hk_a0 w_316 dX2_letInIfCan_131 (fun H locs hW => ?_)
    refine lv_aload_n C.1.1 C.1.2.1 dX2_letInIfCan_134 rfl (lv_at hl 0 rfl) ?_
    refine lv_dup C.1.1 C.1.2.1 dX2_letInIfCan_135 rfl ?_
    refine gf2_11 C hW hk_a0 w_318 dX2_letInIfCan_136 ?_
    refine lv_iload_n C.1.1 C.1.2.1 dX2_letInIfCan_139 rfl (lv_at hl 2 rfl) ?_
    refine lv_if_eq (tgt := 147) C.1.1 C.1.2.1 dX2_letInIfCan_140 (by decide) (fun h9 => ?_) (fun h9 => ?_)
    · replace hf := (if_pos h9).symm.trans hf
      refine lv_iconst (v := 0) C.1.1 C.1.2.1 dX2_letInIfCan_147 (by decide) ?_
      exact J148 _ _ _ _ _ _ _ hk_a0 hf hW (lv_sub hl [] rfl)
    · replace hf := (if_neg h9).symm.trans hf
      refine lv_iconst (v := 1) C.1.1 C.1.2.1 dX2_letInIfCan_143 (by decide) ?_
      refine lv_goto (tgt := 148) C.1.1 C.1.2.1 dX2_letInIfCan_144 (by decide) ?_
      exact J148 _ _ _ _ _ _ _ hk_a0 hf hW (lv_sub hl [] rfl)
  have J34 : ∀ (x2 : Int32) (σ : Sg) (H : Heap) (locs : List Loc) (ls : Array Slot), jX2_letInIfCan_34 a0 p1 x2 σ = some (r, σ') → Ws G σ s.heap H locs → lv_has ls 5 [(0, .ref (gB G + a0)), (1, .int p1), (2, .int x2)] → W p l e (rmOf 3 87) s m args below meth c H locs 0 0 Q (F0 m 34 ls []) := by
    intro x2 σ H locs ls hf hW hl
    delta jX2_letInIfCan_34 at hf
    refine lv_aload_n C.1.1 C.1.2.1 dX2_letInIfCan_34 rfl (lv_at hl 0 rfl) ?_
    have hk16 := sh2_17 hW hk_a0
    refine gf2_17 C hW hk_a0 w_330 dX2_letInIfCan_35 ?_
    refine lv_iload_n C.1.1 C.1.2.1 dX2_letInIfCan_38 rfl (lv_at hl 1 rfl) ?_
    refine lv_iload_n C.1.1 C.1.2.1 dX2_letInIfCan_39 rfl (lv_at hl 1 rfl) ?_
    obtain ⟨hv17, hf⟩ := gd hf
    refine wsi C hW hk16 (vin_p hv17) dX2_letInIfCan_40 (fun H locs hW => ?_)
    refine lv_goto (tgt := 119) C.1.1 C.1.2.1 dX2_letInIfCan_41 (by decide) ?_
    exact J119 _ _ _ _ _ hf hW (lv_sub hl [0, 1, 2] rfl)
  have J71 : ∀ (x2 : Int32) (x4 : Int32) (σ : Sg) (H : Heap) (locs : List Loc) (ls : Array Slot), jX2_letInIfCan_71 a0 p1 x2 x4 σ = some (r, σ') → Ws G σ s.heap H locs → lv_has ls 5 [(0, .ref (gB G + a0)), (1, .int p1), (2, .int x2), (4, .int x4)] → W p l e (rmOf 3 87) s m args below meth c H locs 0 0 Q (F0 m 71 ls []) := by
    intro x2 x4 σ H locs ls hf hW hl
    delta jX2_letInIfCan_71 at hf
    refine lv_aload_n C.1.1 C.1.2.1 dX2_letInIfCan_71 rfl (lv_at hl 0 rfl) ?_
    refine lv_iload C.1.1 C.1.2.1 dX2_letInIfCan_72 (lv_at hl 3 rfl) ?_
    obtain ⟨⟨r34, σ33⟩, hc32, hf⟩ := bd hf
    try dsimp only at hf
    refine cVi C hW (mX2_isOut hk_a0 hc32) hk_a0 kvX2_isOut w_746 ⟨(Nat.le_of_ble_eq_true rfl), (Nat.le_of_ble_eq_true rfl)⟩ ⟨Nat.zero_le _, Nat.zero_le _⟩ rfl hl.1 (rest := []) rfl (Nat.le_of_ble_eq_true rfl) dX2_letInIfCan_74 (fun H locs hn35 hW => ?_)
    refine lv_if_ne (tgt := 117) C.1.1 C.1.2.1 dX2_letInIfCan_77 (by decide) (fun h9 => ?_) (fun h9 => ?_)
    · replace hf := (if_neg h9).symm.trans hf
      refine lv_iconst (v := 0) C.1.1 C.1.2.1 dX2_letInIfCan_117 (by decide) ?_
      exact ri hQ C hr hlk hW hf (rok_z (Or.inl rfl)) dX2_letInIfCan_118
    · replace hf := (if_pos h9).symm.trans hf
      refine lv_aload_n C.1.1 C.1.2.1 dX2_letInIfCan_80 rfl (lv_at hl 0 rfl) ?_
      have hk37 := sh2_0 hW hk_a0
      refine gf2_0 C hW hk_a0 w_297 dX2_letInIfCan_81 ?_
      refine gf3_2 C hW hk37 w_190 dX2_letInIfCan_84 ?_
      refine lv_iload C.1.1 C.1.2.1 dX2_letInIfCan_87 (lv_at hl 3 rfl) ?_
      obtain ⟨⟨r40, σ39⟩, hc38, hf⟩ := bd hf
      try dsimp only at hf
      refine cNi C hW (mX6_bit hc38) ksX6_bit (by decide) ⟨(Nat.le_of_ble_eq_true rfl), (Nat.le_of_ble_eq_true rfl)⟩ ⟨Nat.zero_le _, Nat.zero_le _⟩ rfl hl.1 (rest := []) rfl (Nat.le_of_ble_eq_true rfl) dX2_letInIfCan_89 (fun H locs hn41 hW => ?_)
      refine lv_iconst (v := 1) C.1.1 C.1.2.1 dX2_letInIfCan_92 (by decide) ?_
      refine lv_icmp_ne (tgt := 117) C.1.1 C.1.2.1 dX2_letInIfCan_93 (by decide) (fun h9 => ?_) (fun h9 => ?_)
      · replace hf := (if_neg h9).symm.trans hf
        refine lv_iconst (v := 0) C.1.1 C.1.2.1 dX2_letInIfCan_117 (by decide) ?_
        exact ri hQ C hr hlk hW hf (rok_z (Or.inl rfl)) dX2_letInIfCan_118
      · replace hf := (if_pos h9).symm.trans hf
        refine lv_aload_n C.1.1 C.1.2.1 dX2_letInIfCan_96 rfl (lv_at hl 0 rfl) ?_
        refine lv_iload C.1.1 C.1.2.1 dX2_letInIfCan_97 (lv_at hl 3 rfl) ?_
        refine lv_iload_n C.1.1 C.1.2.1 dX2_letInIfCan_99 rfl (lv_at hl 1 rfl) ?_
        obtain ⟨⟨r45, σ44⟩, hc43, hf⟩ := bd hf
        try dsimp only at hf
        refine cVi C hW (mX2_wouldLetIn hk_a0 hc43) hk_a0 kvX2_wouldLetIn w_840 ⟨(Nat.le_of_ble_eq_true rfl), (Nat.le_of_ble_eq_true rfl)⟩ ⟨Nat.zero_le _, Nat.zero_le _⟩ rfl hl.1 (rest := []) rfl (Nat.le_of_ble_eq_true rfl) dX2_letInIfCan_100 (fun H locs hn46 hW => ?_)
        refine lv_if_eq (tgt := 117) C.1.1 C.1.2.1 dX2_letInIfCan_103 (by decide) (fun h9 => ?_) (fun h9 => ?_)
        · replace hf := (if_pos h9).symm.trans hf
          refine lv_iconst (v := 0) C.1.1 C.1.2.1 dX2_letInIfCan_117 (by decide) ?_
          exact ri hQ C hr hlk hW hf (rok_z (Or.inl rfl)) dX2_letInIfCan_118
        · replace hf := (if_neg h9).symm.trans hf
          refine lv_aload_n C.1.1 C.1.2.1 dX2_letInIfCan_106 rfl (lv_at hl 0 rfl) ?_
          have hk48 := sh2_17 hW hk_a0
          refine gf2_17 C hW hk_a0 w_330 dX2_letInIfCan_107 ?_
          refine lv_iload_n C.1.1 C.1.2.1 dX2_letInIfCan_110 rfl (lv_at hl 1 rfl) ?_
          refine lv_iload C.1.1 C.1.2.1 dX2_letInIfCan_111 (lv_at hl 3 rfl) ?_
          obtain ⟨hv49, hf⟩ := gd hf
          refine wsi C hW hk48 (vin_p hv49) dX2_letInIfCan_113 (fun H locs hW => ?_)
          refine lv_goto (tgt := 119) C.1.1 C.1.2.1 dX2_letInIfCan_114 (by decide) ?_
          exact J119 _ _ _ _ _ hf hW (lv_sub hl [0, 1, 2] rfl)
  refine lv_aload_n C.1.1 C.1.2.1 dX2_letInIfCan_0 rfl (lv_at hl 0 rfl) ?_
  refine lv_iload_n C.1.1 C.1.2.1 dX2_letInIfCan_1 rfl (lv_at hl 1 rfl) ?_
  obtain ⟨⟨r3, σ2⟩, hc1, hf⟩ := bd hf
  try dsimp only at hf
  refine cVi C hW (mX2_hasOwnSpare hk_a0 hc1) hk_a0 kvX2_hasOwnSpare w_742 ⟨(Nat.le_of_ble_eq_true rfl), (Nat.le_of_ble_eq_true rfl)⟩ ⟨Nat.zero_le _, Nat.zero_le _⟩ rfl hl.1 (rest := []) rfl (Nat.le_of_ble_eq_true rfl) dX2_letInIfCan_2 (fun H locs hn4 hW => ?_)
  refine lv_istore_n (lv' := [(2, .int _), (0, .ref _), (1, .int _)]) C.1.1 C.1.2.1 dX2_letInIfCan_5 rfl hl (by decide) rfl (fun ls hl => ?_)
  refine lv_aload_n C.1.1 C.1.2.1 dX2_letInIfCan_6 rfl (lv_at hl 1 rfl) ?_
  refine lv_iload_n C.1.1 C.1.2.1 dX2_letInIfCan_7 rfl (lv_at hl 2 rfl) ?_
  obtain ⟨⟨r8, σ7⟩, hc6, hf⟩ := bd hf
  try dsimp only at hf
  refine cVi C hW (mX2_leftOf hk_a0 hc6) hk_a0 kvX2_leftOf w_734 ⟨(Nat.le_of_ble_eq_true rfl), (Nat.le_of_ble_eq_true rfl)⟩ ⟨Nat.zero_le _, Nat.zero_le _⟩ rfl hl.1 (rest := []) rfl (Nat.le_of_ble_eq_true rfl) dX2_letInIfCan_8 (fun H locs hn9 hW => ?_)
  refine lv_istore_n (lv' := [(3, .int _), (2, .int _), (0, .ref _), (1, .int _)]) C.1.1 C.1.2.1 dX2_letInIfCan_11 rfl hl (by decide) rfl (fun ls hl => ?_)
  refine lv_aload_n C.1.1 C.1.2.1 dX2_letInIfCan_12 rfl (lv_at hl 2 rfl) ?_
  refine lv_iload_n C.1.1 C.1.2.1 dX2_letInIfCan_13 rfl (lv_at hl 3 rfl) ?_
  obtain ⟨⟨r13, σ12⟩, hc11, hf⟩ := bd hf
  try dsimp only at hf
  refine cVi C hW (mX2_rightOf hk_a0 hc11) hk_a0 kvX2_rightOf w_738 ⟨(Nat.le_of_ble_eq_true rfl), (Nat.le_of_ble_eq_true rfl)⟩ ⟨Nat.zero_le _, Nat.zero_le _⟩ rfl hl.1 (rest := []) rfl (Nat.le_of_ble_eq_true rfl) dX2_letInIfCan_14 (fun H locs hn14 hW => ?_)
  refine lv_istore (lv' := [(4, .int _), (3, .int _), (2, .int _), (0, .ref _), (1, .int _)]) C.1.1 C.1.2.1 dX2_letInIfCan_17 hl (by decide) rfl (fun ls hl => ?_)
  refine lv_iload_n C.1.1 C.1.2.1 dX2_letInIfCan_19 rfl (lv_at hl 2 rfl) ?_
  refine lv_if_ne (tgt := 34) C.1.1 C.1.2.1 dX2_letInIfCan_20 (by decide) (fun h9 => ?_) (fun h9 => ?_)
  · replace hf := (if_neg h9).symm.trans hf
    exact J34 _ _ _ _ _ hf hW (lv_sub hl [3, 4, 2] rfl)
  · replace hf := (if_pos h9).symm.trans hf
    refine lv_aload_n C.1.1 C.1.2.1 dX2_letInIfCan_23 rfl (lv_at hl 3 rfl) ?_
    have hk26 := sh2_0 hW hk_a0
    refine gf2_0 C hW hk_a0 w_297 dX2_letInIfCan_24 ?_
    refine gf3_0 C hW hk26 w_180 dX2_letInIfCan_27 ?_
    refine lv_iconst (v := 1) C.1.1 C.1.2.1 dX2_letInIfCan_30 (by decide) ?_
    refine lv_icmp_ne (tgt := 44) C.1.1 C.1.2.1 dX2_letInIfCan_31 (by decide) (fun h9 => ?_) (fun h9 => ?_)
    · replace hf := (if_neg h9).symm.trans hf
      refine lv_aload_n C.1.1 C.1.2.1 dX2_letInIfCan_44 rfl (lv_at hl 3 rfl) ?_
      refine lv_iload_n C.1.1 C.1.2.1 dX2_letInIfCan_45 rfl (lv_at hl 1 rfl) ?_
      obtain ⟨⟨r29, σ28⟩, hc27, hf⟩ := bd hf
      try dsimp only at hf
      refine cVi C hW (mX2_isOut hk_a0 hc27) hk_a0 kvX2_isOut w_746 ⟨(Nat.le_of_ble_eq_true rfl), (Nat.le_of_ble_eq_true rfl)⟩ ⟨Nat.zero_le _, Nat.zero_le _⟩ rfl hl.1 (rest := []) rfl (Nat.le_of_ble_eq_true rfl) dX2_letInIfCan_46 (fun H locs hn30 hW => ?_)
      refine lv_if_ne (tgt := 71) C.1.1 C.1.2.1 dX2_letInIfCan_49 (by decide) (fun h9 => ?_) (fun h9 => ?_)
      · replace hf := (if_neg h9).symm.trans hf
        exact J71 _ _ _ _ _ _ hf hW (lv_sub hl [3, 4, 2, 0] rfl)
      · replace hf := (if_pos h9).symm.trans hf
        refine lv_aload_n C.1.1 C.1.2.1 dX2_letInIfCan_52 rfl (lv_at hl 3 rfl) ?_
        refine lv_iload_n C.1.1 C.1.2.1 dX2_letInIfCan_53 rfl (lv_at hl 1 rfl) ?_
        refine lv_iload_n C.1.1 C.1.2.1 dX2_letInIfCan_54 rfl (lv_at hl 4 rfl) ?_
        obtain ⟨⟨r53, σ52⟩, hc51, hf⟩ := bd hf
        try dsimp only at hf
        refine cVi C hW (mX2_wouldLetIn hk_a0 hc51) hk_a0 kvX2_wouldLetIn w_840 ⟨(Nat.le_of_ble_eq_true rfl), (Nat.le_of_ble_eq_true rfl)⟩ ⟨Nat.zero_le _, Nat.zero_le _⟩ rfl hl.1 (rest := []) rfl (Nat.le_of_ble_eq_true rfl) dX2_letInIfCan_55 (fun H locs hn54 hW => ?_)
        refine lv_if_eq (tgt := 71) C.1.1 C.1.2.1 dX2_letInIfCan_58 (by decide) (fun h9 => ?_) (fun h9 => ?_)
        · replace hf := (if_pos h9).symm.trans hf
          exact J71 _ _ _ _ _ _ hf hW (lv_sub hl [3, 4, 2, 0] rfl)
        · replace hf := (if_neg h9).symm.trans hf
          refine lv_aload_n C.1.1 C.1.2.1 dX2_letInIfCan_61 rfl (lv_at hl 3 rfl) ?_
          have hk56 := sh2_17 hW hk_a0
          refine gf2_17 C hW hk_a0 w_330 dX2_letInIfCan_62 ?_
          refine lv_iload_n C.1.1 C.1.2.1 dX2_letInIfCan_65 rfl (lv_at hl 4 rfl) ?_
          refine lv_iload_n C.1.1 C.1.2.1 dX2_letInIfCan_66 rfl (lv_at hl 1 rfl) ?_
          obtain ⟨hv57, hf⟩ := gd hf
          refine wsi C hW hk56 (vin_p hv57) dX2_letInIfCan_67 (fun H locs hW => ?_)
          refine lv_goto (tgt := 119) C.1.1 C.1.2.1 dX2_letInIfCan_68 (by decide) ?_
          exact J119 _ _ _ _ _ hf hW (lv_sub hl [3, 4, 2] rfl)
    · replace hf := (if_pos h9).symm.trans hf
      exact J34 _ _ _ _ _ hf hW (lv_sub hl [3, 4, 2] rfl)
theorem kvX2_letPeopleIn : KV 2 "RightKeys$Ring" yX2_letPeopleIn cX2_letPeopleIn 4 none 0 := ⟨⟨w_833, w_834, w_114, w_835⟩, ⟨rfl, by decide, by decide, by decide +kernel⟩, by decide, rfl⟩
noncomputable def jX2_letPeopleIn_60 (a0 : Nat) (x2 : Int32) (x1 : Int32) (x3 : Int32) (σ : Sg) : Option ((Int32 × Int32 × Sg) ⊕ (Int32 × Sg)) := (let x3_7 := x3 + (1 : Int32); some (Sum.inl (x1, x3_7, σ)))
noncomputable def bX2_letPeopleIn_29 (a0 : Nat) (x2 : Int32) (x1 : Int32) (x3 : Int32) (σ : Sg) : Option ((Int32 × Int32 × Sg) ⊕ (Int32 × Sg)) := if (σ.1 (σ.2.2.1 a0 0) 0) ≤ x3 then (some (Sum.inr (x1, σ))) else ((fX6_bit (σ.1 a0 3) x3 σ).bind (fun q6 => let r4 := q6.1; let σ3 := q6.2; if r4 = (1 : Int32) then ((fX2_letInIfCan a0 x3 σ3).bind (fun q12 => let r10 := q12.1; let σ9 := q12.2; (let x1_13 := (x1 ||| r10); jX2_letPeopleIn_60 a0 x2 x1_13 x3 σ9))) else (jX2_letPeopleIn_60 a0 x2 x1 x3 σ3)))
noncomputable def bX2_letPeopleIn_15 (a0 : Nat) (x1 : Int32) (x2 : Int32) (σ : Sg) : Option ((Int32 × Int32 × Sg) ⊕ (Sg)) := if (8 : Int32) < x2 then (some (Sum.inr σ)) else (if x1 = 0 then (some (Sum.inr σ)) else ((lp (fun st => bX2_letPeopleIn_29 a0 x2 st.1 st.2.1 st.2.2) ((0 : Int32), (0 : Int32), σ)).bind (fun q18 => let y16 := q18.1; let σ15 := q18.2;  (let x2_17 := x2 + (1 : Int32); some (Sum.inl (y16, x2_17, σ15))))))
noncomputable def jX2_letPeopleIn_12 (a0 : Nat) (s0 : Int32) (σ : Sg) : Option (Sg) := (lp (fun st => bX2_letPeopleIn_15 a0 st.1 st.2.1 st.2.2) (s0, (0 : Int32), σ)).bind (fun σ20 => some σ20)
noncomputable def fX2_letPeopleIn (a0 : Nat) (σ : Sg) : Option (Sg) := if (σ.1 a0 3) = 0 then (jX2_letPeopleIn_12 a0 (0 : Int32) σ) else (jX2_letPeopleIn_12 a0 (1 : Int32) σ)
set_option maxRecDepth 100000 in
set_option maxHeartbeats 4000000 in
theorem mX2_letPeopleIn {l : Launch} {G : Gm} {a0 : Nat} {σ : Sg} {σ' : Sg} (hk_a0 : gK G a0 = 3) (hf : fX2_letPeopleIn a0 σ = some σ') : Mv l G yX2_letPeopleIn cX2_letPeopleIn 4 4 111 [.ref (gB G + a0)] σ σ' := by
  refine of_W "RightKeys$Ring" rfl (by decide) (Nat.le_of_ble_eq_true rfl) ?_
  intro p e s m args below meth c Q hQ C hr hlk hW ls hl
  have h00 := hW.1
  have hl : lv_has ls 4 [(0, .ref (gB G + a0))] := hl
  delta fX2_letPeopleIn at hf
  have L15 : ∀ (n : Nat) (x1 : Int32) (x2 : Int32) (σ : Sg) (H : Heap) (locs : List Loc) (ls : Array Slot) (out : (Sg)), iter (fun st => bX2_letPeopleIn_15 a0 st.1 st.2.1 st.2.2) n (x1, x2, σ) = some out → Ws G σ s.heap H locs → lv_has ls 4 [(0, .ref (gB G + a0)), (1, .int x1), (2, .int x2)] → (∀ (σ : Sg) (H : Heap) (locs : List Loc) (ls : Array Slot), out = σ → Ws G σ s.heap H locs → lv_has ls 4 [] → W p l e (rmOf 4 111) s m args below meth c H locs 0 0 Q (F0 m 72 ls [])) → W p l e (rmOf 4 111) s m args below meth c H locs 0 0 Q (F0 m 15 ls []) := by
    intro n
    induction n with
    | zero =>
      intro x1 x2 σ H locs ls out hf
      exact (it_0 hf).elim
    | succ n ih =>
      intro x1 x2 σ H locs ls out hf hW hl K15_72
      obtain ⟨x, hf, hx⟩ := it_s hf
      have hf : bX2_letPeopleIn_15 a0 x1 x2 σ = some x := hf
      delta bX2_letPeopleIn_15 at hf
      have L29 : ∀ (x2 : Int32) (n : Nat) (x1 : Int32) (x3 : Int32) (σ : Sg) (H : Heap) (locs : List Loc) (ls : Array Slot) (out : (Int32 × Sg)), iter (fun st => bX2_letPeopleIn_29 a0 x2 st.1 st.2.1 st.2.2) n (x1, x3, σ) = some out → Ws G σ s.heap H locs → lv_has ls 4 [(0, .ref (gB G + a0)), (1, .int x1), (2, .int x2), (3, .int x3)] → (∀ (y1 : Int32) (σ : Sg) (H : Heap) (locs : List Loc) (ls : Array Slot), out = (y1, σ) → Ws G σ s.heap H locs → lv_has ls 4 [(0, .ref (gB G + a0)), (1, .int y1), (2, .int x2)] → W p l e (rmOf 4 111) s m args below meth c H locs 0 0 Q (F0 m 66 ls [])) → W p l e (rmOf 4 111) s m args below meth c H locs 0 0 Q (F0 m 29 ls []) := by
        intro x2 n
        induction n with
        | zero =>
          intro x1 x3 σ H locs ls out hf
          exact (it_0 hf).elim
        | succ n ih =>
          intro x1 x3 σ H locs ls out hf hW hl K29_66
          obtain ⟨x, hf, hx⟩ := it_s hf
          have hf : bX2_letPeopleIn_29 a0 x2 x1 x3 σ = some x := hf
          delta bX2_letPeopleIn_29 at hf
          have J60 : ∀ (x1 : Int32) (x3 : Int32) (σ : Sg) (H : Heap) (locs : List Loc) (ls : Array Slot), jX2_letPeopleIn_60 a0 x2 x1 x3 σ = some x → Ws G σ s.heap H locs → lv_has ls 4 [(0, .ref (gB G + a0)), (1, .int x1), (2, .int x2), (3, .int x3)] → W p l e (rmOf 4 111) s m args below meth c H locs 0 0 Q (F0 m 60 ls []) := by
            intro x1 x3 σ H locs ls hf hW hl
            delta jX2_letPeopleIn_60 at hf
            refine lv_iinc (v := _) (lv' := [(3, .int _), (0, .ref _), (1, .int _), (2, .int _)]) C.1.1 C.1.2.1 dX2_letPeopleIn_60 hl (k := 3) rfl (ii (k := 1) (by decide)) (by decide) rfl (fun ls hl => ?_)
            refine lv_goto (tgt := 29) C.1.1 C.1.2.1 dX2_letPeopleIn_63 (by decide) ?_
            cases hf
            exact ih _ _ _ _ _ _ _ hx hW (lv_sub hl [1, 2, 3, 0] rfl) K29_66
          refine lv_iload_n C.1.1 C.1.2.1 dX2_letPeopleIn_29 rfl (lv_at hl 3 rfl) ?_
          refine lv_aload_n C.1.1 C.1.2.1 dX2_letPeopleIn_30 rfl (lv_at hl 0 rfl) ?_
          have hk1 := sh2_0 hW hk_a0
          refine gf2_0 C hW hk_a0 w_297 dX2_letPeopleIn_31 ?_
          refine gf3_0 C hW hk1 w_180 dX2_letPeopleIn_34 ?_
          refine lv_icmp_ge (tgt := 66) C.1.1 C.1.2.1 dX2_letPeopleIn_37 (by decide) (fun h9 => ?_) (fun h9 => ?_)
          · replace hf := (if_pos h9).symm.trans hf
            cases hf
            cases hx
            exact K29_66 _ _ _ _ _ rfl hW (lv_sub hl [0, 1, 2] rfl)
          · replace hf := (if_neg h9).symm.trans hf
            refine lv_aload_n C.1.1 C.1.2.1 dX2_letPeopleIn_40 rfl (lv_at hl 0 rfl) ?_
            refine gf2_3 C hW hk_a0 w_302 dX2_letPeopleIn_41 ?_
            refine lv_iload_n C.1.1 C.1.2.1 dX2_letPeopleIn_44 rfl (lv_at hl 3 rfl) ?_
            obtain ⟨⟨r4, σ3⟩, hc2, hf⟩ := bd hf
            try dsimp only at hf
            refine cNi C hW (mX6_bit hc2) ksX6_bit (by decide) ⟨(Nat.le_of_ble_eq_true rfl), (Nat.le_of_ble_eq_true rfl)⟩ ⟨Nat.zero_le _, Nat.zero_le _⟩ rfl hl.1 (rest := []) rfl (Nat.le_of_ble_eq_true rfl) dX2_letPeopleIn_45 (fun H locs hn5 hW => ?_)
            refine lv_iconst (v := 1) C.1.1 C.1.2.1 dX2_letPeopleIn_48 (by decide) ?_
            refine lv_icmp_ne (tgt := 60) C.1.1 C.1.2.1 dX2_letPeopleIn_49 (by decide) (fun h9 => ?_) (fun h9 => ?_)
            · replace hf := (if_neg h9).symm.trans hf
              exact J60 _ _ _ _ _ _ hf hW (lv_sub hl [0, 1, 2, 3] rfl)
            · replace hf := (if_pos h9).symm.trans hf
              refine lv_iload_n C.1.1 C.1.2.1 dX2_letPeopleIn_52 rfl (lv_at hl 1 rfl) ?_
              refine lv_aload_n C.1.1 C.1.2.1 dX2_letPeopleIn_53 rfl (lv_at hl 0 rfl) ?_
              refine lv_iload_n C.1.1 C.1.2.1 dX2_letPeopleIn_54 rfl (lv_at hl 3 rfl) ?_
              obtain ⟨⟨r10, σ9⟩, hc8, hf⟩ := bd hf
              try dsimp only at hf
              refine cVi C hW (mX2_letInIfCan hk_a0 hc8) hk_a0 kvX2_letInIfCan w_836 ⟨(Nat.le_of_ble_eq_true rfl), (Nat.le_of_ble_eq_true rfl)⟩ ⟨Nat.zero_le _, Nat.zero_le _⟩ rfl hl.1 (rest := [.int _]) rfl (Nat.le_of_ble_eq_true rfl) dX2_letPeopleIn_55 (fun H locs hn11 hW => ?_)
              refine lv_ior C.1.1 C.1.2.1 dX2_letPeopleIn_58 ?_
              refine lv_istore_n (lv' := [(1, .int _), (0, .ref _), (2, .int _), (3, .int _)]) C.1.1 C.1.2.1 dX2_letPeopleIn_59 rfl hl (by decide) rfl (fun ls hl => ?_)
              exact J60 _ _ _ _ _ _ hf hW (lv_sub hl [1, 0, 2, 3] rfl)
      refine lv_iload_n C.1.1 C.1.2.1 dX2_letPeopleIn_15 rfl (lv_at hl 2 rfl) ?_
      refine lv_bipush (v := 8) C.1.1 C.1.2.1 dX2_letPeopleIn_16 (by decide) ?_
      refine lv_icmp_gt (tgt := 72) C.1.1 C.1.2.1 dX2_letPeopleIn_18 (by decide) (fun h9 => ?_) (fun h9 => ?_)
      · replace hf := (if_pos h9).symm.trans hf
        cases hf
        cases hx
        exact K15_72 _ _ _ _ rfl hW (lv_sub hl [] rfl)
      · replace hf := (if_neg h9).symm.trans hf
        refine lv_iload_n C.1.1 C.1.2.1 dX2_letPeopleIn_21 rfl (lv_at hl 1 rfl) ?_
        refine lv_if_eq (tgt := 72) C.1.1 C.1.2.1 dX2_letPeopleIn_22 (by decide) (fun h9 => ?_) (fun h9 => ?_)
        · replace hf := (if_pos h9).symm.trans hf
          cases hf
          cases hx
          exact K15_72 _ _ _ _ rfl hW (lv_sub hl [] rfl)
        · replace hf := (if_neg h9).symm.trans hf
          refine lv_iconst (v := 0) C.1.1 C.1.2.1 dX2_letPeopleIn_25 (by decide) ?_
          refine lv_istore_n (lv' := [(1, .int _), (0, .ref _), (2, .int _)]) C.1.1 C.1.2.1 dX2_letPeopleIn_26 rfl hl (by decide) rfl (fun ls hl => ?_)
          refine lv_iconst (v := 0) C.1.1 C.1.2.1 dX2_letPeopleIn_27 (by decide) ?_
          refine lv_istore_n (lv' := [(3, .int _), (1, .int _), (0, .ref _), (2, .int _)]) C.1.1 C.1.2.1 dX2_letPeopleIn_28 rfl hl (by decide) rfl (fun ls hl => ?_)
          obtain ⟨o14, ho, hf⟩ := bd hf
          obtain ⟨n, ho⟩ := lp_it ho
          refine L29 _ n _ _ _ _ _ _ o14 ho hW (lv_sub hl [2, 1, 3, 0] rfl) ?_
          intro y16 σ15 H locs ls e9 hW hl
          subst e9
          try dsimp only at hf
          refine lv_iinc (v := _) (lv' := [(2, .int _), (0, .ref _), (1, .int _)]) C.1.1 C.1.2.1 dX2_letPeopleIn_66 hl (k := 2) rfl (ii (k := 1) (by decide)) (by decide) rfl (fun ls hl => ?_)
          refine lv_goto (tgt := 15) C.1.1 C.1.2.1 dX2_letPeopleIn_69 (by decide) ?_
          cases hf
          exact ih _ _ _ _ _ _ _ hx hW (lv_sub hl [1, 2, 0] rfl) K15_72
  have J12 : ∀ (s0 : Int32) (σ : Sg) (H : Heap) (locs : List Loc) (ls : Array Slot), jX2_letPeopleIn_12 a0 s0 σ = some σ' → Ws G σ s.heap H locs → lv_has ls 4 [(0, .ref (gB G + a0))] → W p l e (rmOf 4 111) s m args below meth c H locs 0 0 Q (F0 m 12 ls [.int s0]) := by
    intro s0 σ H locs ls hf hW hl
    delta jX2_letPeopleIn_12 at hf
    refine lv_istore_n (lv' := [(1, .int _), (0, .ref _)]) C.1.1 C.1.2.1 dX2_letPeopleIn_12 rfl hl (by decide) rfl (fun ls hl => ?_)
    refine lv_iconst (v := 0) C.1.1 C.1.2.1 dX2_letPeopleIn_13 (by decide) ?_
    refine lv_istore_n (lv' := [(2, .int _), (1, .int _), (0, .ref _)]) C.1.1 C.1.2.1 dX2_letPeopleIn_14 rfl hl (by decide) rfl (fun ls hl => ?_)
    obtain ⟨o19, ho, hf⟩ := bd hf
    obtain ⟨n, ho⟩ := lp_it ho
    refine L15 n _ _ _ _ _ _ o19 ho hW (lv_sub hl [2, 1, 0] rfl) ?_
    intro  σ20 H locs ls e9 hW hl
    subst e9
    try dsimp only at hf
    exact rv hQ C hr hlk hW hf dX2_letPeopleIn_72
  refine lv_aload_n C.1.1 C.1.2.1 dX2_letPeopleIn_0 rfl (lv_at hl 0 rfl) ?_
  refine gf2_3 C hW hk_a0 w_302 dX2_letPeopleIn_1 ?_
  refine lv_if_eq (tgt := 11) C.1.1 C.1.2.1 dX2_letPeopleIn_4 (by decide) (fun h9 => ?_) (fun h9 => ?_)
  · replace hf := (if_pos h9).symm.trans hf
    refine lv_iconst (v := 0) C.1.1 C.1.2.1 dX2_letPeopleIn_11 (by decide) ?_
    exact J12 _ _ _ _ _ hf hW (lv_sub hl [0] rfl)
  · replace hf := (if_neg h9).symm.trans hf
    refine lv_iconst (v := 1) C.1.1 C.1.2.1 dX2_letPeopleIn_7 (by decide) ?_
    refine lv_goto (tgt := 12) C.1.1 C.1.2.1 dX2_letPeopleIn_8 (by decide) ?_
    exact J12 _ _ _ _ _ hf hW (lv_sub hl [0] rfl)
theorem kvX2_quarrelOf : KV 2 "RightKeys$Ring" yX2_quarrelOf cX2_quarrelOf 2 (some .int) 1 := ⟨⟨w_852, w_36, w_114, w_853⟩, ⟨rfl, by decide, by decide, by decide +kernel⟩, by decide, rfl⟩
noncomputable def fX2_quarrelOf (a0 : Nat) (p1 : Int32) (σ : Sg) : Option (Int32 × Sg) := if vin p1 8 then ((fX2_setVariables a0 (σ.1 (a0 + 5) ((p1).toNatClampNeg)) (σ.1 (a0 + 3) ((p1).toNatClampNeg)) (0 : Int32) p1 (0 : Int32) σ).bind (fun σ5 => (fX0_valueOf ((σ5.2.2.1 a0 0) + 7) (1 : Int32) σ5).bind (fun q15 => let r13 := q15.1; let σ12 := q15.2; some ((imax (0 : Int32) (imin (99 : Int32) r13)), σ12)))) else none
set_option maxRecDepth 100000 in
set_option maxHeartbeats 4000000 in
theorem mX2_quarrelOf {l : Launch} {G : Gm} {a0 : Nat} {p1 : Int32} {σ : Sg} {r : Int32} {σ' : Sg} (hk_a0 : gK G a0 = 3) (hf : fX2_quarrelOf a0 p1 σ = some (r, σ')) : Mi l G yX2_quarrelOf cX2_quarrelOf 2 .int 2 65 [.ref (gB G + a0), .int p1] σ r σ' := by
  refine of_W "RightKeys$Ring" rfl (by decide) (Nat.le_of_ble_eq_true rfl) ?_
  intro p e s m args below meth c Q hQ C hr hlk hW ls hl
  have h00 := hW.1
  have hl : lv_has ls 2 [(0, .ref (gB G + a0)), (1, .int p1)] := hl
  delta fX2_quarrelOf at hf
  refine lv_aload_n C.1.1 C.1.2.1 dX2_quarrelOf_0 rfl (lv_at hl 0 rfl) ?_
  refine lv_aload_n C.1.1 C.1.2.1 dX2_quarrelOf_1 rfl (lv_at hl 0 rfl) ?_
  have hk1 := sh2_16 hW hk_a0
  refine gf2_16 C hW hk_a0 w_328 dX2_quarrelOf_2 ?_
  refine lv_iload_n C.1.1 C.1.2.1 dX2_quarrelOf_5 rfl (lv_at hl 1 rfl) ?_
  obtain ⟨hv2, hf⟩ := gd hf
  refine wai C hW hk1 (vin_p hv2) dX2_quarrelOf_6 ?_
  refine lv_aload_n C.1.1 C.1.2.1 dX2_quarrelOf_7 rfl (lv_at hl 0 rfl) ?_
  have hk3 := sh2_14 hW hk_a0
  refine gf2_14 C hW hk_a0 w_324 dX2_quarrelOf_8 ?_
  refine lv_iload_n C.1.1 C.1.2.1 dX2_quarrelOf_11 rfl (lv_at hl 1 rfl) ?_
  refine wai C hW hk3 (vin_p hv2) dX2_quarrelOf_12 ?_
  refine lv_iconst (v := 0) C.1.1 C.1.2.1 dX2_quarrelOf_13 (by decide) ?_
  refine lv_iload_n C.1.1 C.1.2.1 dX2_quarrelOf_14 rfl (lv_at hl 1 rfl) ?_
  refine lv_iconst (v := 0) C.1.1 C.1.2.1 dX2_quarrelOf_15 (by decide) ?_
  obtain ⟨σ5, hc4, hf⟩ := bd hf
  try dsimp only at hf
  refine cVv C hW (mX2_setVariables hk_a0 hc4) hk_a0 kvX2_setVariables w_688 ⟨(Nat.le_of_ble_eq_true rfl), (Nat.le_of_ble_eq_true rfl)⟩ ⟨Nat.zero_le _, Nat.zero_le _⟩ rfl hl.1 (rest := []) rfl (Nat.le_of_ble_eq_true rfl) dX2_quarrelOf_16 (fun H locs hW => ?_)
  refine lv_iconst (v := 0) C.1.1 C.1.2.1 dX2_quarrelOf_19 (by decide) ?_
  refine lv_bipush (v := 99) C.1.1 C.1.2.1 dX2_quarrelOf_20 (by decide) ?_
  refine lv_aload_n C.1.1 C.1.2.1 dX2_quarrelOf_22 rfl (lv_at hl 0 rfl) ?_
  have hk9 := sh2_0 hW hk_a0
  refine gf2_0 C hW hk_a0 w_297 dX2_quarrelOf_23 ?_
  have hk10 := sh3_10 hW hk9
  refine gf3_10 C hW hk9 w_214 dX2_quarrelOf_26 ?_
  refine lv_iconst (v := 1) C.1.1 C.1.2.1 dX2_quarrelOf_29 (by decide) ?_
  obtain ⟨⟨r13, σ12⟩, hc11, hf⟩ := bd hf
  try dsimp only at hf
  refine cVi C hW (mX0_valueOf hk10 hc11) hk10 kvX0_valueOf w_698 ⟨(Nat.le_of_ble_eq_true rfl), (Nat.le_of_ble_eq_true rfl)⟩ ⟨Nat.zero_le _, Nat.zero_le _⟩ rfl hl.1 (rest := [.int _, .int _]) rfl (Nat.le_of_ble_eq_true rfl) dX2_quarrelOf_30 (fun H locs hn14 hW => ?_)
  refine cMin C w_708 w_559 w_121 w_560 hl.1 (Nat.le_of_ble_eq_true rfl) (Nat.le_of_ble_eq_true rfl) ⟨Nat.zero_le _, Nat.zero_le _⟩ dX2_quarrelOf_33 ?_
  refine cMax C w_709 w_703 w_121 w_704 hl.1 (Nat.le_of_ble_eq_true rfl) (Nat.le_of_ble_eq_true rfl) ⟨Nat.zero_le _, Nat.zero_le _⟩ dX2_quarrelOf_36 ?_
  exact ri hQ C hr hlk hW hf (rok_i _) dX2_quarrelOf_39
theorem kvX2_letPeopleWait : KV 2 "RightKeys$Ring" yX2_letPeopleWait cX2_letPeopleWait 2 none 0 := ⟨⟨w_847, w_35, w_114, w_848⟩, ⟨rfl, by decide, by decide, by decide +kernel⟩, by decide, rfl⟩
noncomputable def jX2_letPeopleWait_68 (a0 : Nat) (x1 : Int32) (σ : Sg) : Option ((Int32 × Sg) ⊕ (Sg)) := (let x1_7 := x1 + (1 : Int32); some (Sum.inl (x1_7, σ)))
noncomputable def bX2_letPeopleWait_2 (a0 : Nat) (x1 : Int32) (σ : Sg) : Option ((Int32 × Sg) ⊕ (Sg)) := if (σ.1 (σ.2.2.1 a0 0) 0) ≤ x1 then (some (Sum.inr σ)) else (if (σ.1 a0 3) = 0 then (some (Sum.inr σ)) else ((fX6_bit (σ.1 a0 3) x1 σ).bind (fun q6 => let r4 := q6.1; let σ3 := q6.2; if r4 = (1 : Int32) then (if vin x1 8 then ((let σ10 := wI σ3 (a0 + 5) ((x1).toNatClampNeg) ((σ3.1 (a0 + 5) ((x1).toNatClampNeg)) + (1 : Int32)); if (σ10.1 a0 7) = 0 then ((fX2_quarrelOf a0 x1 σ10).bind (fun q15 => let r13 := q15.1; let σ12 := q15.2; (let σ16 := wI σ12 a0 9 (imin (99999 : Int32) ((σ10.1 a0 9) + r13)); jX2_letPeopleWait_68 a0 x1 σ16))) else (jX2_letPeopleWait_68 a0 x1 σ10))) else none) else (jX2_letPeopleWait_68 a0 x1 σ3))))
noncomputable def fX2_letPeopleWait (a0 : Nat) (σ : Sg) : Option (Sg) := (lp (fun st => bX2_letPeopleWait_2 a0 st.1 st.2) ((0 : Int32), σ)).bind (fun σ18 => some σ18)
set_option maxRecDepth 100000 in
set_option maxHeartbeats 4000000 in
theorem mX2_letPeopleWait {l : Launch} {G : Gm} {a0 : Nat} {σ : Sg} {σ' : Sg} (hk_a0 : gK G a0 = 3) (hf : fX2_letPeopleWait a0 σ = some σ') : Mv l G yX2_letPeopleWait cX2_letPeopleWait 2 3 86 [.ref (gB G + a0)] σ σ' := by
  refine of_W "RightKeys$Ring" rfl (by decide) (Nat.le_of_ble_eq_true rfl) ?_
  intro p e s m args below meth c Q hQ C hr hlk hW ls hl
  have h00 := hW.1
  have hl : lv_has ls 2 [(0, .ref (gB G + a0))] := hl
  delta fX2_letPeopleWait at hf
  have L2 : ∀ (n : Nat) (x1 : Int32) (σ : Sg) (H : Heap) (locs : List Loc) (ls : Array Slot) (out : (Sg)), iter (fun st => bX2_letPeopleWait_2 a0 st.1 st.2) n (x1, σ) = some out → Ws G σ s.heap H locs → lv_has ls 2 [(0, .ref (gB G + a0)), (1, .int x1)] → (∀ (σ : Sg) (H : Heap) (locs : List Loc) (ls : Array Slot), out = σ → Ws G σ s.heap H locs → lv_has ls 2 [] → W p l e (rmOf 3 86) s m args below meth c H locs 0 0 Q (F0 m 74 ls [])) → W p l e (rmOf 3 86) s m args below meth c H locs 0 0 Q (F0 m 2 ls []) := by
    intro n
    induction n with
    | zero =>
      intro x1 σ H locs ls out hf
      exact (it_0 hf).elim
    | succ n ih =>
      intro x1 σ H locs ls out hf hW hl K2_74
      obtain ⟨x, hf, hx⟩ := it_s hf
      have hf : bX2_letPeopleWait_2 a0 x1 σ = some x := hf
      delta bX2_letPeopleWait_2 at hf
      have J68 : ∀ (x1 : Int32) (σ : Sg) (H : Heap) (locs : List Loc) (ls : Array Slot), jX2_letPeopleWait_68 a0 x1 σ = some x → Ws G σ s.heap H locs → lv_has ls 2 [(0, .ref (gB G + a0)), (1, .int x1)] → W p l e (rmOf 3 86) s m args below meth c H locs 0 0 Q (F0 m 68 ls []) := by
        intro x1 σ H locs ls hf hW hl
        delta jX2_letPeopleWait_68 at hf
        refine lv_iinc (v := _) (lv' := [(1, .int _), (0, .ref _)]) C.1.1 C.1.2.1 dX2_letPeopleWait_68 hl (k := 1) rfl (ii (k := 1) (by decide)) (by decide) rfl (fun ls hl => ?_)
        refine lv_goto (tgt := 2) C.1.1 C.1.2.1 dX2_letPeopleWait_71 (by decide) ?_
        cases hf
        exact ih _ _ _ _ _ _ hx hW (lv_sub hl [1, 0] rfl) K2_74
      refine lv_iload_n C.1.1 C.1.2.1 dX2_letPeopleWait_2 rfl (lv_at hl 1 rfl) ?_
      refine lv_aload_n C.1.1 C.1.2.1 dX2_letPeopleWait_3 rfl (lv_at hl 0 rfl) ?_
      have hk1 := sh2_0 hW hk_a0
      refine gf2_0 C hW hk_a0 w_297 dX2_letPeopleWait_4 ?_
      refine gf3_0 C hW hk1 w_180 dX2_letPeopleWait_7 ?_
      refine lv_icmp_ge (tgt := 74) C.1.1 C.1.2.1 dX2_letPeopleWait_10 (by decide) (fun h9 => ?_) (fun h9 => ?_)
      · replace hf := (if_pos h9).symm.trans hf
        cases hf
        cases hx
        exact K2_74 _ _ _ _ rfl hW (lv_sub hl [] rfl)
      · replace hf := (if_neg h9).symm.trans hf
        refine lv_aload_n C.1.1 C.1.2.1 dX2_letPeopleWait_13 rfl (lv_at hl 0 rfl) ?_
        refine gf2_3 C hW hk_a0 w_302 dX2_letPeopleWait_14 ?_
        refine lv_if_eq (tgt := 74) C.1.1 C.1.2.1 dX2_letPeopleWait_17 (by decide) (fun h9 => ?_) (fun h9 => ?_)
        · replace hf := (if_pos h9).symm.trans hf
          cases hf
          cases hx
          exact K2_74 _ _ _ _ rfl hW (lv_sub hl [] rfl)
        · replace hf := (if_neg h9).symm.trans hf
          refine lv_aload_n C.1.1 C.1.2.1 dX2_letPeopleWait_20 rfl (lv_at hl 0 rfl) ?_
          refine gf2_3 C hW hk_a0 w_302 dX2_letPeopleWait_21 ?_
          refine lv_iload_n C.1.1 C.1.2.1 dX2_letPeopleWait_24 rfl (lv_at hl 1 rfl) ?_
          obtain ⟨⟨r4, σ3⟩, hc2, hf⟩ := bd hf
          try dsimp only at hf
          refine cNi C hW (mX6_bit hc2) ksX6_bit (by decide) ⟨(Nat.le_of_ble_eq_true rfl), (Nat.le_of_ble_eq_true rfl)⟩ ⟨Nat.zero_le _, Nat.zero_le _⟩ rfl hl.1 (rest := []) rfl (Nat.le_of_ble_eq_true rfl) dX2_letPeopleWait_25 (fun H locs hn5 hW => ?_)
          refine lv_iconst (v := 1) C.1.1 C.1.2.1 dX2_letPeopleWait_28 (by decide) ?_
          refine lv_icmp_ne (tgt := 68) C.1.1 C.1.2.1 dX2_letPeopleWait_29 (by decide) (fun h9 => ?_) (fun h9 => ?_)
          · replace hf := (if_neg h9).symm.trans hf
            exact J68 _ _ _ _ _ hf hW (lv_sub hl [0, 1] rfl)
          · replace hf := (if_pos h9).symm.trans hf
            refine lv_aload_n C.1.1 C.1.2.1 dX2_letPeopleWait_32 rfl (lv_at hl 0 rfl) ?_
            have hk8 := sh2_16 hW hk_a0
            refine gf2_16 C hW hk_a0 w_328 dX2_letPeopleWait_33 ?_
            refine lv_iload_n C.1.1 C.1.2.1 dX2_letPeopleWait_36 rfl (lv_at hl 1 rfl) ?_
            refine lv_dup2_11 C.1.1 C.1.2.1 dX2_letPeopleWait_37 rfl rfl ?_
            obtain ⟨hv9, hf⟩ := gd hf
            refine wai C hW hk8 (vin_p hv9) dX2_letPeopleWait_38 ?_
            refine lv_iconst (v := 1) C.1.1 C.1.2.1 dX2_letPeopleWait_39 (by decide) ?_
            refine lv_iadd C.1.1 C.1.2.1 dX2_letPeopleWait_40 ?_
            refine wsi C hW hk8 (vin_p hv9) dX2_letPeopleWait_41 (fun H locs hW => ?_)
            refine lv_aload_n C.1.1 C.1.2.1 dX2_letPeopleWait_42 rfl (lv_at hl 0 rfl) ?_
            refine gf2_7 C hW hk_a0 w_310 dX2_letPeopleWait_43 ?_
            refine lv_if_ne (tgt := 68) C.1.1 C.1.2.1 dX2_letPeopleWait_46 (by decide) (fun h9 => ?_) (fun h9 => ?_)
            · replace hf := (if_neg h9).symm.trans hf
              exact J68 _ _ _ _ _ hf hW (lv_sub hl [0, 1] rfl)
            · replace hf := (if_pos h9).symm.trans hf
              refine lv_aload_n C.1.1 C.1.2.1 dX2_letPeopleWait_49 rfl (lv_at hl 0 rfl) ?_
              refine lv_ldc (v := 99999) C.1.1 C.1.2.1 C.1.2.2.2.1 (C.w w_849) dX2_letPeopleWait_50 ?_
              refine lv_aload_n C.1.1 C.1.2.1 dX2_letPeopleWait_52 rfl (lv_at hl 0 rfl) ?_
              refine gf2_9 C hW hk_a0 w_314 dX2_letPeopleWait_53 ?_
              refine lv_aload_n C.1.1 C.1.2.1 dX2_letPeopleWait_56 rfl (lv_at hl 0 rfl) ?_
              refine lv_iload_n C.1.1 C.1.2.1 dX2_letPeopleWait_57 rfl (lv_at hl 1 rfl) ?_
              obtain ⟨⟨r13, σ12⟩, hc11, hf⟩ := bd hf
              try dsimp only at hf
              refine cVi C hW (mX2_quarrelOf hk_a0 hc11) hk_a0 kvX2_quarrelOf w_850 ⟨(Nat.le_of_ble_eq_true rfl), (Nat.le_of_ble_eq_true rfl)⟩ ⟨Nat.zero_le _, Nat.zero_le _⟩ rfl hl.1 (rest := [.int _, .int _, .ref _]) rfl (Nat.le_of_ble_eq_true rfl) dX2_letPeopleWait_58 (fun H locs hn14 hW => ?_)
              refine lv_iadd C.1.1 C.1.2.1 dX2_letPeopleWait_61 ?_
              refine cMin C w_708 w_559 w_121 w_560 hl.1 (Nat.le_of_ble_eq_true rfl) (Nat.le_of_ble_eq_true rfl) ⟨Nat.zero_le _, Nat.zero_le _⟩ dX2_letPeopleWait_62 ?_
              refine pf2_9 C hW hk_a0 w_314 dX2_letPeopleWait_65 (fun H locs hW => ?_)
              exact J68 _ _ _ _ _ hf hW (lv_sub hl [0, 1] rfl)
  refine lv_iconst (v := 0) C.1.1 C.1.2.1 dX2_letPeopleWait_0 (by decide) ?_
  refine lv_istore_n (lv' := [(1, .int _), (0, .ref _)]) C.1.1 C.1.2.1 dX2_letPeopleWait_1 rfl hl (by decide) rfl (fun ls hl => ?_)
  obtain ⟨o17, ho, hf⟩ := bd hf
  obtain ⟨n, ho⟩ := lp_it ho
  refine L2 n _ _ _ _ _ o17 ho hW (lv_sub hl [1, 0] rfl) ?_
  intro  σ18 H locs ls e9 hW hl
  subst e9
  try dsimp only at hf
  exact rv hQ C hr hlk hW hf dX2_letPeopleWait_74
theorem kvX2_passSparesOn : KV 2 "RightKeys$Ring" yX2_passSparesOn cX2_passSparesOn 2 none 0 := ⟨⟨w_814, w_30, w_114, w_815⟩, ⟨rfl, by decide, by decide, by decide +kernel⟩, by decide, rfl⟩
noncomputable def jX2_passSparesOn_55 (a0 : Nat) (x1 : Int32) (σ : Sg) : Option ((Int32 × Sg) ⊕ (Sg)) := (let x1_4 := x1 + (1 : Int32); some (Sum.inl (x1_4, σ)))
noncomputable def bX2_passSparesOn_2 (a0 : Nat) (x1 : Int32) (σ : Sg) : Option ((Int32 × Sg) ⊕ (Sg)) := if (σ.1 (σ.2.2.1 a0 0) 1) ≤ x1 then (some (Sum.inr σ)) else (if vin x1 6 then (if (σ.1 (a0 + 8) ((x1).toNatClampNeg)) = (-2 : Int32) then (jX2_passSparesOn_55 a0 x1 σ) else (if (σ.1 (a0 + 8) ((x1).toNatClampNeg)) = (σ.1 (a0 + 7) ((x1).toNatClampNeg)) then (jX2_passSparesOn_55 a0 x1 σ) else ((fX2_rightOf a0 (σ.1 (a0 + 7) ((x1).toNatClampNeg)) σ).bind (fun q13 => let r11 := q13.1; let σ10 := q13.2; (let σ14 := wI σ10 (a0 + 7) ((x1).toNatClampNeg) r11; jX2_passSparesOn_55 a0 x1 σ14))))) else none)
noncomputable def fX2_passSparesOn (a0 : Nat) (σ : Sg) : Option (Sg) := (lp (fun st => bX2_passSparesOn_2 a0 st.1 st.2) ((0 : Int32), σ)).bind (fun σ16 => some σ16)
set_option maxRecDepth 100000 in
set_option maxHeartbeats 4000000 in
theorem mX2_passSparesOn {l : Launch} {G : Gm} {a0 : Nat} {σ : Sg} {σ' : Sg} (hk_a0 : gK G a0 = 3) (hf : fX2_passSparesOn a0 σ = some σ') : Mv l G yX2_passSparesOn cX2_passSparesOn 2 1 21 [.ref (gB G + a0)] σ σ' := by
  refine of_W "RightKeys$Ring" rfl (by decide) (Nat.le_of_ble_eq_true rfl) ?_
  intro p e s m args below meth c Q hQ C hr hlk hW ls hl
  have h00 := hW.1
  have hl : lv_has ls 2 [(0, .ref (gB G + a0))] := hl
  delta fX2_passSparesOn at hf
  have L2 : ∀ (n : Nat) (x1 : Int32) (σ : Sg) (H : Heap) (locs : List Loc) (ls : Array Slot) (out : (Sg)), iter (fun st => bX2_passSparesOn_2 a0 st.1 st.2) n (x1, σ) = some out → Ws G σ s.heap H locs → lv_has ls 2 [(0, .ref (gB G + a0)), (1, .int x1)] → (∀ (σ : Sg) (H : Heap) (locs : List Loc) (ls : Array Slot), out = σ → Ws G σ s.heap H locs → lv_has ls 2 [] → W p l e (rmOf 1 21) s m args below meth c H locs 0 0 Q (F0 m 61 ls [])) → W p l e (rmOf 1 21) s m args below meth c H locs 0 0 Q (F0 m 2 ls []) := by
    intro n
    induction n with
    | zero =>
      intro x1 σ H locs ls out hf
      exact (it_0 hf).elim
    | succ n ih =>
      intro x1 σ H locs ls out hf hW hl K2_61
      obtain ⟨x, hf, hx⟩ := it_s hf
      have hf : bX2_passSparesOn_2 a0 x1 σ = some x := hf
      delta bX2_passSparesOn_2 at hf
      have J55 : ∀ (x1 : Int32) (σ : Sg) (H : Heap) (locs : List Loc) (ls : Array Slot), jX2_passSparesOn_55 a0 x1 σ = some x → Ws G σ s.heap H locs → lv_has ls 2 [(0, .ref (gB G + a0)), (1, .int x1)] → W p l e (rmOf 1 21) s m args below meth c H locs 0 0 Q (F0 m 55 ls []) := by
        intro x1 σ H locs ls hf hW hl
        delta jX2_passSparesOn_55 at hf
        refine lv_iinc (v := _) (lv' := [(1, .int _), (0, .ref _)]) C.1.1 C.1.2.1 dX2_passSparesOn_55 hl (k := 1) rfl (ii (k := 1) (by decide)) (by decide) rfl (fun ls hl => ?_)
        refine lv_goto (tgt := 2) C.1.1 C.1.2.1 dX2_passSparesOn_58 (by decide) ?_
        cases hf
        exact ih _ _ _ _ _ _ hx hW (lv_sub hl [1, 0] rfl) K2_61
      refine lv_iload_n C.1.1 C.1.2.1 dX2_passSparesOn_2 rfl (lv_at hl 1 rfl) ?_
      refine lv_aload_n C.1.1 C.1.2.1 dX2_passSparesOn_3 rfl (lv_at hl 0 rfl) ?_
      have hk1 := sh2_0 hW hk_a0
      refine gf2_0 C hW hk_a0 w_297 dX2_passSparesOn_4 ?_
      refine gf3_1 C hW hk1 w_185 dX2_passSparesOn_7 ?_
      refine lv_icmp_ge (tgt := 61) C.1.1 C.1.2.1 dX2_passSparesOn_10 (by decide) (fun h9 => ?_) (fun h9 => ?_)
      · replace hf := (if_pos h9).symm.trans hf
        cases hf
        cases hx
        exact K2_61 _ _ _ _ rfl hW (lv_sub hl [] rfl)
      · replace hf := (if_neg h9).symm.trans hf
        refine lv_aload_n C.1.1 C.1.2.1 dX2_passSparesOn_13 rfl (lv_at hl 0 rfl) ?_
        have hk2 := sh2_19 hW hk_a0
        refine gf2_19 C hW hk_a0 w_334 dX2_passSparesOn_14 ?_
        refine lv_iload_n C.1.1 C.1.2.1 dX2_passSparesOn_17 rfl (lv_at hl 1 rfl) ?_
        obtain ⟨hv3, hf⟩ := gd hf
        refine wai C hW hk2 (vin_p hv3) dX2_passSparesOn_18 ?_
        refine lv_bipush (v := (-2)) C.1.1 C.1.2.1 dX2_passSparesOn_19 (by decide) ?_
        refine lv_icmp_eq (tgt := 55) C.1.1 C.1.2.1 dX2_passSparesOn_21 (by decide) (fun h9 => ?_) (fun h9 => ?_)
        · replace hf := (if_pos h9).symm.trans hf
          exact J55 _ _ _ _ _ hf hW (lv_sub hl [0, 1] rfl)
        · replace hf := (if_neg h9).symm.trans hf
          refine lv_aload_n C.1.1 C.1.2.1 dX2_passSparesOn_24 rfl (lv_at hl 0 rfl) ?_
          have hk5 := sh2_19 hW hk_a0
          refine gf2_19 C hW hk_a0 w_334 dX2_passSparesOn_25 ?_
          refine lv_iload_n C.1.1 C.1.2.1 dX2_passSparesOn_28 rfl (lv_at hl 1 rfl) ?_
          refine wai C hW hk5 (vin_p hv3) dX2_passSparesOn_29 ?_
          refine lv_aload_n C.1.1 C.1.2.1 dX2_passSparesOn_30 rfl (lv_at hl 0 rfl) ?_
          have hk6 := sh2_18 hW hk_a0
          refine gf2_18 C hW hk_a0 w_332 dX2_passSparesOn_31 ?_
          refine lv_iload_n C.1.1 C.1.2.1 dX2_passSparesOn_34 rfl (lv_at hl 1 rfl) ?_
          refine wai C hW hk6 (vin_p hv3) dX2_passSparesOn_35 ?_
          refine lv_icmp_eq (tgt := 55) C.1.1 C.1.2.1 dX2_passSparesOn_36 (by decide) (fun h9 => ?_) (fun h9 => ?_)
          · replace hf := (if_pos h9).symm.trans hf
            exact J55 _ _ _ _ _ hf hW (lv_sub hl [0, 1] rfl)
          · replace hf := (if_neg h9).symm.trans hf
            refine lv_aload_n C.1.1 C.1.2.1 dX2_passSparesOn_39 rfl (lv_at hl 0 rfl) ?_
            have hk7 := sh2_18 hW hk_a0
            refine gf2_18 C hW hk_a0 w_332 dX2_passSparesOn_40 ?_
            refine lv_iload_n C.1.1 C.1.2.1 dX2_passSparesOn_43 rfl (lv_at hl 1 rfl) ?_
            refine lv_aload_n C.1.1 C.1.2.1 dX2_passSparesOn_44 rfl (lv_at hl 0 rfl) ?_
            refine lv_aload_n C.1.1 C.1.2.1 dX2_passSparesOn_45 rfl (lv_at hl 0 rfl) ?_
            have hk8 := sh2_18 hW hk_a0
            refine gf2_18 C hW hk_a0 w_332 dX2_passSparesOn_46 ?_
            refine lv_iload_n C.1.1 C.1.2.1 dX2_passSparesOn_49 rfl (lv_at hl 1 rfl) ?_
            refine wai C hW hk8 (vin_p hv3) dX2_passSparesOn_50 ?_
            obtain ⟨⟨r11, σ10⟩, hc9, hf⟩ := bd hf
            try dsimp only at hf
            refine cVi C hW (mX2_rightOf hk_a0 hc9) hk_a0 kvX2_rightOf w_738 ⟨(Nat.le_of_ble_eq_true rfl), (Nat.le_of_ble_eq_true rfl)⟩ ⟨Nat.zero_le _, Nat.zero_le _⟩ rfl hl.1 (rest := [.int _, .ref _]) rfl (Nat.le_of_ble_eq_true rfl) dX2_passSparesOn_51 (fun H locs hn12 hW => ?_)
            refine wsi C hW hk7 (vin_p hv3) dX2_passSparesOn_54 (fun H locs hW => ?_)
            exact J55 _ _ _ _ _ hf hW (lv_sub hl [0, 1] rfl)
  refine lv_iconst (v := 0) C.1.1 C.1.2.1 dX2_passSparesOn_0 (by decide) ?_
  refine lv_istore_n (lv' := [(1, .int _), (0, .ref _)]) C.1.1 C.1.2.1 dX2_passSparesOn_1 rfl hl (by decide) rfl (fun ls hl => ?_)
  obtain ⟨o15, ho, hf⟩ := bd hf
  obtain ⟨n, ho⟩ := lp_it ho
  refine L2 n _ _ _ _ _ o15 ho hW (lv_sub hl [1, 0] rfl) ?_
  intro  σ16 H locs ls e9 hW hl
  subst e9
  try dsimp only at hf
  exact rv hQ C hr hlk hW hf dX2_passSparesOn_61
theorem kvX2_goThroughHour : KV 2 "RightKeys$Ring" yX2_goThroughHour cX2_goThroughHour 2 none 0 := ⟨⟨w_809, w_810, w_114, w_811⟩, ⟨rfl, by decide, by decide, by decide +kernel⟩, by decide, rfl⟩
noncomputable def jX2_goThroughHour_14 (a0 : Nat) (σ : Sg) : Option (Sg) := (fX2_letPeopleGo a0 σ).bind (fun q5 => let r3 := q5.1; let σ2 := q5.2; (fX2_letPeopleCome a0 r3 σ2).bind (fun σ7 => (fX2_letPeopleIn a0 σ7).bind (fun σ12 => (fX2_letPeopleWait a0 σ12).bind (fun σ17 => (let σ21 := wI σ17 a0 1 ((σ17.1 a0 1) + (1 : Int32)); some σ21)))))
noncomputable def fX2_goThroughHour (a0 : Nat) (σ : Sg) : Option (Sg) := if (irem (σ.1 a0 1) (24 : Int32)) = 0 then ((fX2_passSparesOn a0 σ).bind (fun σ23 => jX2_goThroughHour_14 a0 σ23)) else (jX2_goThroughHour_14 a0 σ)
set_option maxRecDepth 100000 in
set_option maxHeartbeats 4000000 in
theorem mX2_goThroughHour {l : Launch} {G : Gm} {a0 : Nat} {σ : Sg} {σ' : Sg} (hk_a0 : gK G a0 = 3) (hf : fX2_goThroughHour a0 σ = some σ') : Mv l G yX2_goThroughHour cX2_goThroughHour 2 5 134 [.ref (gB G + a0)] σ σ' := by
  refine of_W "RightKeys$Ring" rfl (by decide) (Nat.le_of_ble_eq_true rfl) ?_
  intro p e s m args below meth c Q hQ C hr hlk hW ls hl
  have h00 := hW.1
  have hl : lv_has ls 2 [(0, .ref (gB G + a0))] := hl
  delta fX2_goThroughHour at hf
  have J14 : ∀ (σ : Sg) (H : Heap) (locs : List Loc) (ls : Array Slot), jX2_goThroughHour_14 a0 σ = some σ' → Ws G σ s.heap H locs → lv_has ls 2 [(0, .ref (gB G + a0))] → W p l e (rmOf 5 134) s m args below meth c H locs 0 0 Q (F0 m 14 ls []) := by
    intro σ H locs ls hf hW hl
    delta jX2_goThroughHour_14 at hf
    refine lv_aload_n C.1.1 C.1.2.1 dX2_goThroughHour_14 rfl (lv_at hl 0 rfl) ?_
    obtain ⟨⟨r3, σ2⟩, hc1, hf⟩ := bd hf
    try dsimp only at hf
    refine cVi C hW (mX2_letPeopleGo hk_a0 hc1) hk_a0 kvX2_letPeopleGo w_816 ⟨(Nat.le_of_ble_eq_true rfl), (Nat.le_of_ble_eq_true rfl)⟩ ⟨Nat.zero_le _, Nat.zero_le _⟩ rfl hl.1 (rest := []) rfl (Nat.le_of_ble_eq_true rfl) dX2_goThroughHour_15 (fun H locs hn4 hW => ?_)
    refine lv_istore_n (lv' := [(1, .int _), (0, .ref _)]) C.1.1 C.1.2.1 dX2_goThroughHour_18 rfl hl (by decide) rfl (fun ls hl => ?_)
    refine lv_aload_n C.1.1 C.1.2.1 dX2_goThroughHour_19 rfl (lv_at hl 1 rfl) ?_
    refine lv_iload_n C.1.1 C.1.2.1 dX2_goThroughHour_20 rfl (lv_at hl 0 rfl) ?_
    obtain ⟨σ7, hc6, hf⟩ := bd hf
    try dsimp only at hf
    refine cVv C hW (mX2_letPeopleCome hk_a0 hc6) hk_a0 kvX2_letPeopleCome w_820 ⟨(Nat.le_of_ble_eq_true rfl), (Nat.le_of_ble_eq_true rfl)⟩ ⟨Nat.zero_le _, Nat.zero_le _⟩ rfl hl.1 (rest := []) rfl (Nat.le_of_ble_eq_true rfl) dX2_goThroughHour_21 (fun H locs hW => ?_)
    refine lv_aload_n C.1.1 C.1.2.1 dX2_goThroughHour_24 rfl (lv_at hl 1 rfl) ?_
    obtain ⟨σ12, hc11, hf⟩ := bd hf
    try dsimp only at hf
    refine cVv C hW (mX2_letPeopleIn hk_a0 hc11) hk_a0 kvX2_letPeopleIn w_832 ⟨(Nat.le_of_ble_eq_true rfl), (Nat.le_of_ble_eq_true rfl)⟩ ⟨Nat.zero_le _, Nat.zero_le _⟩ rfl hl.1 (rest := []) rfl (Nat.le_of_ble_eq_true rfl) dX2_goThroughHour_25 (fun H locs hW => ?_)
    refine lv_aload_n C.1.1 C.1.2.1 dX2_goThroughHour_28 rfl (lv_at hl 1 rfl) ?_
    obtain ⟨σ17, hc16, hf⟩ := bd hf
    try dsimp only at hf
    refine cVv C hW (mX2_letPeopleWait hk_a0 hc16) hk_a0 kvX2_letPeopleWait w_845 ⟨(Nat.le_of_ble_eq_true rfl), (Nat.le_of_ble_eq_true rfl)⟩ ⟨Nat.zero_le _, Nat.zero_le _⟩ rfl hl.1 (rest := []) rfl (Nat.le_of_ble_eq_true rfl) dX2_goThroughHour_29 (fun H locs hW => ?_)
    refine lv_aload_n C.1.1 C.1.2.1 dX2_goThroughHour_32 rfl (lv_at hl 1 rfl) ?_
    refine lv_dup C.1.1 C.1.2.1 dX2_goThroughHour_33 rfl ?_
    refine gf2_1 C hW hk_a0 w_298 dX2_goThroughHour_34 ?_
    refine lv_iconst (v := 1) C.1.1 C.1.2.1 dX2_goThroughHour_37 (by decide) ?_
    refine lv_iadd C.1.1 C.1.2.1 dX2_goThroughHour_38 ?_
    refine pf2_1 C hW hk_a0 w_298 dX2_goThroughHour_39 (fun H locs hW => ?_)
    exact rv hQ C hr hlk hW hf dX2_goThroughHour_42
  refine lv_aload_n C.1.1 C.1.2.1 dX2_goThroughHour_0 rfl (lv_at hl 0 rfl) ?_
  refine gf2_1 C hW hk_a0 w_298 dX2_goThroughHour_1 ?_
  refine lv_bipush (v := 24) C.1.1 C.1.2.1 dX2_goThroughHour_4 (by decide) ?_
  refine lv_irem C.1.1 C.1.2.1 dX2_goThroughHour_6 (by decide) ?_
  refine lv_if_ne (tgt := 14) C.1.1 C.1.2.1 dX2_goThroughHour_7 (by decide) (fun h9 => ?_) (fun h9 => ?_)
  · replace hf := (if_neg h9).symm.trans hf
    exact J14 _ _ _ _ hf hW (lv_sub hl [0] rfl)
  · replace hf := (if_pos h9).symm.trans hf
    refine lv_aload_n C.1.1 C.1.2.1 dX2_goThroughHour_10 rfl (lv_at hl 0 rfl) ?_
    obtain ⟨σ23, hc22, hf⟩ := bd hf
    try dsimp only at hf
    refine cVv C hW (mX2_passSparesOn hk_a0 hc22) hk_a0 kvX2_passSparesOn w_812 ⟨(Nat.le_of_ble_eq_true rfl), (Nat.le_of_ble_eq_true rfl)⟩ ⟨Nat.zero_le _, Nat.zero_le _⟩ rfl hl.1 (rest := []) rfl (Nat.le_of_ble_eq_true rfl) dX2_goThroughHour_11 (fun H locs hW => ?_)
    exact J14 _ _ _ _ hf hW (lv_sub hl [0] rfl)
theorem kvX2_bothIn : KV 2 "RightKeys$Ring" yX2_bothIn cX2_bothIn 3 (some .boolean) 2 := ⟨⟨w_794, w_795, w_114, w_796⟩, ⟨rfl, by decide, by decide, by decide +kernel⟩, by decide, rfl⟩
noncomputable def fX2_bothIn (a0 : Nat) (p1 : Int32) (p2 : Int32) (σ : Sg) : Option (Int32 × Sg) := (fX6_bit (σ.1 a0 2) p1 σ).bind (fun q5 => let r3 := q5.1; let σ2 := q5.2; if r3 = (1 : Int32) then ((fX6_bit (σ2.1 a0 2) p2 σ2).bind (fun q10 => let r8 := q10.1; let σ7 := q10.2; if r8 = (1 : Int32) then (some ((1 : Int32), σ7)) else (some ((0 : Int32), σ7)))) else (some ((0 : Int32), σ2)))
set_option maxRecDepth 100000 in
set_option maxHeartbeats 4000000 in
theorem mX2_bothIn {l : Launch} {G : Gm} {a0 : Nat} {p1 : Int32} {p2 : Int32} {σ : Sg} {r : Int32} {σ' : Sg} (hk_a0 : gK G a0 = 3) (hf : fX2_bothIn a0 p1 p2 σ = some (r, σ')) : Mi l G yX2_bothIn cX2_bothIn 3 .boolean 1 21 [.ref (gB G + a0), .int p1, .int p2] σ r σ' := by
  refine of_W "RightKeys$Ring" rfl (by decide) (Nat.le_of_ble_eq_true rfl) ?_
  intro p e s m args below meth c Q hQ C hr hlk hW ls hl
  have h00 := hW.1
  have hl : lv_has ls 3 [(0, .ref (gB G + a0)), (1, .int p1), (2, .int p2)] := hl
  delta fX2_bothIn at hf
  refine lv_aload_n C.1.1 C.1.2.1 dX2_bothIn_0 rfl (lv_at hl 0 rfl) ?_
  refine gf2_2 C hW hk_a0 w_300 dX2_bothIn_1 ?_
  refine lv_iload_n C.1.1 C.1.2.1 dX2_bothIn_4 rfl (lv_at hl 1 rfl) ?_
  obtain ⟨⟨r3, σ2⟩, hc1, hf⟩ := bd hf
  try dsimp only at hf
  refine cNi C hW (mX6_bit hc1) ksX6_bit (by decide) ⟨(Nat.le_of_ble_eq_true rfl), (Nat.le_of_ble_eq_true rfl)⟩ ⟨Nat.zero_le _, Nat.zero_le _⟩ rfl hl.1 (rest := []) rfl (Nat.le_of_ble_eq_true rfl) dX2_bothIn_5 (fun H locs hn4 hW => ?_)
  refine lv_iconst (v := 1) C.1.1 C.1.2.1 dX2_bothIn_8 (by decide) ?_
  refine lv_icmp_ne (tgt := 28) C.1.1 C.1.2.1 dX2_bothIn_9 (by decide) (fun h9 => ?_) (fun h9 => ?_)
  · replace hf := (if_neg h9).symm.trans hf
    refine lv_iconst (v := 0) C.1.1 C.1.2.1 dX2_bothIn_28 (by decide) ?_
    exact ri hQ C hr hlk hW hf (rok_z (Or.inl rfl)) dX2_bothIn_29
  · replace hf := (if_pos h9).symm.trans hf
    refine lv_aload_n C.1.1 C.1.2.1 dX2_bothIn_12 rfl (lv_at hl 0 rfl) ?_
    refine gf2_2 C hW hk_a0 w_300 dX2_bothIn_13 ?_
    refine lv_iload_n C.1.1 C.1.2.1 dX2_bothIn_16 rfl (lv_at hl 2 rfl) ?_
    obtain ⟨⟨r8, σ7⟩, hc6, hf⟩ := bd hf
    try dsimp only at hf
    refine cNi C hW (mX6_bit hc6) ksX6_bit (by decide) ⟨(Nat.le_of_ble_eq_true rfl), (Nat.le_of_ble_eq_true rfl)⟩ ⟨Nat.zero_le _, Nat.zero_le _⟩ rfl hl.1 (rest := []) rfl (Nat.le_of_ble_eq_true rfl) dX2_bothIn_17 (fun H locs hn9 hW => ?_)
    refine lv_iconst (v := 1) C.1.1 C.1.2.1 dX2_bothIn_20 (by decide) ?_
    refine lv_icmp_ne (tgt := 28) C.1.1 C.1.2.1 dX2_bothIn_21 (by decide) (fun h9 => ?_) (fun h9 => ?_)
    · replace hf := (if_neg h9).symm.trans hf
      refine lv_iconst (v := 0) C.1.1 C.1.2.1 dX2_bothIn_28 (by decide) ?_
      exact ri hQ C hr hlk hW hf (rok_z (Or.inl rfl)) dX2_bothIn_29
    · replace hf := (if_pos h9).symm.trans hf
      refine lv_iconst (v := 1) C.1.1 C.1.2.1 dX2_bothIn_24 (by decide) ?_
      refine lv_goto (tgt := 29) C.1.1 C.1.2.1 dX2_bothIn_25 (by decide) ?_
      exact ri hQ C hr hlk hW hf (rok_z (Or.inr rfl)) dX2_bothIn_29
theorem ksX2_swap : KS yX2_swap cX2_swap 4 none 3 := ⟨⟨w_802, w_114, w_803⟩, ⟨by decide, by decide, by decide +kernel⟩⟩
noncomputable def fX2_swap (a0 : Nat) (p1 : Int32) (p2 : Int32) (σ : Sg) : Option (Sg) := if vin p1 8 then ((let x3_2 := (σ.1 a0 ((p1).toNatClampNeg)); if vin p2 8 then ((let σ4 := wI σ a0 ((p1).toNatClampNeg) (σ.1 a0 ((p2).toNatClampNeg)); let σ5 := wI σ4 a0 ((p2).toNatClampNeg) x3_2; some σ5)) else none)) else none
set_option maxRecDepth 100000 in
set_option maxHeartbeats 4000000 in
theorem mX2_swap {l : Launch} {G : Gm} {a0 : Nat} {p1 : Int32} {p2 : Int32} {σ : Sg} {σ' : Sg} (hk_a0 : gK G a0 = kA 1 8) (hf : fX2_swap a0 p1 p2 σ = some σ') : Mv l G yX2_swap cX2_swap 4 0 0 [.ref (gB G + a0), .int p1, .int p2] σ σ' := by
  refine of_W "RightKeys$Ring" rfl (by decide) (Nat.le_of_ble_eq_true rfl) ?_
  intro p e s m args below meth c Q hQ C hr hlk hW ls hl
  have h00 := hW.1
  have hl : lv_has ls 4 [(0, .ref (gB G + a0)), (1, .int p1), (2, .int p2)] := hl
  delta fX2_swap at hf
  refine lv_aload_n C.1.1 C.1.2.1 dX2_swap_0 rfl (lv_at hl 0 rfl) ?_
  refine lv_iload_n C.1.1 C.1.2.1 dX2_swap_1 rfl (lv_at hl 1 rfl) ?_
  obtain ⟨hv1, hf⟩ := gd hf
  refine wai C hW hk_a0 (vin_p hv1) dX2_swap_2 ?_
  refine lv_istore_n (lv' := [(3, .int _), (0, .ref _), (1, .int _), (2, .int _)]) C.1.1 C.1.2.1 dX2_swap_3 rfl hl (by decide) rfl (fun ls hl => ?_)
  refine lv_aload_n C.1.1 C.1.2.1 dX2_swap_4 rfl (lv_at hl 1 rfl) ?_
  refine lv_iload_n C.1.1 C.1.2.1 dX2_swap_5 rfl (lv_at hl 2 rfl) ?_
  refine lv_aload_n C.1.1 C.1.2.1 dX2_swap_6 rfl (lv_at hl 1 rfl) ?_
  refine lv_iload_n C.1.1 C.1.2.1 dX2_swap_7 rfl (lv_at hl 3 rfl) ?_
  obtain ⟨hv3, hf⟩ := gd hf
  refine wai C hW hk_a0 (vin_p hv3) dX2_swap_8 ?_
  refine wsi C hW hk_a0 (vin_p hv1) dX2_swap_9 (fun H locs hW => ?_)
  refine lv_aload_n C.1.1 C.1.2.1 dX2_swap_10 rfl (lv_at hl 1 rfl) ?_
  refine lv_iload_n C.1.1 C.1.2.1 dX2_swap_11 rfl (lv_at hl 3 rfl) ?_
  refine lv_iload_n C.1.1 C.1.2.1 dX2_swap_12 rfl (lv_at hl 0 rfl) ?_
  refine wsi C hW hk_a0 (vin_p hv3) dX2_swap_13 (fun H locs hW => ?_)
  exact rv hQ C hr hlk hW hf dX2_swap_14
theorem kvX2_swapPeople : KV 2 "RightKeys$Ring" yX2_swapPeople cX2_swapPeople 3 none 2 := ⟨⟨w_798, w_799, w_114, w_800⟩, ⟨rfl, by decide, by decide, by decide +kernel⟩, by decide, rfl⟩
noncomputable def fX2_swapPeople (a0 : Nat) (p1 : Int32) (p2 : Int32) (σ : Sg) : Option (Sg) := (fX2_swap (a0 + 1) p1 p2 σ).bind (fun σ3 => (fX2_swap (a0 + 2) p1 p2 σ3).bind (fun σ9 => (fX2_swap (a0 + 3) p1 p2 σ9).bind (fun σ15 => (fX2_swap (a0 + 4) p1 p2 σ15).bind (fun σ21 => (fX6_bit (σ21.1 a0 4) p1 σ21).bind (fun q29 => let r27 := q29.1; let σ26 := q29.2; (fX6_bit (σ26.1 a0 4) p2 σ26).bind (fun q34 => let r32 := q34.1; let σ31 := q34.2; if r27 = r32 then (some σ31) else ((let σ35 := wI σ31 a0 4 ((σ31.1 a0 4) ^^^ (((1 : Int32) <<< (p1 &&& 31)) ||| ((1 : Int32) <<< (p2 &&& 31)))); some σ35))))))))
set_option maxRecDepth 100000 in
set_option maxHeartbeats 4000000 in
theorem mX2_swapPeople {l : Launch} {G : Gm} {a0 : Nat} {p1 : Int32} {p2 : Int32} {σ : Sg} {σ' : Sg} (hk_a0 : gK G a0 = 3) (hf : fX2_swapPeople a0 p1 p2 σ = some σ') : Mv l G yX2_swapPeople cX2_swapPeople 3 1 23 [.ref (gB G + a0), .int p1, .int p2] σ σ' := by
  refine of_W "RightKeys$Ring" rfl (by decide) (Nat.le_of_ble_eq_true rfl) ?_
  intro p e s m args below meth c Q hQ C hr hlk hW ls hl
  have h00 := hW.1
  have hl : lv_has ls 3 [(0, .ref (gB G + a0)), (1, .int p1), (2, .int p2)] := hl
  delta fX2_swapPeople at hf
  refine lv_aload_n C.1.1 C.1.2.1 dX2_swapPeople_0 rfl (lv_at hl 0 rfl) ?_
  have hk1 := sh2_12 hW hk_a0
  refine gf2_12 C hW hk_a0 w_320 dX2_swapPeople_1 ?_
  refine lv_iload_n C.1.1 C.1.2.1 dX2_swapPeople_4 rfl (lv_at hl 1 rfl) ?_
  refine lv_iload_n C.1.1 C.1.2.1 dX2_swapPeople_5 rfl (lv_at hl 2 rfl) ?_
  obtain ⟨σ3, hc2, hf⟩ := bd hf
  try dsimp only at hf
  refine cSv C hW (mX2_swap hk1 hc2) ksX2_swap w_801 ⟨(Nat.le_of_ble_eq_true rfl), (Nat.le_of_ble_eq_true rfl)⟩ ⟨Nat.zero_le _, Nat.zero_le _⟩ rfl hl.1 (rest := []) rfl (Nat.le_of_ble_eq_true rfl) dX2_swapPeople_6 (fun H locs hW => ?_)
  refine lv_aload_n C.1.1 C.1.2.1 dX2_swapPeople_9 rfl (lv_at hl 0 rfl) ?_
  have hk7 := sh2_13 hW hk_a0
  refine gf2_13 C hW hk_a0 w_322 dX2_swapPeople_10 ?_
  refine lv_iload_n C.1.1 C.1.2.1 dX2_swapPeople_13 rfl (lv_at hl 1 rfl) ?_
  refine lv_iload_n C.1.1 C.1.2.1 dX2_swapPeople_14 rfl (lv_at hl 2 rfl) ?_
  obtain ⟨σ9, hc8, hf⟩ := bd hf
  try dsimp only at hf
  refine cSv C hW (mX2_swap hk7 hc8) ksX2_swap w_801 ⟨(Nat.le_of_ble_eq_true rfl), (Nat.le_of_ble_eq_true rfl)⟩ ⟨Nat.zero_le _, Nat.zero_le _⟩ rfl hl.1 (rest := []) rfl (Nat.le_of_ble_eq_true rfl) dX2_swapPeople_15 (fun H locs hW => ?_)
  refine lv_aload_n C.1.1 C.1.2.1 dX2_swapPeople_18 rfl (lv_at hl 0 rfl) ?_
  have hk13 := sh2_14 hW hk_a0
  refine gf2_14 C hW hk_a0 w_324 dX2_swapPeople_19 ?_
  refine lv_iload_n C.1.1 C.1.2.1 dX2_swapPeople_22 rfl (lv_at hl 1 rfl) ?_
  refine lv_iload_n C.1.1 C.1.2.1 dX2_swapPeople_23 rfl (lv_at hl 2 rfl) ?_
  obtain ⟨σ15, hc14, hf⟩ := bd hf
  try dsimp only at hf
  refine cSv C hW (mX2_swap hk13 hc14) ksX2_swap w_801 ⟨(Nat.le_of_ble_eq_true rfl), (Nat.le_of_ble_eq_true rfl)⟩ ⟨Nat.zero_le _, Nat.zero_le _⟩ rfl hl.1 (rest := []) rfl (Nat.le_of_ble_eq_true rfl) dX2_swapPeople_24 (fun H locs hW => ?_)
  refine lv_aload_n C.1.1 C.1.2.1 dX2_swapPeople_27 rfl (lv_at hl 0 rfl) ?_
  have hk19 := sh2_15 hW hk_a0
  refine gf2_15 C hW hk_a0 w_326 dX2_swapPeople_28 ?_
  refine lv_iload_n C.1.1 C.1.2.1 dX2_swapPeople_31 rfl (lv_at hl 1 rfl) ?_
  refine lv_iload_n C.1.1 C.1.2.1 dX2_swapPeople_32 rfl (lv_at hl 2 rfl) ?_
  obtain ⟨σ21, hc20, hf⟩ := bd hf
  try dsimp only at hf
  refine cSv C hW (mX2_swap hk19 hc20) ksX2_swap w_801 ⟨(Nat.le_of_ble_eq_true rfl), (Nat.le_of_ble_eq_true rfl)⟩ ⟨Nat.zero_le _, Nat.zero_le _⟩ rfl hl.1 (rest := []) rfl (Nat.le_of_ble_eq_true rfl) dX2_swapPeople_33 (fun H locs hW => ?_)
  refine lv_aload_n C.1.1 C.1.2.1 dX2_swapPeople_36 rfl (lv_at hl 0 rfl) ?_
  refine gf2_4 C hW hk_a0 w_305 dX2_swapPeople_37 ?_
  refine lv_iload_n C.1.1 C.1.2.1 dX2_swapPeople_40 rfl (lv_at hl 1 rfl) ?_
  obtain ⟨⟨r27, σ26⟩, hc25, hf⟩ := bd hf
  try dsimp only at hf
  refine cNi C hW (mX6_bit hc25) ksX6_bit (by decide) ⟨(Nat.le_of_ble_eq_true rfl), (Nat.le_of_ble_eq_true rfl)⟩ ⟨Nat.zero_le _, Nat.zero_le _⟩ rfl hl.1 (rest := []) rfl (Nat.le_of_ble_eq_true rfl) dX2_swapPeople_41 (fun H locs hn28 hW => ?_)
  refine lv_aload_n C.1.1 C.1.2.1 dX2_swapPeople_44 rfl (lv_at hl 0 rfl) ?_
  refine gf2_4 C hW hk_a0 w_305 dX2_swapPeople_45 ?_
  refine lv_iload_n C.1.1 C.1.2.1 dX2_swapPeople_48 rfl (lv_at hl 2 rfl) ?_
  obtain ⟨⟨r32, σ31⟩, hc30, hf⟩ := bd hf
  try dsimp only at hf
  refine cNi C hW (mX6_bit hc30) ksX6_bit (by decide) ⟨(Nat.le_of_ble_eq_true rfl), (Nat.le_of_ble_eq_true rfl)⟩ ⟨Nat.zero_le _, Nat.zero_le _⟩ rfl hl.1 (rest := [.int _]) rfl (Nat.le_of_ble_eq_true rfl) dX2_swapPeople_49 (fun H locs hn33 hW => ?_)
  refine lv_icmp_eq (tgt := 71) C.1.1 C.1.2.1 dX2_swapPeople_52 (by decide) (fun h9 => ?_) (fun h9 => ?_)
  · replace hf := (if_pos h9).symm.trans hf
    exact rv hQ C hr hlk hW hf dX2_swapPeople_71
  · replace hf := (if_neg h9).symm.trans hf
    refine lv_aload_n C.1.1 C.1.2.1 dX2_swapPeople_55 rfl (lv_at hl 0 rfl) ?_
    refine lv_dup C.1.1 C.1.2.1 dX2_swapPeople_56 rfl ?_
    refine gf2_4 C hW hk_a0 w_305 dX2_swapPeople_57 ?_
    refine lv_iconst (v := 1) C.1.1 C.1.2.1 dX2_swapPeople_60 (by decide) ?_
    refine lv_iload_n C.1.1 C.1.2.1 dX2_swapPeople_61 rfl (lv_at hl 1 rfl) ?_
    refine lv_ishl C.1.1 C.1.2.1 dX2_swapPeople_62 ?_
    refine lv_iconst (v := 1) C.1.1 C.1.2.1 dX2_swapPeople_63 (by decide) ?_
    refine lv_iload_n C.1.1 C.1.2.1 dX2_swapPeople_64 rfl (lv_at hl 2 rfl) ?_
    refine lv_ishl C.1.1 C.1.2.1 dX2_swapPeople_65 ?_
    refine lv_ior C.1.1 C.1.2.1 dX2_swapPeople_66 ?_
    refine lv_ixor C.1.1 C.1.2.1 dX2_swapPeople_67 ?_
    refine pf2_4 C hW hk_a0 w_305 dX2_swapPeople_68 (fun H locs hW => ?_)
    exact rv hQ C hr hlk hW hf dX2_swapPeople_71
theorem kvX2_sendAway : KV 2 "RightKeys$Ring" yX2_sendAway cX2_sendAway 2 none 1 := ⟨⟨w_943, w_944, w_114, w_945⟩, ⟨rfl, by decide, by decide, by decide +kernel⟩, by decide, rfl⟩
noncomputable def fX2_sendAway (a0 : Nat) (p1 : Int32) (σ : Sg) : Option (Sg) := (let σ1 := wI σ a0 2 ((σ.1 a0 2) &&& (((1 : Int32) <<< (p1 &&& 31)) ^^^ (-1 : Int32))); let σ2 := wI σ1 a0 3 ((σ1.1 a0 3) &&& (((1 : Int32) <<< (p1 &&& 31)) ^^^ (-1 : Int32))); let σ3 := wI σ2 a0 6 ((σ2.1 a0 6) ||| ((1 : Int32) <<< (p1 &&& 31))); if vin p1 8 then (let σ6 := wI σ3 (a0 + 5) ((p1).toNatClampNeg) (0 : Int32); some σ6) else none)
set_option maxRecDepth 100000 in
set_option maxHeartbeats 4000000 in
theorem mX2_sendAway {l : Launch} {G : Gm} {a0 : Nat} {p1 : Int32} {σ : Sg} {σ' : Sg} (hk_a0 : gK G a0 = 3) (hf : fX2_sendAway a0 p1 σ = some σ') : Mv l G yX2_sendAway cX2_sendAway 2 0 0 [.ref (gB G + a0), .int p1] σ σ' := by
  refine of_W "RightKeys$Ring" rfl (by decide) (Nat.le_of_ble_eq_true rfl) ?_
  intro p e s m args below meth c Q hQ C hr hlk hW ls hl
  have h00 := hW.1
  have hl : lv_has ls 2 [(0, .ref (gB G + a0)), (1, .int p1)] := hl
  delta fX2_sendAway at hf
  refine lv_aload_n C.1.1 C.1.2.1 dX2_sendAway_0 rfl (lv_at hl 0 rfl) ?_
  refine lv_dup C.1.1 C.1.2.1 dX2_sendAway_1 rfl ?_
  refine gf2_2 C hW hk_a0 w_300 dX2_sendAway_2 ?_
  refine lv_iconst (v := 1) C.1.1 C.1.2.1 dX2_sendAway_5 (by decide) ?_
  refine lv_iload_n C.1.1 C.1.2.1 dX2_sendAway_6 rfl (lv_at hl 1 rfl) ?_
  refine lv_ishl C.1.1 C.1.2.1 dX2_sendAway_7 ?_
  refine lv_iconst (v := (-1)) C.1.1 C.1.2.1 dX2_sendAway_8 (by decide) ?_
  refine lv_ixor C.1.1 C.1.2.1 dX2_sendAway_9 ?_
  refine lv_iand C.1.1 C.1.2.1 dX2_sendAway_10 ?_
  refine pf2_2 C hW hk_a0 w_300 dX2_sendAway_11 (fun H locs hW => ?_)
  refine lv_aload_n C.1.1 C.1.2.1 dX2_sendAway_14 rfl (lv_at hl 0 rfl) ?_
  refine lv_dup C.1.1 C.1.2.1 dX2_sendAway_15 rfl ?_
  refine gf2_3 C hW hk_a0 w_302 dX2_sendAway_16 ?_
  refine lv_iconst (v := 1) C.1.1 C.1.2.1 dX2_sendAway_19 (by decide) ?_
  refine lv_iload_n C.1.1 C.1.2.1 dX2_sendAway_20 rfl (lv_at hl 1 rfl) ?_
  refine lv_ishl C.1.1 C.1.2.1 dX2_sendAway_21 ?_
  refine lv_iconst (v := (-1)) C.1.1 C.1.2.1 dX2_sendAway_22 (by decide) ?_
  refine lv_ixor C.1.1 C.1.2.1 dX2_sendAway_23 ?_
  refine lv_iand C.1.1 C.1.2.1 dX2_sendAway_24 ?_
  refine pf2_3 C hW hk_a0 w_302 dX2_sendAway_25 (fun H locs hW => ?_)
  refine lv_aload_n C.1.1 C.1.2.1 dX2_sendAway_28 rfl (lv_at hl 0 rfl) ?_
  refine lv_dup C.1.1 C.1.2.1 dX2_sendAway_29 rfl ?_
  refine gf2_6 C hW hk_a0 w_309 dX2_sendAway_30 ?_
  refine lv_iconst (v := 1) C.1.1 C.1.2.1 dX2_sendAway_33 (by decide) ?_
  refine lv_iload_n C.1.1 C.1.2.1 dX2_sendAway_34 rfl (lv_at hl 1 rfl) ?_
  refine lv_ishl C.1.1 C.1.2.1 dX2_sendAway_35 ?_
  refine lv_ior C.1.1 C.1.2.1 dX2_sendAway_36 ?_
  refine pf2_6 C hW hk_a0 w_309 dX2_sendAway_37 (fun H locs hW => ?_)
  refine lv_aload_n C.1.1 C.1.2.1 dX2_sendAway_40 rfl (lv_at hl 0 rfl) ?_
  have hk4 := sh2_16 hW hk_a0
  refine gf2_16 C hW hk_a0 w_328 dX2_sendAway_41 ?_
  refine lv_iload_n C.1.1 C.1.2.1 dX2_sendAway_44 rfl (lv_at hl 1 rfl) ?_
  refine lv_iconst (v := 0) C.1.1 C.1.2.1 dX2_sendAway_45 (by decide) ?_
  obtain ⟨hv5, hf⟩ := gd hf
  refine wsi C hW hk4 (vin_p hv5) dX2_sendAway_46 (fun H locs hW => ?_)
  exact rv hQ C hr hlk hW hf dX2_sendAway_47
theorem kvX2_whereIs : KV 2 "RightKeys$Ring" yX2_whereIs cX2_whereIs 2 (some .int) 1 := ⟨⟨w_679, w_680, w_114, w_681⟩, ⟨rfl, by decide, by decide, by decide +kernel⟩, by decide, rfl⟩
noncomputable def fX2_whereIs (a0 : Nat) (p1 : Int32) (σ : Sg) : Option (Int32 × Sg) := (fX6_bit (σ.1 a0 2) p1 σ).bind (fun q5 => let r3 := q5.1; let σ2 := q5.2; if r3 = (1 : Int32) then (some ((0 : Int32), σ2)) else ((fX6_bit (σ2.1 a0 3) p1 σ2).bind (fun q10 => let r8 := q10.1; let σ7 := q10.2; some (((1 : Int32) + r8), σ7))))
set_option maxRecDepth 100000 in
set_option maxHeartbeats 4000000 in
theorem mX2_whereIs {l : Launch} {G : Gm} {a0 : Nat} {p1 : Int32} {σ : Sg} {r : Int32} {σ' : Sg} (hk_a0 : gK G a0 = 3) (hf : fX2_whereIs a0 p1 σ = some (r, σ')) : Mi l G yX2_whereIs cX2_whereIs 2 .int 1 21 [.ref (gB G + a0), .int p1] σ r σ' := by
  refine of_W "RightKeys$Ring" rfl (by decide) (Nat.le_of_ble_eq_true rfl) ?_
  intro p e s m args below meth c Q hQ C hr hlk hW ls hl
  have h00 := hW.1
  have hl : lv_has ls 2 [(0, .ref (gB G + a0)), (1, .int p1)] := hl
  delta fX2_whereIs at hf
  refine lv_aload_n C.1.1 C.1.2.1 dX2_whereIs_0 rfl (lv_at hl 0 rfl) ?_
  refine gf2_2 C hW hk_a0 w_300 dX2_whereIs_1 ?_
  refine lv_iload_n C.1.1 C.1.2.1 dX2_whereIs_4 rfl (lv_at hl 1 rfl) ?_
  obtain ⟨⟨r3, σ2⟩, hc1, hf⟩ := bd hf
  try dsimp only at hf
  refine cNi C hW (mX6_bit hc1) ksX6_bit (by decide) ⟨(Nat.le_of_ble_eq_true rfl), (Nat.le_of_ble_eq_true rfl)⟩ ⟨Nat.zero_le _, Nat.zero_le _⟩ rfl hl.1 (rest := []) rfl (Nat.le_of_ble_eq_true rfl) dX2_whereIs_5 (fun H locs hn4 hW => ?_)
  refine lv_iconst (v := 1) C.1.1 C.1.2.1 dX2_whereIs_8 (by decide) ?_
  refine lv_icmp_ne (tgt := 16) C.1.1 C.1.2.1 dX2_whereIs_9 (by decide) (fun h9 => ?_) (fun h9 => ?_)
  · replace hf := (if_neg h9).symm.trans hf
    refine lv_iconst (v := 1) C.1.1 C.1.2.1 dX2_whereIs_16 (by decide) ?_
    refine lv_aload_n C.1.1 C.1.2.1 dX2_whereIs_17 rfl (lv_at hl 0 rfl) ?_
    refine gf2_3 C hW hk_a0 w_302 dX2_whereIs_18 ?_
    refine lv_iload_n C.1.1 C.1.2.1 dX2_whereIs_21 rfl (lv_at hl 1 rfl) ?_
    obtain ⟨⟨r8, σ7⟩, hc6, hf⟩ := bd hf
    try dsimp only at hf
    refine cNi C hW (mX6_bit hc6) ksX6_bit (by decide) ⟨(Nat.le_of_ble_eq_true rfl), (Nat.le_of_ble_eq_true rfl)⟩ ⟨Nat.zero_le _, Nat.zero_le _⟩ rfl hl.1 (rest := [.int _]) rfl (Nat.le_of_ble_eq_true rfl) dX2_whereIs_22 (fun H locs hn9 hW => ?_)
    refine lv_iadd C.1.1 C.1.2.1 dX2_whereIs_25 ?_
    exact ri hQ C hr hlk hW hf (rok_i _) dX2_whereIs_26
  · replace hf := (if_pos h9).symm.trans hf
    refine lv_iconst (v := 0) C.1.1 C.1.2.1 dX2_whereIs_12 (by decide) ?_
    refine lv_goto (tgt := 26) C.1.1 C.1.2.1 dX2_whereIs_13 (by decide) ?_
    exact ri hQ C hr hlk hW hf (rok_i _) dX2_whereIs_26
theorem kvX2_openersOf : KV 2 "RightKeys$Ring" yX2_openersOf cX2_openersOf 5 (some .int) 1 := ⟨⟨w_731, w_732, w_114, w_733⟩, ⟨rfl, by decide, by decide, by decide +kernel⟩, by decide, rfl⟩
noncomputable def jX2_openersOf_58 (a0 : Nat) (p1 : Int32) (x3 : Int32) (x4 : Int32) (σ : Sg) : Option (Int32 × Sg) := (fX2_isOut a0 x3 σ).bind (fun q22 => let r20 := q22.1; let σ19 := q22.2; if r20 = 0 then ((fX6_bit (σ19.1 (σ19.2.2.1 a0 0) 2) x3 σ19).bind (fun q28 => let r26 := q28.1; let σ25 := q28.2; if r26 = (1 : Int32) then ((let x4_29 := (x4 ||| ((1 : Int32) <<< (x3 &&& 31))); some (x4_29, σ25))) else (some (x4, σ25)))) else (some (x4, σ19)))
noncomputable def jX2_openersOf_42 (a0 : Nat) (p1 : Int32) (x2 : Int32) (x3 : Int32) (x4 : Int32) (σ : Sg) : Option (Int32 × Sg) := (fX2_isOut a0 x2 σ).bind (fun q17 => let r15 := q17.1; let σ14 := q17.2; if r15 = 0 then ((let x4_30 := (x4 ||| ((1 : Int32) <<< (x2 &&& 31))); jX2_openersOf_58 a0 p1 x3 x4_30 σ14)) else (jX2_openersOf_58 a0 p1 x3 x4 σ14))
noncomputable def jX2_openersOf_34 (a0 : Nat) (p1 : Int32) (x2 : Int32) (x3 : Int32) (x4 : Int32) (σ : Sg) : Option (Int32 × Sg) := (let x4_12 := (x4 ||| ((1 : Int32) <<< (p1 &&& 31))); jX2_openersOf_42 a0 p1 x2 x3 x4_12 σ)
noncomputable def fX2_openersOf (a0 : Nat) (p1 : Int32) (σ : Sg) : Option (Int32 × Sg) := (fX2_leftOf a0 p1 σ).bind (fun q5 => let r3 := q5.1; let σ2 := q5.2; (fX2_rightOf a0 p1 σ2).bind (fun q10 => let r8 := q10.1; let σ7 := q10.2; if (σ7.1 (σ7.2.2.1 a0 0) 0) = (1 : Int32) then (jX2_openersOf_34 a0 p1 r3 r8 (0 : Int32) σ7) else ((fX2_hasOwnSpare a0 p1 σ7).bind (fun q35 => let r33 := q35.1; let σ32 := q35.2; if r33 = 0 then (jX2_openersOf_42 a0 p1 r3 r8 (0 : Int32) σ32) else (jX2_openersOf_34 a0 p1 r3 r8 (0 : Int32) σ32)))))
set_option maxRecDepth 100000 in
set_option maxHeartbeats 4000000 in
theorem mX2_openersOf {l : Launch} {G : Gm} {a0 : Nat} {p1 : Int32} {σ : Sg} {r : Int32} {σ' : Sg} (hk_a0 : gK G a0 = 3) (hf : fX2_openersOf a0 p1 σ = some (r, σ')) : Mi l G yX2_openersOf cX2_openersOf 5 .int 2 42 [.ref (gB G + a0), .int p1] σ r σ' := by
  refine of_W "RightKeys$Ring" rfl (by decide) (Nat.le_of_ble_eq_true rfl) ?_
  intro p e s m args below meth c Q hQ C hr hlk hW ls hl
  have h00 := hW.1
  have hl : lv_has ls 5 [(0, .ref (gB G + a0)), (1, .int p1)] := hl
  delta fX2_openersOf at hf
  have J58 : ∀ (x3 : Int32) (x4 : Int32) (σ : Sg) (H : Heap) (locs : List Loc) (ls : Array Slot), jX2_openersOf_58 a0 p1 x3 x4 σ = some (r, σ') → Ws G σ s.heap H locs → lv_has ls 5 [(0, .ref (gB G + a0)), (3, .int x3), (4, .int x4)] → W p l e (rmOf 2 42) s m args below meth c H locs 0 0 Q (F0 m 58 ls []) := by
    intro x3 x4 σ H locs ls hf hW hl
    delta jX2_openersOf_58 at hf
    refine lv_aload_n C.1.1 C.1.2.1 dX2_openersOf_58 rfl (lv_at hl 0 rfl) ?_
    refine lv_iload_n C.1.1 C.1.2.1 dX2_openersOf_59 rfl (lv_at hl 1 rfl) ?_
    obtain ⟨⟨r20, σ19⟩, hc18, hf⟩ := bd hf
    try dsimp only at hf
    refine cVi C hW (mX2_isOut hk_a0 hc18) hk_a0 kvX2_isOut w_746 ⟨(Nat.le_of_ble_eq_true rfl), (Nat.le_of_ble_eq_true rfl)⟩ ⟨Nat.zero_le _, Nat.zero_le _⟩ rfl hl.1 (rest := []) rfl (Nat.le_of_ble_eq_true rfl) dX2_openersOf_60 (fun H locs hn21 hW => ?_)
    refine lv_if_ne (tgt := 89) C.1.1 C.1.2.1 dX2_openersOf_63 (by decide) (fun h9 => ?_) (fun h9 => ?_)
    · replace hf := (if_neg h9).symm.trans hf
      refine lv_iload C.1.1 C.1.2.1 dX2_openersOf_89 (lv_at hl 2 rfl) ?_
      exact ri hQ C hr hlk hW hf (rok_i _) dX2_openersOf_91
    · replace hf := (if_pos h9).symm.trans hf
      refine lv_aload_n C.1.1 C.1.2.1 dX2_openersOf_66 rfl (lv_at hl 0 rfl) ?_
      have hk23 := sh2_0 hW hk_a0
      refine gf2_0 C hW hk_a0 w_297 dX2_openersOf_67 ?_
      refine gf3_2 C hW hk23 w_190 dX2_openersOf_70 ?_
      refine lv_iload_n C.1.1 C.1.2.1 dX2_openersOf_73 rfl (lv_at hl 1 rfl) ?_
      obtain ⟨⟨r26, σ25⟩, hc24, hf⟩ := bd hf
      try dsimp only at hf
      refine cNi C hW (mX6_bit hc24) ksX6_bit (by decide) ⟨(Nat.le_of_ble_eq_true rfl), (Nat.le_of_ble_eq_true rfl)⟩ ⟨Nat.zero_le _, Nat.zero_le _⟩ rfl hl.1 (rest := []) rfl (Nat.le_of_ble_eq_true rfl) dX2_openersOf_74 (fun H locs hn27 hW => ?_)
      refine lv_iconst (v := 1) C.1.1 C.1.2.1 dX2_openersOf_77 (by decide) ?_
      refine lv_icmp_ne (tgt := 89) C.1.1 C.1.2.1 dX2_openersOf_78 (by decide) (fun h9 => ?_) (fun h9 => ?_)
      · replace hf := (if_neg h9).symm.trans hf
        refine lv_iload C.1.1 C.1.2.1 dX2_openersOf_89 (lv_at hl 2 rfl) ?_
        exact ri hQ C hr hlk hW hf (rok_i _) dX2_openersOf_91
      · replace hf := (if_pos h9).symm.trans hf
        refine lv_iload C.1.1 C.1.2.1 dX2_openersOf_81 (lv_at hl 2 rfl) ?_
        refine lv_iconst (v := 1) C.1.1 C.1.2.1 dX2_openersOf_83 (by decide) ?_
        refine lv_iload_n C.1.1 C.1.2.1 dX2_openersOf_84 rfl (lv_at hl 1 rfl) ?_
        refine lv_ishl C.1.1 C.1.2.1 dX2_openersOf_85 ?_
        refine lv_ior C.1.1 C.1.2.1 dX2_openersOf_86 ?_
        refine lv_istore (lv' := [(4, .int _), (0, .ref _), (3, .int _)]) C.1.1 C.1.2.1 dX2_openersOf_87 hl (by decide) rfl (fun ls hl => ?_)
        refine lv_iload C.1.1 C.1.2.1 dX2_openersOf_89 (lv_at hl 0 rfl) ?_
        exact ri hQ C hr hlk hW hf (rok_i _) dX2_openersOf_91
  have J42 : ∀ (x2 : Int32) (x3 : Int32) (x4 : Int32) (σ : Sg) (H : Heap) (locs : List Loc) (ls : Array Slot), jX2_openersOf_42 a0 p1 x2 x3 x4 σ = some (r, σ') → Ws G σ s.heap H locs → lv_has ls 5 [(0, .ref (gB G + a0)), (2, .int x2), (3, .int x3), (4, .int x4)] → W p l e (rmOf 2 42) s m args below meth c H locs 0 0 Q (F0 m 42 ls []) := by
    intro x2 x3 x4 σ H locs ls hf hW hl
    delta jX2_openersOf_42 at hf
    refine lv_aload_n C.1.1 C.1.2.1 dX2_openersOf_42 rfl (lv_at hl 0 rfl) ?_
    refine lv_iload_n C.1.1 C.1.2.1 dX2_openersOf_43 rfl (lv_at hl 1 rfl) ?_
    obtain ⟨⟨r15, σ14⟩, hc13, hf⟩ := bd hf
    try dsimp only at hf
    refine cVi C hW (mX2_isOut hk_a0 hc13) hk_a0 kvX2_isOut w_746 ⟨(Nat.le_of_ble_eq_true rfl), (Nat.le_of_ble_eq_true rfl)⟩ ⟨Nat.zero_le _, Nat.zero_le _⟩ rfl hl.1 (rest := []) rfl (Nat.le_of_ble_eq_true rfl) dX2_openersOf_44 (fun H locs hn16 hW => ?_)
    refine lv_if_ne (tgt := 58) C.1.1 C.1.2.1 dX2_openersOf_47 (by decide) (fun h9 => ?_) (fun h9 => ?_)
    · replace hf := (if_neg h9).symm.trans hf
      exact J58 _ _ _ _ _ _ hf hW (lv_sub hl [0, 2, 3] rfl)
    · replace hf := (if_pos h9).symm.trans hf
      refine lv_iload C.1.1 C.1.2.1 dX2_openersOf_50 (lv_at hl 3 rfl) ?_
      refine lv_iconst (v := 1) C.1.1 C.1.2.1 dX2_openersOf_52 (by decide) ?_
      refine lv_iload_n C.1.1 C.1.2.1 dX2_openersOf_53 rfl (lv_at hl 1 rfl) ?_
      refine lv_ishl C.1.1 C.1.2.1 dX2_openersOf_54 ?_
      refine lv_ior C.1.1 C.1.2.1 dX2_openersOf_55 ?_
      refine lv_istore (lv' := [(4, .int _), (0, .ref _), (2, .int _), (3, .int _)]) C.1.1 C.1.2.1 dX2_openersOf_56 hl (by decide) rfl (fun ls hl => ?_)
      exact J58 _ _ _ _ _ _ hf hW (lv_sub hl [1, 3, 0] rfl)
  have J34 : ∀ (x2 : Int32) (x3 : Int32) (x4 : Int32) (σ : Sg) (H : Heap) (locs : List Loc) (ls : Array Slot), jX2_openersOf_34 a0 p1 x2 x3 x4 σ = some (r, σ') → Ws G σ s.heap H locs → lv_has ls 5 [(0, .ref (gB G + a0)), (1, .int p1), (2, .int x2), (3, .int x3), (4, .int x4)] → W p l e (rmOf 2 42) s m args below meth c H locs 0 0 Q (F0 m 34 ls []) := by
    intro x2 x3 x4 σ H locs ls hf hW hl
    delta jX2_openersOf_34 at hf
    refine lv_iload C.1.1 C.1.2.1 dX2_openersOf_34 (lv_at hl 4 rfl) ?_
    refine lv_iconst (v := 1) C.1.1 C.1.2.1 dX2_openersOf_36 (by decide) ?_
    refine lv_iload_n C.1.1 C.1.2.1 dX2_openersOf_37 rfl (lv_at hl 1 rfl) ?_
    refine lv_ishl C.1.1 C.1.2.1 dX2_openersOf_38 ?_
    refine lv_ior C.1.1 C.1.2.1 dX2_openersOf_39 ?_
    refine lv_istore (lv' := [(4, .int _), (0, .ref _), (1, .int _), (2, .int _), (3, .int _)]) C.1.1 C.1.2.1 dX2_openersOf_40 hl (by decide) rfl (fun ls hl => ?_)
    exact J42 _ _ _ _ _ _ _ hf hW (lv_sub hl [1, 3, 4, 0] rfl)
  refine lv_aload_n C.1.1 C.1.2.1 dX2_openersOf_0 rfl (lv_at hl 0 rfl) ?_
  refine lv_iload_n C.1.1 C.1.2.1 dX2_openersOf_1 rfl (lv_at hl 1 rfl) ?_
  obtain ⟨⟨r3, σ2⟩, hc1, hf⟩ := bd hf
  try dsimp only at hf
  refine cVi C hW (mX2_leftOf hk_a0 hc1) hk_a0 kvX2_leftOf w_734 ⟨(Nat.le_of_ble_eq_true rfl), (Nat.le_of_ble_eq_true rfl)⟩ ⟨Nat.zero_le _, Nat.zero_le _⟩ rfl hl.1 (rest := []) rfl (Nat.le_of_ble_eq_true rfl) dX2_openersOf_2 (fun H locs hn4 hW => ?_)
  refine lv_istore_n (lv' := [(2, .int _), (0, .ref _), (1, .int _)]) C.1.1 C.1.2.1 dX2_openersOf_5 rfl hl (by decide) rfl (fun ls hl => ?_)
  refine lv_aload_n C.1.1 C.1.2.1 dX2_openersOf_6 rfl (lv_at hl 1 rfl) ?_
  refine lv_iload_n C.1.1 C.1.2.1 dX2_openersOf_7 rfl (lv_at hl 2 rfl) ?_
  obtain ⟨⟨r8, σ7⟩, hc6, hf⟩ := bd hf
  try dsimp only at hf
  refine cVi C hW (mX2_rightOf hk_a0 hc6) hk_a0 kvX2_rightOf w_738 ⟨(Nat.le_of_ble_eq_true rfl), (Nat.le_of_ble_eq_true rfl)⟩ ⟨Nat.zero_le _, Nat.zero_le _⟩ rfl hl.1 (rest := []) rfl (Nat.le_of_ble_eq_true rfl) dX2_openersOf_8 (fun H locs hn9 hW => ?_)
  refine lv_istore_n (lv' := [(3, .int _), (2, .int _), (0, .ref _), (1, .int _)]) C.1.1 C.1.2.1 dX2_openersOf_11 rfl hl (by decide) rfl (fun ls hl => ?_)
  refine lv_iconst (v := 0) C.1.1 C.1.2.1 dX2_openersOf_12 (by decide) ?_
  refine lv_istore (lv' := [(4, .int _), (3, .int _), (2, .int _), (0, .ref _), (1, .int _)]) C.1.1 C.1.2.1 dX2_openersOf_13 hl (by decide) rfl (fun ls hl => ?_)
  refine lv_aload_n C.1.1 C.1.2.1 dX2_openersOf_15 rfl (lv_at hl 3 rfl) ?_
  have hk11 := sh2_0 hW hk_a0
  refine gf2_0 C hW hk_a0 w_297 dX2_openersOf_16 ?_
  refine gf3_0 C hW hk11 w_180 dX2_openersOf_19 ?_
  refine lv_iconst (v := 1) C.1.1 C.1.2.1 dX2_openersOf_22 (by decide) ?_
  refine lv_icmp_eq (tgt := 34) C.1.1 C.1.2.1 dX2_openersOf_23 (by decide) (fun h9 => ?_) (fun h9 => ?_)
  · replace hf := (if_pos h9).symm.trans hf
    exact J34 _ _ _ _ _ _ _ hf hW (lv_sub hl [3, 4, 2, 1, 0] rfl)
  · replace hf := (if_neg h9).symm.trans hf
    refine lv_aload_n C.1.1 C.1.2.1 dX2_openersOf_26 rfl (lv_at hl 3 rfl) ?_
    refine lv_iload_n C.1.1 C.1.2.1 dX2_openersOf_27 rfl (lv_at hl 4 rfl) ?_
    obtain ⟨⟨r33, σ32⟩, hc31, hf⟩ := bd hf
    try dsimp only at hf
    refine cVi C hW (mX2_hasOwnSpare hk_a0 hc31) hk_a0 kvX2_hasOwnSpare w_742 ⟨(Nat.le_of_ble_eq_true rfl), (Nat.le_of_ble_eq_true rfl)⟩ ⟨Nat.zero_le _, Nat.zero_le _⟩ rfl hl.1 (rest := []) rfl (Nat.le_of_ble_eq_true rfl) dX2_openersOf_28 (fun H locs hn34 hW => ?_)
    refine lv_if_eq (tgt := 42) C.1.1 C.1.2.1 dX2_openersOf_31 (by decide) (fun h9 => ?_) (fun h9 => ?_)
    · replace hf := (if_pos h9).symm.trans hf
      exact J42 _ _ _ _ _ _ _ hf hW (lv_sub hl [3, 2, 1, 0] rfl)
    · replace hf := (if_neg h9).symm.trans hf
      exact J34 _ _ _ _ _ _ _ hf hW (lv_sub hl [3, 4, 2, 1, 0] rfl)
theorem kvX2_waysOf : KV 2 "RightKeys$Ring" yX2_waysOf cX2_waysOf 4 (some .int) 2 := ⟨⟨w_951, w_952, w_114, w_953⟩, ⟨rfl, by decide, by decide, by decide +kernel⟩, by decide, rfl⟩
noncomputable def fX2_waysOf (a0 : Nat) (p1 : Int32) (p2 : Int32) (σ : Sg) : Option (Int32 × Sg) := if vin p1 6 then ((let x3_3 := (p2 - (σ.1 (a0 + 7) ((p1).toNatClampNeg))); if 0 ≤ x3_3 then (some (x3_3, σ)) else (some ((x3_3 + (σ.1 (σ.2.2.1 a0 0) 0)), σ)))) else none
set_option maxRecDepth 100000 in
set_option maxHeartbeats 4000000 in
theorem mX2_waysOf {l : Launch} {G : Gm} {a0 : Nat} {p1 : Int32} {p2 : Int32} {σ : Sg} {r : Int32} {σ' : Sg} (hk_a0 : gK G a0 = 3) (hf : fX2_waysOf a0 p1 p2 σ = some (r, σ')) : Mi l G yX2_waysOf cX2_waysOf 4 .int 0 0 [.ref (gB G + a0), .int p1, .int p2] σ r σ' := by
  refine of_W "RightKeys$Ring" rfl (by decide) (Nat.le_of_ble_eq_true rfl) ?_
  intro p e s m args below meth c Q hQ C hr hlk hW ls hl
  have h00 := hW.1
  have hl : lv_has ls 4 [(0, .ref (gB G + a0)), (1, .int p1), (2, .int p2)] := hl
  delta fX2_waysOf at hf
  refine lv_iload_n C.1.1 C.1.2.1 dX2_waysOf_0 rfl (lv_at hl 2 rfl) ?_
  refine lv_aload_n C.1.1 C.1.2.1 dX2_waysOf_1 rfl (lv_at hl 0 rfl) ?_
  have hk1 := sh2_18 hW hk_a0
  refine gf2_18 C hW hk_a0 w_332 dX2_waysOf_2 ?_
  refine lv_iload_n C.1.1 C.1.2.1 dX2_waysOf_5 rfl (lv_at hl 1 rfl) ?_
  obtain ⟨hv2, hf⟩ := gd hf
  refine wai C hW hk1 (vin_p hv2) dX2_waysOf_6 ?_
  refine lv_isub C.1.1 C.1.2.1 dX2_waysOf_7 ?_
  refine lv_istore_n (lv' := [(3, .int _), (0, .ref _), (1, .int _), (2, .int _)]) C.1.1 C.1.2.1 dX2_waysOf_8 rfl hl (by decide) rfl (fun ls hl => ?_)
  refine lv_iload_n C.1.1 C.1.2.1 dX2_waysOf_9 rfl (lv_at hl 0 rfl) ?_
  refine lv_if_ge (tgt := 25) C.1.1 C.1.2.1 dX2_waysOf_10 (by decide) (fun h9 => ?_) (fun h9 => ?_)
  · replace hf := (if_pos h9).symm.trans hf
    refine lv_iload_n C.1.1 C.1.2.1 dX2_waysOf_25 rfl (lv_at hl 0 rfl) ?_
    exact ri hQ C hr hlk hW hf (rok_i _) dX2_waysOf_26
  · replace hf := (if_neg h9).symm.trans hf
    refine lv_iload_n C.1.1 C.1.2.1 dX2_waysOf_13 rfl (lv_at hl 0 rfl) ?_
    refine lv_aload_n C.1.1 C.1.2.1 dX2_waysOf_14 rfl (lv_at hl 1 rfl) ?_
    have hk4 := sh2_0 hW hk_a0
    refine gf2_0 C hW hk_a0 w_297 dX2_waysOf_15 ?_
    refine gf3_0 C hW hk4 w_180 dX2_waysOf_18 ?_
    refine lv_iadd C.1.1 C.1.2.1 dX2_waysOf_21 ?_
    refine lv_goto (tgt := 26) C.1.1 C.1.2.1 dX2_waysOf_22 (by decide) ?_
    exact ri hQ C hr hlk hW hf (rok_i _) dX2_waysOf_26
theorem kvX2_sparesWithGoal : KV 2 "RightKeys$Ring" yX2_sparesWithGoal cX2_sparesWithGoal 3 (some .int) 0 := ⟨⟨w_764, w_765, w_114, w_766⟩, ⟨rfl, by decide, by decide, by decide +kernel⟩, by decide, rfl⟩
noncomputable def jX2_sparesWithGoal_32 (a0 : Nat) (x1 : Int32) (x2 : Int32) (σ : Sg) : Option ((Int32 × Int32 × Sg) ⊕ (Int32 × Sg)) := (let x2_4 := x2 + (1 : Int32); some (Sum.inl (x1, x2_4, σ)))
noncomputable def bX2_sparesWithGoal_4 (a0 : Nat) (x1 : Int32) (x2 : Int32) (σ : Sg) : Option ((Int32 × Int32 × Sg) ⊕ (Int32 × Sg)) := if (σ.1 (σ.2.2.1 a0 0) 1) ≤ x2 then (some (Sum.inr (x1, σ))) else (if vin x2 6 then (if (σ.1 (a0 + 8) ((x2).toNatClampNeg)) = (-2 : Int32) then (jX2_sparesWithGoal_32 a0 x1 x2 σ) else ((let x1_5 := (x1 ||| ((1 : Int32) <<< (x2 &&& 31))); jX2_sparesWithGoal_32 a0 x1_5 x2 σ))) else none)
noncomputable def fX2_sparesWithGoal (a0 : Nat) (σ : Sg) : Option (Int32 × Sg) := (lp (fun st => bX2_sparesWithGoal_4 a0 st.1 st.2.1 st.2.2) ((0 : Int32), (0 : Int32), σ)).bind (fun q9 => let y8 := q9.1; let σ7 := q9.2;  some (y8, σ7))
set_option maxRecDepth 100000 in
set_option maxHeartbeats 4000000 in
theorem mX2_sparesWithGoal {l : Launch} {G : Gm} {a0 : Nat} {σ : Sg} {r : Int32} {σ' : Sg} (hk_a0 : gK G a0 = 3) (hf : fX2_sparesWithGoal a0 σ = some (r, σ')) : Mi l G yX2_sparesWithGoal cX2_sparesWithGoal 3 .int 0 0 [.ref (gB G + a0)] σ r σ' := by
  refine of_W "RightKeys$Ring" rfl (by decide) (Nat.le_of_ble_eq_true rfl) ?_
  intro p e s m args below meth c Q hQ C hr hlk hW ls hl
  have h00 := hW.1
  have hl : lv_has ls 3 [(0, .ref (gB G + a0))] := hl
  delta fX2_sparesWithGoal at hf
  have L4 : ∀ (n : Nat) (x1 : Int32) (x2 : Int32) (σ : Sg) (H : Heap) (locs : List Loc) (ls : Array Slot) (out : (Int32 × Sg)), iter (fun st => bX2_sparesWithGoal_4 a0 st.1 st.2.1 st.2.2) n (x1, x2, σ) = some out → Ws G σ s.heap H locs → lv_has ls 3 [(0, .ref (gB G + a0)), (1, .int x1), (2, .int x2)] → (∀ (y1 : Int32) (σ : Sg) (H : Heap) (locs : List Loc) (ls : Array Slot), out = (y1, σ) → Ws G σ s.heap H locs → lv_has ls 3 [(1, .int y1)] → W p l e (rmOf 0 0) s m args below meth c H locs 0 0 Q (F0 m 38 ls [])) → W p l e (rmOf 0 0) s m args below meth c H locs 0 0 Q (F0 m 4 ls []) := by
    intro n
    induction n with
    | zero =>
      intro x1 x2 σ H locs ls out hf
      exact (it_0 hf).elim
    | succ n ih =>
      intro x1 x2 σ H locs ls out hf hW hl K4_38
      obtain ⟨x, hf, hx⟩ := it_s hf
      have hf : bX2_sparesWithGoal_4 a0 x1 x2 σ = some x := hf
      delta bX2_sparesWithGoal_4 at hf
      have J32 : ∀ (x1 : Int32) (x2 : Int32) (σ : Sg) (H : Heap) (locs : List Loc) (ls : Array Slot), jX2_sparesWithGoal_32 a0 x1 x2 σ = some x → Ws G σ s.heap H locs → lv_has ls 3 [(0, .ref (gB G + a0)), (1, .int x1), (2, .int x2)] → W p l e (rmOf 0 0) s m args below meth c H locs 0 0 Q (F0 m 32 ls []) := by
        intro x1 x2 σ H locs ls hf hW hl
        delta jX2_sparesWithGoal_32 at hf
        refine lv_iinc (v := _) (lv' := [(2, .int _), (0, .ref _), (1, .int _)]) C.1.1 C.1.2.1 dX2_sparesWithGoal_32 hl (k := 2) rfl (ii (k := 1) (by decide)) (by decide) rfl (fun ls hl => ?_)
        refine lv_goto (tgt := 4) C.1.1 C.1.2.1 dX2_sparesWithGoal_35 (by decide) ?_
        cases hf
        exact ih _ _ _ _ _ _ _ hx hW (lv_sub hl [1, 2, 0] rfl) K4_38
      refine lv_iload_n C.1.1 C.1.2.1 dX2_sparesWithGoal_4 rfl (lv_at hl 2 rfl) ?_
      refine lv_aload_n C.1.1 C.1.2.1 dX2_sparesWithGoal_5 rfl (lv_at hl 0 rfl) ?_
      have hk1 := sh2_0 hW hk_a0
      refine gf2_0 C hW hk_a0 w_297 dX2_sparesWithGoal_6 ?_
      refine gf3_1 C hW hk1 w_185 dX2_sparesWithGoal_9 ?_
      refine lv_icmp_ge (tgt := 38) C.1.1 C.1.2.1 dX2_sparesWithGoal_12 (by decide) (fun h9 => ?_) (fun h9 => ?_)
      · replace hf := (if_pos h9).symm.trans hf
        cases hf
        cases hx
        exact K4_38 _ _ _ _ _ rfl hW (lv_sub hl [1] rfl)
      · replace hf := (if_neg h9).symm.trans hf
        refine lv_aload_n C.1.1 C.1.2.1 dX2_sparesWithGoal_15 rfl (lv_at hl 0 rfl) ?_
        have hk2 := sh2_19 hW hk_a0
        refine gf2_19 C hW hk_a0 w_334 dX2_sparesWithGoal_16 ?_
        refine lv_iload_n C.1.1 C.1.2.1 dX2_sparesWithGoal_19 rfl (lv_at hl 2 rfl) ?_
        obtain ⟨hv3, hf⟩ := gd hf
        refine wai C hW hk2 (vin_p hv3) dX2_sparesWithGoal_20 ?_
        refine lv_bipush (v := (-2)) C.1.1 C.1.2.1 dX2_sparesWithGoal_21 (by decide) ?_
        refine lv_icmp_eq (tgt := 32) C.1.1 C.1.2.1 dX2_sparesWithGoal_23 (by decide) (fun h9 => ?_) (fun h9 => ?_)
        · replace hf := (if_pos h9).symm.trans hf
          exact J32 _ _ _ _ _ _ hf hW (lv_sub hl [0, 1, 2] rfl)
        · replace hf := (if_neg h9).symm.trans hf
          refine lv_iload_n C.1.1 C.1.2.1 dX2_sparesWithGoal_26 rfl (lv_at hl 1 rfl) ?_
          refine lv_iconst (v := 1) C.1.1 C.1.2.1 dX2_sparesWithGoal_27 (by decide) ?_
          refine lv_iload_n C.1.1 C.1.2.1 dX2_sparesWithGoal_28 rfl (lv_at hl 2 rfl) ?_
          refine lv_ishl C.1.1 C.1.2.1 dX2_sparesWithGoal_29 ?_
          refine lv_ior C.1.1 C.1.2.1 dX2_sparesWithGoal_30 ?_
          refine lv_istore_n (lv' := [(1, .int _), (0, .ref _), (2, .int _)]) C.1.1 C.1.2.1 dX2_sparesWithGoal_31 rfl hl (by decide) rfl (fun ls hl => ?_)
          exact J32 _ _ _ _ _ _ hf hW (lv_sub hl [1, 0, 2] rfl)
  refine lv_iconst (v := 0) C.1.1 C.1.2.1 dX2_sparesWithGoal_0 (by decide) ?_
  refine lv_istore_n (lv' := [(1, .int _), (0, .ref _)]) C.1.1 C.1.2.1 dX2_sparesWithGoal_1 rfl hl (by decide) rfl (fun ls hl => ?_)
  refine lv_iconst (v := 0) C.1.1 C.1.2.1 dX2_sparesWithGoal_2 (by decide) ?_
  refine lv_istore_n (lv' := [(2, .int _), (1, .int _), (0, .ref _)]) C.1.1 C.1.2.1 dX2_sparesWithGoal_3 rfl hl (by decide) rfl (fun ls hl => ?_)
  obtain ⟨o6, ho, hf⟩ := bd hf
  obtain ⟨n, ho⟩ := lp_it ho
  refine L4 n _ _ _ _ _ _ o6 ho hW (lv_sub hl [2, 1, 0] rfl) ?_
  intro y8 σ7 H locs ls e9 hW hl
  subst e9
  try dsimp only at hf
  refine lv_iload_n C.1.1 C.1.2.1 dX2_sparesWithGoal_38 rfl (lv_at hl 0 rfl) ?_
  exact ri hQ C hr hlk hW hf (rok_i _) dX2_sparesWithGoal_39
theorem kvX2_rentOf : KV 2 "RightKeys$Ring" yX2_rentOf cX2_rentOf 4 (some .int) 1 := ⟨⟨w_685, w_686, w_114, w_687⟩, ⟨rfl, by decide, by decide, by decide +kernel⟩, by decide, rfl⟩
noncomputable def jX2_rentOf_28 (a0 : Nat) (p1 : Int32) (x2 : Int32) (x3 : Int32) (σ : Sg) : Option ((Int32 × Int32 × Sg) ⊕ (Int32 × Sg)) := (let x3_4 := x3 + (1 : Int32); some (Sum.inl (x2, x3_4, σ)))
noncomputable def bX2_rentOf_4 (a0 : Nat) (p1 : Int32) (x2 : Int32) (x3 : Int32) (σ : Sg) : Option ((Int32 × Int32 × Sg) ⊕ (Int32 × Sg)) := if (σ.1 (σ.2.2.1 a0 0) 1) ≤ x3 then (some (Sum.inr (x2, σ))) else (if vin x3 6 then (if (σ.1 (a0 + 7) ((x3).toNatClampNeg)) = p1 then ((let x2_5 := x2 + (1 : Int32); jX2_rentOf_28 a0 p1 x2_5 x3 σ)) else (jX2_rentOf_28 a0 p1 x2 x3 σ)) else none)
noncomputable def fX2_rentOf (a0 : Nat) (p1 : Int32) (σ : Sg) : Option (Int32 × Sg) := (lp (fun st => bX2_rentOf_4 a0 p1 st.1 st.2.1 st.2.2) ((0 : Int32), (0 : Int32), σ)).bind (fun q23 => let y8 := q23.1; let σ7 := q23.2;  if vin p1 8 then ((fX2_setVariables a0 (0 : Int32) (σ7.1 (a0 + 3) ((p1).toNatClampNeg)) (0 : Int32) p1 y8 σ7).bind (fun σ12 => (fX0_valueOf ((σ12.2.2.1 a0 0) + 7) (2 : Int32) σ12).bind (fun q22 => let r20 := q22.1; let σ19 := q22.2; some ((imax (0 : Int32) (imin (99 : Int32) r20)), σ19)))) else none)
set_option maxRecDepth 100000 in
set_option maxHeartbeats 4000000 in
theorem mX2_rentOf {l : Launch} {G : Gm} {a0 : Nat} {p1 : Int32} {σ : Sg} {r : Int32} {σ' : Sg} (hk_a0 : gK G a0 = 3) (hf : fX2_rentOf a0 p1 σ = some (r, σ')) : Mi l G yX2_rentOf cX2_rentOf 4 .int 2 65 [.ref (gB G + a0), .int p1] σ r σ' := by
  refine of_W "RightKeys$Ring" rfl (by decide) (Nat.le_of_ble_eq_true rfl) ?_
  intro p e s m args below meth c Q hQ C hr hlk hW ls hl
  have h00 := hW.1
  have hl : lv_has ls 4 [(0, .ref (gB G + a0)), (1, .int p1)] := hl
  delta fX2_rentOf at hf
  have L4 : ∀ (n : Nat) (x2 : Int32) (x3 : Int32) (σ : Sg) (H : Heap) (locs : List Loc) (ls : Array Slot) (out : (Int32 × Sg)), iter (fun st => bX2_rentOf_4 a0 p1 st.1 st.2.1 st.2.2) n (x2, x3, σ) = some out → Ws G σ s.heap H locs → lv_has ls 4 [(0, .ref (gB G + a0)), (1, .int p1), (2, .int x2), (3, .int x3)] → (∀ (y2 : Int32) (σ : Sg) (H : Heap) (locs : List Loc) (ls : Array Slot), out = (y2, σ) → Ws G σ s.heap H locs → lv_has ls 4 [(0, .ref (gB G + a0)), (1, .int p1), (2, .int y2)] → W p l e (rmOf 2 65) s m args below meth c H locs 0 0 Q (F0 m 34 ls [])) → W p l e (rmOf 2 65) s m args below meth c H locs 0 0 Q (F0 m 4 ls []) := by
    intro n
    induction n with
    | zero =>
      intro x2 x3 σ H locs ls out hf
      exact (it_0 hf).elim
    | succ n ih =>
      intro x2 x3 σ H locs ls out hf hW hl K4_34
      obtain ⟨x, hf, hx⟩ := it_s hf
      have hf : bX2_rentOf_4 a0 p1 x2 x3 σ = some x := hf
      delta bX2_rentOf_4 at hf
      have J28 : ∀ (x2 : Int32) (x3 : Int32) (σ : Sg) (H : Heap) (locs : List Loc) (ls : Array Slot), jX2_rentOf_28 a0 p1 x2 x3 σ = some x → Ws G σ s.heap H locs → lv_has ls 4 [(0, .ref (gB G + a0)), (1, .int p1), (2, .int x2), (3, .int x3)] → W p l e (rmOf 2 65) s m args below meth c H locs 0 0 Q (F0 m 28 ls []) := by
        intro x2 x3 σ H locs ls hf hW hl
        delta jX2_rentOf_28 at hf
        refine lv_iinc (v := _) (lv' := [(3, .int _), (0, .ref _), (1, .int _), (2, .int _)]) C.1.1 C.1.2.1 dX2_rentOf_28 hl (k := 3) rfl (ii (k := 1) (by decide)) (by decide) rfl (fun ls hl => ?_)
        refine lv_goto (tgt := 4) C.1.1 C.1.2.1 dX2_rentOf_31 (by decide) ?_
        cases hf
        exact ih _ _ _ _ _ _ _ hx hW (lv_sub hl [1, 2, 3, 0] rfl) K4_34
      refine lv_iload_n C.1.1 C.1.2.1 dX2_rentOf_4 rfl (lv_at hl 3 rfl) ?_
      refine lv_aload_n C.1.1 C.1.2.1 dX2_rentOf_5 rfl (lv_at hl 0 rfl) ?_
      have hk1 := sh2_0 hW hk_a0
      refine gf2_0 C hW hk_a0 w_297 dX2_rentOf_6 ?_
      refine gf3_1 C hW hk1 w_185 dX2_rentOf_9 ?_
      refine lv_icmp_ge (tgt := 34) C.1.1 C.1.2.1 dX2_rentOf_12 (by decide) (fun h9 => ?_) (fun h9 => ?_)
      · replace hf := (if_pos h9).symm.trans hf
        cases hf
        cases hx
        exact K4_34 _ _ _ _ _ rfl hW (lv_sub hl [0, 1, 2] rfl)
      · replace hf := (if_neg h9).symm.trans hf
        refine lv_aload_n C.1.1 C.1.2.1 dX2_rentOf_15 rfl (lv_at hl 0 rfl) ?_
        have hk2 := sh2_18 hW hk_a0
        refine gf2_18 C hW hk_a0 w_332 dX2_rentOf_16 ?_
        refine lv_iload_n C.1.1 C.1.2.1 dX2_rentOf_19 rfl (lv_at hl 3 rfl) ?_
        obtain ⟨hv3, hf⟩ := gd hf
        refine wai C hW hk2 (vin_p hv3) dX2_rentOf_20 ?_
        refine lv_iload_n C.1.1 C.1.2.1 dX2_rentOf_21 rfl (lv_at hl 1 rfl) ?_
        refine lv_icmp_ne (tgt := 28) C.1.1 C.1.2.1 dX2_rentOf_22 (by decide) (fun h9 => ?_) (fun h9 => ?_)
        · replace hf := (if_neg h9).symm.trans hf
          exact J28 _ _ _ _ _ _ hf hW (lv_sub hl [0, 1, 2, 3] rfl)
        · replace hf := (if_pos h9).symm.trans hf
          refine lv_iinc (v := _) (lv' := [(2, .int _), (0, .ref _), (1, .int _), (3, .int _)]) C.1.1 C.1.2.1 dX2_rentOf_25 hl (k := 2) rfl (ii (k := 1) (by decide)) (by decide) rfl (fun ls hl => ?_)
          exact J28 _ _ _ _ _ _ hf hW (lv_sub hl [1, 2, 0, 3] rfl)
  refine lv_iconst (v := 0) C.1.1 C.1.2.1 dX2_rentOf_0 (by decide) ?_
  refine lv_istore_n (lv' := [(2, .int _), (0, .ref _), (1, .int _)]) C.1.1 C.1.2.1 dX2_rentOf_1 rfl hl (by decide) rfl (fun ls hl => ?_)
  refine lv_iconst (v := 0) C.1.1 C.1.2.1 dX2_rentOf_2 (by decide) ?_
  refine lv_istore_n (lv' := [(3, .int _), (2, .int _), (0, .ref _), (1, .int _)]) C.1.1 C.1.2.1 dX2_rentOf_3 rfl hl (by decide) rfl (fun ls hl => ?_)
  obtain ⟨o6, ho, hf⟩ := bd hf
  obtain ⟨n, ho⟩ := lp_it ho
  refine L4 n _ _ _ _ _ _ o6 ho hW (lv_sub hl [2, 3, 1, 0] rfl) ?_
  intro y8 σ7 H locs ls e9 hW hl
  subst e9
  try dsimp only at hf
  refine lv_aload_n C.1.1 C.1.2.1 dX2_rentOf_34 rfl (lv_at hl 0 rfl) ?_
  refine lv_iconst (v := 0) C.1.1 C.1.2.1 dX2_rentOf_35 (by decide) ?_
  refine lv_aload_n C.1.1 C.1.2.1 dX2_rentOf_36 rfl (lv_at hl 0 rfl) ?_
  have hk9 := sh2_14 hW hk_a0
  refine gf2_14 C hW hk_a0 w_324 dX2_rentOf_37 ?_
  refine lv_iload_n C.1.1 C.1.2.1 dX2_rentOf_40 rfl (lv_at hl 1 rfl) ?_
  obtain ⟨hv10, hf⟩ := gd hf
  refine wai C hW hk9 (vin_p hv10) dX2_rentOf_41 ?_
  refine lv_iconst (v := 0) C.1.1 C.1.2.1 dX2_rentOf_42 (by decide) ?_
  refine lv_iload_n C.1.1 C.1.2.1 dX2_rentOf_43 rfl (lv_at hl 1 rfl) ?_
  refine lv_iload_n C.1.1 C.1.2.1 dX2_rentOf_44 rfl (lv_at hl 2 rfl) ?_
  obtain ⟨σ12, hc11, hf⟩ := bd hf
  try dsimp only at hf
  refine cVv C hW (mX2_setVariables hk_a0 hc11) hk_a0 kvX2_setVariables w_688 ⟨(Nat.le_of_ble_eq_true rfl), (Nat.le_of_ble_eq_true rfl)⟩ ⟨Nat.zero_le _, Nat.zero_le _⟩ rfl hl.1 (rest := []) rfl (Nat.le_of_ble_eq_true rfl) dX2_rentOf_45 (fun H locs hW => ?_)
  refine lv_iconst (v := 0) C.1.1 C.1.2.1 dX2_rentOf_48 (by decide) ?_
  refine lv_bipush (v := 99) C.1.1 C.1.2.1 dX2_rentOf_49 (by decide) ?_
  refine lv_aload_n C.1.1 C.1.2.1 dX2_rentOf_51 rfl (lv_at hl 0 rfl) ?_
  have hk16 := sh2_0 hW hk_a0
  refine gf2_0 C hW hk_a0 w_297 dX2_rentOf_52 ?_
  have hk17 := sh3_10 hW hk16
  refine gf3_10 C hW hk16 w_214 dX2_rentOf_55 ?_
  refine lv_iconst (v := 2) C.1.1 C.1.2.1 dX2_rentOf_58 (by decide) ?_
  obtain ⟨⟨r20, σ19⟩, hc18, hf⟩ := bd hf
  try dsimp only at hf
  refine cVi C hW (mX0_valueOf hk17 hc18) hk17 kvX0_valueOf w_698 ⟨(Nat.le_of_ble_eq_true rfl), (Nat.le_of_ble_eq_true rfl)⟩ ⟨Nat.zero_le _, Nat.zero_le _⟩ rfl hl.1 (rest := [.int _, .int _]) rfl (Nat.le_of_ble_eq_true rfl) dX2_rentOf_59 (fun H locs hn21 hW => ?_)
  refine cMin C w_708 w_559 w_121 w_560 hl.1 (Nat.le_of_ble_eq_true rfl) (Nat.le_of_ble_eq_true rfl) ⟨Nat.zero_le _, Nat.zero_le _⟩ dX2_rentOf_62 ?_
  refine cMax C w_709 w_703 w_121 w_704 hl.1 (Nat.le_of_ble_eq_true rfl) (Nat.le_of_ble_eq_true rfl) ⟨Nat.zero_le _, Nat.zero_le _⟩ dX2_rentOf_65 ?_
  exact ri hQ C hr hlk hW hf (rok_i _) dX2_rentOf_68
theorem kvX2_rentOfAll : KV 2 "RightKeys$Ring" yX2_rentOfAll cX2_rentOfAll 3 (some .int) 0 := ⟨⟨w_768, w_769, w_114, w_770⟩, ⟨rfl, by decide, by decide, by decide +kernel⟩, by decide, rfl⟩
noncomputable def bX2_rentOfAll_4 (a0 : Nat) (x1 : Int32) (x2 : Int32) (σ : Sg) : Option ((Int32 × Int32 × Sg) ⊕ (Int32 × Sg)) := if (σ.1 (σ.2.2.1 a0 0) 0) ≤ x2 then (some (Sum.inr (x1, σ))) else ((fX2_rentOf a0 x2 σ).bind (fun q6 => let r4 := q6.1; let σ3 := q6.2; (let x1_7 := (x1 + r4); let x2_8 := x2 + (1 : Int32); some (Sum.inl (x1_7, x2_8, σ3)))))
noncomputable def fX2_rentOfAll (a0 : Nat) (σ : Sg) : Option (Int32 × Sg) := (lp (fun st => bX2_rentOfAll_4 a0 st.1 st.2.1 st.2.2) ((0 : Int32), (0 : Int32), σ)).bind (fun q12 => let y11 := q12.1; let σ10 := q12.2;  some (y11, σ10))
set_option maxRecDepth 100000 in
set_option maxHeartbeats 4000000 in
theorem mX2_rentOfAll {l : Launch} {G : Gm} {a0 : Nat} {σ : Sg} {r : Int32} {σ' : Sg} (hk_a0 : gK G a0 = 3) (hf : fX2_rentOfAll a0 σ = some (r, σ')) : Mi l G yX2_rentOfAll cX2_rentOfAll 3 .int 3 88 [.ref (gB G + a0)] σ r σ' := by
  refine of_W "RightKeys$Ring" rfl (by decide) (Nat.le_of_ble_eq_true rfl) ?_
  intro p e s m args below meth c Q hQ C hr hlk hW ls hl
  have h00 := hW.1
  have hl : lv_has ls 3 [(0, .ref (gB G + a0))] := hl
  delta fX2_rentOfAll at hf
  have L4 : ∀ (n : Nat) (x1 : Int32) (x2 : Int32) (σ : Sg) (H : Heap) (locs : List Loc) (ls : Array Slot) (out : (Int32 × Sg)), iter (fun st => bX2_rentOfAll_4 a0 st.1 st.2.1 st.2.2) n (x1, x2, σ) = some out → Ws G σ s.heap H locs → lv_has ls 3 [(0, .ref (gB G + a0)), (1, .int x1), (2, .int x2)] → (∀ (y1 : Int32) (σ : Sg) (H : Heap) (locs : List Loc) (ls : Array Slot), out = (y1, σ) → Ws G σ s.heap H locs → lv_has ls 3 [(1, .int y1)] → W p l e (rmOf 3 88) s m args below meth c H locs 0 0 Q (F0 m 29 ls [])) → W p l e (rmOf 3 88) s m args below meth c H locs 0 0 Q (F0 m 4 ls []) := by
    intro n
    induction n with
    | zero =>
      intro x1 x2 σ H locs ls out hf
      exact (it_0 hf).elim
    | succ n ih =>
      intro x1 x2 σ H locs ls out hf hW hl K4_29
      obtain ⟨x, hf, hx⟩ := it_s hf
      have hf : bX2_rentOfAll_4 a0 x1 x2 σ = some x := hf
      delta bX2_rentOfAll_4 at hf
      refine lv_iload_n C.1.1 C.1.2.1 dX2_rentOfAll_4 rfl (lv_at hl 2 rfl) ?_
      refine lv_aload_n C.1.1 C.1.2.1 dX2_rentOfAll_5 rfl (lv_at hl 0 rfl) ?_
      have hk1 := sh2_0 hW hk_a0
      refine gf2_0 C hW hk_a0 w_297 dX2_rentOfAll_6 ?_
      refine gf3_0 C hW hk1 w_180 dX2_rentOfAll_9 ?_
      refine lv_icmp_ge (tgt := 29) C.1.1 C.1.2.1 dX2_rentOfAll_12 (by decide) (fun h9 => ?_) (fun h9 => ?_)
      · replace hf := (if_pos h9).symm.trans hf
        cases hf
        cases hx
        exact K4_29 _ _ _ _ _ rfl hW (lv_sub hl [1] rfl)
      · replace hf := (if_neg h9).symm.trans hf
        refine lv_iload_n C.1.1 C.1.2.1 dX2_rentOfAll_15 rfl (lv_at hl 1 rfl) ?_
        refine lv_aload_n C.1.1 C.1.2.1 dX2_rentOfAll_16 rfl (lv_at hl 0 rfl) ?_
        refine lv_iload_n C.1.1 C.1.2.1 dX2_rentOfAll_17 rfl (lv_at hl 2 rfl) ?_
        obtain ⟨⟨r4, σ3⟩, hc2, hf⟩ := bd hf
        try dsimp only at hf
        refine cVi C hW (mX2_rentOf hk_a0 hc2) hk_a0 kvX2_rentOf w_771 ⟨(Nat.le_of_ble_eq_true rfl), (Nat.le_of_ble_eq_true rfl)⟩ ⟨Nat.zero_le _, Nat.zero_le _⟩ rfl hl.1 (rest := [.int _]) rfl (Nat.le_of_ble_eq_true rfl) dX2_rentOfAll_18 (fun H locs hn5 hW => ?_)
        refine lv_iadd C.1.1 C.1.2.1 dX2_rentOfAll_21 ?_
        refine lv_istore_n (lv' := [(1, .int _), (0, .ref _), (2, .int _)]) C.1.1 C.1.2.1 dX2_rentOfAll_22 rfl hl (by decide) rfl (fun ls hl => ?_)
        refine lv_iinc (v := _) (lv' := [(2, .int _), (1, .int _), (0, .ref _)]) C.1.1 C.1.2.1 dX2_rentOfAll_23 hl (k := 2) rfl (ii (k := 1) (by decide)) (by decide) rfl (fun ls hl => ?_)
        refine lv_goto (tgt := 4) C.1.1 C.1.2.1 dX2_rentOfAll_26 (by decide) ?_
        cases hf
        exact ih _ _ _ _ _ _ _ hx hW (lv_sub hl [2, 1, 0] rfl) K4_29
  refine lv_iconst (v := 0) C.1.1 C.1.2.1 dX2_rentOfAll_0 (by decide) ?_
  refine lv_istore_n (lv' := [(1, .int _), (0, .ref _)]) C.1.1 C.1.2.1 dX2_rentOfAll_1 rfl hl (by decide) rfl (fun ls hl => ?_)
  refine lv_iconst (v := 0) C.1.1 C.1.2.1 dX2_rentOfAll_2 (by decide) ?_
  refine lv_istore_n (lv' := [(2, .int _), (1, .int _), (0, .ref _)]) C.1.1 C.1.2.1 dX2_rentOfAll_3 rfl hl (by decide) rfl (fun ls hl => ?_)
  obtain ⟨o9, ho, hf⟩ := bd hf
  obtain ⟨n, ho⟩ := lp_it ho
  refine L4 n _ _ _ _ _ _ o9 ho hW (lv_sub hl [2, 1, 0] rfl) ?_
  intro y11 σ10 H locs ls e9 hW hl
  subst e9
  try dsimp only at hf
  refine lv_iload_n C.1.1 C.1.2.1 dX2_rentOfAll_29 rfl (lv_at hl 0 rfl) ?_
  exact ri hQ C hr hlk hW hf (rok_i _) dX2_rentOfAll_30
