theorem kvX1_readSum : KV 1 "RightKeys$Reader" yX1_readSum cX1_readSum 4 (some .boolean) 1 := ⟨⟨w_633, w_16, w_112, w_634⟩, ⟨rfl, by decide, by decide, by decide +kernel⟩, by decide, rfl⟩
theorem kvX1_readUnit : KV 1 "RightKeys$Reader" yX1_readUnit cX1_readUnit 3 (some .boolean) 1 := ⟨⟨w_641, w_18, w_112, w_642⟩, ⟨rfl, by decide, by decide, by decide +kernel⟩, by decide, rfl⟩
noncomputable def jX1_readUnitB_68 (rs : Nat → Int32 → Sg → Option (Int32 × Sg)) (a0 : Nat) (p1 : Int32) (x2 : Int32) (σ : Sg) : Option (Int32 × Sg) := if x2 = (29 : Int32) then (if p1 < (6 : Int32) then ((fX1_take a0 (29 : Int32) σ).bind (fun q10 => let r8 := q10.1; let σ7 := q10.2; if r8 = 0 then (some ((0 : Int32), σ7)) else ((rs a0 (p1 + (1 : Int32)) σ7).bind (fun q15 => let r13 := q15.1; let σ12 := q15.2; if r13 = 0 then (some ((0 : Int32), σ12)) else ((fX1_take a0 (30 : Int32) σ12).bind (fun q20 => let r18 := q20.1; let σ17 := q20.2; if r18 = 0 then (some ((0 : Int32), σ17)) else (some ((1 : Int32), σ17)))))))) else ((fX1_stop a0 (2 : Int32) σ).bind (fun q25 => let r23 := q25.1; let σ22 := q25.2; some (r23, σ22)))) else ((fX1_stop a0 (1 : Int32) σ).bind (fun q30 => let r28 := q30.1; let σ27 := q30.2; some (r28, σ27)))
noncomputable def fX1_readUnitB (rs : Nat → Int32 → Sg → Option (Int32 × Sg)) (a0 : Nat) (p1 : Int32) (σ : Sg) : Option (Int32 × Sg) := (fX1_kindHere a0 σ).bind (fun q5 => let r3 := q5.1; let σ2 := q5.2; if r3 = (21 : Int32) then ((fX1_valueHere a0 σ2).bind (fun q49 => let r47 := q49.1; let σ46 := q49.2; (fX0_put ((σ2.2.2.1 a0 2) + 7) (0 : Int32) ((r47).toInt32) σ46).bind (fun q54 => let r52 := q54.1; let σ51 := q54.2; (fX1_take a0 r3 σ51).bind (fun q59 => let r57 := q59.1; let σ56 := q59.2; some (r57, σ56))))) else (if r3 < (11 : Int32) then (jX1_readUnitB_68 rs a0 p1 r3 σ2) else (if (19 : Int32) < r3 then (jX1_readUnitB_68 rs a0 p1 r3 σ2) else ((fX0_put ((σ2.2.2.1 a0 2) + 7) (1 : Int32) (r3 - (11 : Int32)) σ2).bind (fun q37 => let r35 := q37.1; let σ34 := q37.2; (fX1_take a0 r3 σ34).bind (fun q42 => let r40 := q42.1; let σ39 := q42.2; some (r40, σ39)))))))
set_option maxRecDepth 100000 in
set_option maxHeartbeats 4000000 in
theorem mX1_readUnitB {l : Launch} {G : Gm} {rs : Nat → Int32 → Sg → Option (Int32 × Sg)} {a0 : Nat} {p1 : Int32} {σ : Sg} {r : Int32} {σ' : Sg} {xr yr : Nat} (hx0 : 12 ≤ xr) (hy0 : 400 ≤ yr) (hS : ∀ (a0 : Nat) (p1 : Int32) (σ : Sg) (r : Int32) (σ' : Sg), gK G a0 = 2 → rs a0 p1 σ = some (r, σ') → Mi l G yX1_readSum cX1_readSum 4 .boolean xr yr [.ref (gB G + a0), .int p1] σ r σ') (hk_a0 : gK G a0 = 2) (hf : fX1_readUnitB rs a0 p1 σ = some (r, σ')) : Mi l G yX1_readUnit cX1_readUnit 3 .boolean (xr + 1) (yr + 40) [.ref (gB G + a0), .int p1] σ r σ' := by
  refine of_W "RightKeys$Reader" rfl (by decide) (Nat.le_of_ble_eq_true rfl) ?_
  intro p e s m args below meth c Q hQ C hr hlk hW ls hl
  have h00 := hW.1
  have hl : lv_has ls 3 [(0, .ref (gB G + a0)), (1, .int p1)] := hl
  delta fX1_readUnitB at hf
  have J68 : ∀ (x2 : Int32) (σ : Sg) (H : Heap) (locs : List Loc) (ls : Array Slot), jX1_readUnitB_68 rs a0 p1 x2 σ = some (r, σ') → Ws G σ s.heap H locs → lv_has ls 3 [(0, .ref (gB G + a0)), (1, .int p1), (2, .int x2)] → W p l e (rmOf (xr + 1) (yr + 40)) s m args below meth c H locs 0 0 Q (F0 m 68 ls []) := by
    intro x2 σ H locs ls hf hW hl
    delta jX1_readUnitB_68 at hf
    refine lv_iload_n C.1.1 C.1.2.1 dX1_readUnit_68 rfl (lv_at hl 2 rfl) ?_
    refine lv_bipush (v := 29) C.1.1 C.1.2.1 dX1_readUnit_69 (by decide) ?_
    refine lv_icmp_eq (tgt := 80) C.1.1 C.1.2.1 dX1_readUnit_71 (by decide) (fun h9 => ?_) (fun h9 => ?_)
    · replace hf := (if_pos h9).symm.trans hf
      refine lv_iload_n C.1.1 C.1.2.1 dX1_readUnit_80 rfl (lv_at hl 1 rfl) ?_
      refine lv_bipush (v := 6) C.1.1 C.1.2.1 dX1_readUnit_81 (by decide) ?_
      refine lv_icmp_lt (tgt := 92) C.1.1 C.1.2.1 dX1_readUnit_83 (by decide) (fun h9 => ?_) (fun h9 => ?_)
      · replace hf := (if_pos h9).symm.trans hf
        refine lv_aload_n C.1.1 C.1.2.1 dX1_readUnit_92 rfl (lv_at hl 0 rfl) ?_
        refine lv_bipush (v := 29) C.1.1 C.1.2.1 dX1_readUnit_93 (by decide) ?_
        obtain ⟨⟨r8, σ7⟩, hc6, hf⟩ := bd hf
        try dsimp only at hf
        refine cVi C hW (mX1_take hk_a0 hc6) hk_a0 kvX1_take w_588 ⟨(by dsimp only [rmOf]; omega), (by dsimp only [rmOf]; omega)⟩ ⟨Nat.zero_le _, Nat.zero_le _⟩ rfl hl.1 (rest := []) rfl (Nat.le_of_ble_eq_true rfl) dX1_readUnit_95 (fun H locs hn9 hW => ?_)
        refine lv_if_eq (tgt := 124) C.1.1 C.1.2.1 dX1_readUnit_98 (by decide) (fun h9 => ?_) (fun h9 => ?_)
        · replace hf := (if_pos h9).symm.trans hf
          refine lv_iconst (v := 0) C.1.1 C.1.2.1 dX1_readUnit_124 (by decide) ?_
          exact ri hQ C hr hlk hW hf (rok_z (Or.inl rfl)) dX1_readUnit_125
        · replace hf := (if_neg h9).symm.trans hf
          refine lv_aload_n C.1.1 C.1.2.1 dX1_readUnit_101 rfl (lv_at hl 0 rfl) ?_
          refine lv_iload_n C.1.1 C.1.2.1 dX1_readUnit_102 rfl (lv_at hl 1 rfl) ?_
          refine lv_iconst (v := 1) C.1.1 C.1.2.1 dX1_readUnit_103 (by decide) ?_
          refine lv_iadd C.1.1 C.1.2.1 dX1_readUnit_104 ?_
          obtain ⟨⟨r13, σ12⟩, hc11, hf⟩ := bd hf
          try dsimp only at hf
          refine cVi C hW (hS _ _ _ _ _ hk_a0 hc11) hk_a0 kvX1_readSum w_631 ⟨(by dsimp only [rmOf]; omega), (by dsimp only [rmOf]; omega)⟩ ⟨Nat.zero_le _, Nat.zero_le _⟩ rfl hl.1 (rest := []) rfl (Nat.le_of_ble_eq_true rfl) dX1_readUnit_105 (fun H locs hn14 hW => ?_)
          refine lv_if_eq (tgt := 124) C.1.1 C.1.2.1 dX1_readUnit_108 (by decide) (fun h9 => ?_) (fun h9 => ?_)
          · replace hf := (if_pos h9).symm.trans hf
            refine lv_iconst (v := 0) C.1.1 C.1.2.1 dX1_readUnit_124 (by decide) ?_
            exact ri hQ C hr hlk hW hf (rok_z (Or.inl rfl)) dX1_readUnit_125
          · replace hf := (if_neg h9).symm.trans hf
            refine lv_aload_n C.1.1 C.1.2.1 dX1_readUnit_111 rfl (lv_at hl 0 rfl) ?_
            refine lv_bipush (v := 30) C.1.1 C.1.2.1 dX1_readUnit_112 (by decide) ?_
            obtain ⟨⟨r18, σ17⟩, hc16, hf⟩ := bd hf
            try dsimp only at hf
            refine cVi C hW (mX1_take hk_a0 hc16) hk_a0 kvX1_take w_588 ⟨(by dsimp only [rmOf]; omega), (by dsimp only [rmOf]; omega)⟩ ⟨Nat.zero_le _, Nat.zero_le _⟩ rfl hl.1 (rest := []) rfl (Nat.le_of_ble_eq_true rfl) dX1_readUnit_114 (fun H locs hn19 hW => ?_)
            refine lv_if_eq (tgt := 124) C.1.1 C.1.2.1 dX1_readUnit_117 (by decide) (fun h9 => ?_) (fun h9 => ?_)
            · replace hf := (if_pos h9).symm.trans hf
              refine lv_iconst (v := 0) C.1.1 C.1.2.1 dX1_readUnit_124 (by decide) ?_
              exact ri hQ C hr hlk hW hf (rok_z (Or.inl rfl)) dX1_readUnit_125
            · replace hf := (if_neg h9).symm.trans hf
              refine lv_iconst (v := 1) C.1.1 C.1.2.1 dX1_readUnit_120 (by decide) ?_
              refine lv_goto (tgt := 125) C.1.1 C.1.2.1 dX1_readUnit_121 (by decide) ?_
              exact ri hQ C hr hlk hW hf (rok_z (Or.inr rfl)) dX1_readUnit_125
      · replace hf := (if_neg h9).symm.trans hf
        refine lv_aload_n C.1.1 C.1.2.1 dX1_readUnit_86 rfl (lv_at hl 0 rfl) ?_
        refine lv_iconst (v := 2) C.1.1 C.1.2.1 dX1_readUnit_87 (by decide) ?_
        obtain ⟨⟨r23, σ22⟩, hc21, hf⟩ := bd hf
        try dsimp only at hf
        refine cVi C hW (mX1_stop hk_a0 hc21) hk_a0 kvX1_stop w_584 ⟨(by dsimp only [rmOf]; omega), (by dsimp only [rmOf]; omega)⟩ ⟨Nat.zero_le _, Nat.zero_le _⟩ rfl hl.1 (rest := []) rfl (Nat.le_of_ble_eq_true rfl) dX1_readUnit_88 (fun H locs hn24 hW => ?_)
        exact ri hQ C hr hlk hW hf (rok_z (hn24.2 rfl)) dX1_readUnit_91
    · replace hf := (if_neg h9).symm.trans hf
      refine lv_aload_n C.1.1 C.1.2.1 dX1_readUnit_74 rfl (lv_at hl 0 rfl) ?_
      refine lv_iconst (v := 1) C.1.1 C.1.2.1 dX1_readUnit_75 (by decide) ?_
      obtain ⟨⟨r28, σ27⟩, hc26, hf⟩ := bd hf
      try dsimp only at hf
      refine cVi C hW (mX1_stop hk_a0 hc26) hk_a0 kvX1_stop w_584 ⟨(by dsimp only [rmOf]; omega), (by dsimp only [rmOf]; omega)⟩ ⟨Nat.zero_le _, Nat.zero_le _⟩ rfl hl.1 (rest := []) rfl (Nat.le_of_ble_eq_true rfl) dX1_readUnit_76 (fun H locs hn29 hW => ?_)
      exact ri hQ C hr hlk hW hf (rok_z (hn29.2 rfl)) dX1_readUnit_79
  refine lv_aload_n C.1.1 C.1.2.1 dX1_readUnit_0 rfl (lv_at hl 0 rfl) ?_
  obtain ⟨⟨r3, σ2⟩, hc1, hf⟩ := bd hf
  try dsimp only at hf
  refine cVi C hW (mX1_kindHere hk_a0 hc1) hk_a0 kvX1_kindHere w_572 ⟨(by dsimp only [rmOf]; omega), (by dsimp only [rmOf]; omega)⟩ ⟨Nat.zero_le _, Nat.zero_le _⟩ rfl hl.1 (rest := []) rfl (Nat.le_of_ble_eq_true rfl) dX1_readUnit_1 (fun H locs hn4 hW => ?_)
  refine lv_istore_n (lv' := [(2, .int _), (0, .ref _), (1, .int _)]) C.1.1 C.1.2.1 dX1_readUnit_4 rfl hl (by decide) rfl (fun ls hl => ?_)
  refine lv_iload_n C.1.1 C.1.2.1 dX1_readUnit_5 rfl (lv_at hl 0 rfl) ?_
  refine lv_bipush (v := 21) C.1.1 C.1.2.1 dX1_readUnit_6 (by decide) ?_
  refine lv_icmp_ne (tgt := 34) C.1.1 C.1.2.1 dX1_readUnit_8 (by decide) (fun h9 => ?_) (fun h9 => ?_)
  · replace hf := (if_neg h9).symm.trans hf
    refine lv_iload_n C.1.1 C.1.2.1 dX1_readUnit_34 rfl (lv_at hl 0 rfl) ?_
    refine lv_bipush (v := 11) C.1.1 C.1.2.1 dX1_readUnit_35 (by decide) ?_
    refine lv_icmp_lt (tgt := 68) C.1.1 C.1.2.1 dX1_readUnit_37 (by decide) (fun h9 => ?_) (fun h9 => ?_)
    · replace hf := (if_pos h9).symm.trans hf
      exact J68 _ _ _ _ _ hf hW (lv_sub hl [1, 2, 0] rfl)
    · replace hf := (if_neg h9).symm.trans hf
      refine lv_iload_n C.1.1 C.1.2.1 dX1_readUnit_40 rfl (lv_at hl 0 rfl) ?_
      refine lv_bipush (v := 19) C.1.1 C.1.2.1 dX1_readUnit_41 (by decide) ?_
      refine lv_icmp_gt (tgt := 68) C.1.1 C.1.2.1 dX1_readUnit_43 (by decide) (fun h9 => ?_) (fun h9 => ?_)
      · replace hf := (if_pos h9).symm.trans hf
        exact J68 _ _ _ _ _ hf hW (lv_sub hl [1, 2, 0] rfl)
      · replace hf := (if_neg h9).symm.trans hf
        refine lv_aload_n C.1.1 C.1.2.1 dX1_readUnit_46 rfl (lv_at hl 1 rfl) ?_
        have hk31 := sh1_2 hW hk_a0
        refine gf1_2 C hW hk_a0 w_270 dX1_readUnit_47 ?_
        have hk32 := sh3_10 hW hk31
        refine gf3_10 C hW hk31 w_215 dX1_readUnit_50 ?_
        refine lv_iconst (v := 1) C.1.1 C.1.2.1 dX1_readUnit_53 (by decide) ?_
        refine lv_iload_n C.1.1 C.1.2.1 dX1_readUnit_54 rfl (lv_at hl 0 rfl) ?_
        refine lv_bipush (v := 11) C.1.1 C.1.2.1 dX1_readUnit_55 (by decide) ?_
        refine lv_isub C.1.1 C.1.2.1 dX1_readUnit_57 ?_
        obtain ⟨⟨r35, σ34⟩, hc33, hf⟩ := bd hf
        try dsimp only at hf
        refine cVi C hW (mX0_put hk32 hc33) hk32 kvX0_put w_643 ⟨(by dsimp only [rmOf]; omega), (by dsimp only [rmOf]; omega)⟩ ⟨Nat.zero_le _, Nat.zero_le _⟩ rfl hl.1 (rest := []) rfl (Nat.le_of_ble_eq_true rfl) dX1_readUnit_58 (fun H locs hn36 hW => ?_)
        refine lv_pop C.1.1 C.1.2.1 dX1_readUnit_61 rfl ?_
        refine lv_aload_n C.1.1 C.1.2.1 dX1_readUnit_62 rfl (lv_at hl 1 rfl) ?_
        refine lv_iload_n C.1.1 C.1.2.1 dX1_readUnit_63 rfl (lv_at hl 0 rfl) ?_
        obtain ⟨⟨r40, σ39⟩, hc38, hf⟩ := bd hf
        try dsimp only at hf
        refine cVi C hW (mX1_take hk_a0 hc38) hk_a0 kvX1_take w_588 ⟨(by dsimp only [rmOf]; omega), (by dsimp only [rmOf]; omega)⟩ ⟨Nat.zero_le _, Nat.zero_le _⟩ rfl hl.1 (rest := []) rfl (Nat.le_of_ble_eq_true rfl) dX1_readUnit_64 (fun H locs hn41 hW => ?_)
        exact ri hQ C hr hlk hW hf (rok_z (hn41.2 rfl)) dX1_readUnit_67
  · replace hf := (if_pos h9).symm.trans hf
    refine lv_aload_n C.1.1 C.1.2.1 dX1_readUnit_11 rfl (lv_at hl 1 rfl) ?_
    have hk43 := sh1_2 hW hk_a0
    refine gf1_2 C hW hk_a0 w_270 dX1_readUnit_12 ?_
    have hk44 := sh3_10 hW hk43
    refine gf3_10 C hW hk43 w_215 dX1_readUnit_15 ?_
    refine lv_iconst (v := 0) C.1.1 C.1.2.1 dX1_readUnit_18 (by decide) ?_
    refine lv_aload_n C.1.1 C.1.2.1 dX1_readUnit_19 rfl (lv_at hl 1 rfl) ?_
    obtain ⟨⟨r47, σ46⟩, hc45, hf⟩ := bd hf
    try dsimp only at hf
    refine cVl C hW (mX1_valueHere hk_a0 hc45) hk_a0 kvX1_valueHere w_592 ⟨(by dsimp only [rmOf]; omega), (by dsimp only [rmOf]; omega)⟩ ⟨Nat.zero_le _, Nat.zero_le _⟩ rfl hl.1 (rest := [.int _, .ref _]) rfl (Nat.le_of_ble_eq_true rfl) dX1_readUnit_20 (fun H locs hW => ?_)
    refine lv_l2i (v := Int64.toInt32 _) C.1.1 C.1.2.1 dX1_readUnit_23 rfl ?_
    obtain ⟨⟨r52, σ51⟩, hc50, hf⟩ := bd hf
    try dsimp only at hf
    refine cVi C hW (mX0_put hk44 hc50) hk44 kvX0_put w_643 ⟨(by dsimp only [rmOf]; omega), (by dsimp only [rmOf]; omega)⟩ ⟨Nat.zero_le _, Nat.zero_le _⟩ rfl hl.1 (rest := []) rfl (Nat.le_of_ble_eq_true rfl) dX1_readUnit_24 (fun H locs hn53 hW => ?_)
    refine lv_pop C.1.1 C.1.2.1 dX1_readUnit_27 rfl ?_
    refine lv_aload_n C.1.1 C.1.2.1 dX1_readUnit_28 rfl (lv_at hl 1 rfl) ?_
    refine lv_iload_n C.1.1 C.1.2.1 dX1_readUnit_29 rfl (lv_at hl 0 rfl) ?_
    obtain ⟨⟨r57, σ56⟩, hc55, hf⟩ := bd hf
    try dsimp only at hf
    refine cVi C hW (mX1_take hk_a0 hc55) hk_a0 kvX1_take w_588 ⟨(by dsimp only [rmOf]; omega), (by dsimp only [rmOf]; omega)⟩ ⟨Nat.zero_le _, Nat.zero_le _⟩ rfl hl.1 (rest := []) rfl (Nat.le_of_ble_eq_true rfl) dX1_readUnit_30 (fun H locs hn58 hW => ?_)
    exact ri hQ C hr hlk hW hf (rok_z (hn58.2 rfl)) dX1_readUnit_33
theorem kvX1_readProduct : KV 1 "RightKeys$Reader" yX1_readProduct cX1_readProduct 4 (some .boolean) 1 := ⟨⟨w_637, w_17, w_112, w_638⟩, ⟨rfl, by decide, by decide, by decide +kernel⟩, by decide, rfl⟩
noncomputable def jX1_readProductB_74 (rs : Nat → Int32 → Sg → Option (Int32 × Sg)) (a0 : Nat) (p1 : Int32) (x2 : Int32) (s0 : Nat) (s1 : Int32) (σ : Sg) : Option ((Int32 × Sg) ⊕ ((Sg) ⊕ ((Sg) ⊕ (Sg)))) := (fX0_put s0 s1 (0 : Int32) σ).bind (fun q27 => let r25 := q27.1; let σ24 := q27.2; (let x2_28 := x2 + (1 : Int32); some (Sum.inl (x2_28, σ24))))
noncomputable def jX1_readProductB_38 (rs : Nat → Int32 → Sg → Option (Int32 × Sg)) (a0 : Nat) (p1 : Int32) (x2 : Int32) (x3 : Int32) (σ : Sg) : Option ((Int32 × Sg) ⊕ ((Sg) ⊕ ((Sg) ⊕ (Sg)))) := (fX1_take a0 x3 σ).bind (fun q15 => let r13 := q15.1; let σ12 := q15.2; if r13 = 0 then (some (Sum.inr (Sum.inr (Sum.inl σ12)))) else ((fX1_readUnitB rs a0 p1 σ12).bind (fun q20 => let r18 := q20.1; let σ17 := q20.2; if r18 = 0 then (some (Sum.inr (Sum.inr (Sum.inl σ17)))) else (if x3 = (26 : Int32) then (jX1_readProductB_74 rs a0 p1 x2 ((σ17.2.2.1 a0 2) + 7) (4 : Int32) σ17) else (jX1_readProductB_74 rs a0 p1 x2 ((σ17.2.2.1 a0 2) + 7) (5 : Int32) σ17)))))
noncomputable def bX1_readProductB_12 (rs : Nat → Int32 → Sg → Option (Int32 × Sg)) (a0 : Nat) (p1 : Int32) (x2 : Int32) (σ : Sg) : Option ((Int32 × Sg) ⊕ ((Sg) ⊕ ((Sg) ⊕ (Sg)))) := if (400 : Int32) < x2 then (some (Sum.inr (Sum.inr (Sum.inr σ)))) else ((fX1_kindHere a0 σ).bind (fun q10 => let r8 := q10.1; let σ7 := q10.2; if r8 = (26 : Int32) then (jX1_readProductB_38 rs a0 p1 x2 r8 σ7) else (if r8 = (27 : Int32) then (jX1_readProductB_38 rs a0 p1 x2 r8 σ7) else (some (Sum.inr (Sum.inl σ7))))))
noncomputable def fX1_readProductB (rs : Nat → Int32 → Sg → Option (Int32 × Sg)) (a0 : Nat) (p1 : Int32) (σ : Sg) : Option (Int32 × Sg) := (fX1_readUnitB rs a0 p1 σ).bind (fun q5 => let r3 := q5.1; let σ2 := q5.2; if r3 = 0 then (some ((0 : Int32), σ2)) else ((lp (fun st => bX1_readProductB_12 rs a0 p1 st.1 st.2) ((1 : Int32), σ2)).bind (fun o29 => Sum.elim (fun σ30 => some ((1 : Int32), σ30)) (fun o29_ => Sum.elim (fun σ31 => some ((0 : Int32), σ31)) (fun o29__ => (fun σ32 => (fX1_stop a0 (2 : Int32) σ32).bind (fun q37 => let r35 := q37.1; let σ34 := q37.2; some (r35, σ34))) o29__) o29_) o29)))
set_option maxRecDepth 100000 in
set_option maxHeartbeats 4000000 in
theorem mX1_readProductB {l : Launch} {G : Gm} {rs : Nat → Int32 → Sg → Option (Int32 × Sg)} {a0 : Nat} {p1 : Int32} {σ : Sg} {r : Int32} {σ' : Sg} {xr yr : Nat} (hx0 : 12 ≤ xr) (hy0 : 400 ≤ yr) (hS : ∀ (a0 : Nat) (p1 : Int32) (σ : Sg) (r : Int32) (σ' : Sg), gK G a0 = 2 → rs a0 p1 σ = some (r, σ') → Mi l G yX1_readSum cX1_readSum 4 .boolean xr yr [.ref (gB G + a0), .int p1] σ r σ') (hk_a0 : gK G a0 = 2) (hf : fX1_readProductB rs a0 p1 σ = some (r, σ')) : Mi l G yX1_readProduct cX1_readProduct 4 .boolean (xr + 2) (yr + 80) [.ref (gB G + a0), .int p1] σ r σ' := by
  refine of_W "RightKeys$Reader" rfl (by decide) (Nat.le_of_ble_eq_true rfl) ?_
  intro p e s m args below meth c Q hQ C hr hlk hW ls hl
  have h00 := hW.1
  have hl : lv_has ls 4 [(0, .ref (gB G + a0)), (1, .int p1)] := hl
  delta fX1_readProductB at hf
  have L12 : ∀ (n : Nat) (x2 : Int32) (σ : Sg) (H : Heap) (locs : List Loc) (ls : Array Slot) (out : ((Sg) ⊕ ((Sg) ⊕ (Sg)))), iter (fun st => bX1_readProductB_12 rs a0 p1 st.1 st.2) n (x2, σ) = some out → Ws G σ s.heap H locs → lv_has ls 4 [(0, .ref (gB G + a0)), (1, .int p1), (2, .int x2)] → (∀ (σ : Sg) (H : Heap) (locs : List Loc) (ls : Array Slot), out = (Sum.inl σ) → Ws G σ s.heap H locs → lv_has ls 4 [] → W p l e (rmOf (xr + 2) (yr + 80)) s m args below meth c H locs 0 0 Q (F0 m 36 ls [])) → (∀ (σ : Sg) (H : Heap) (locs : List Loc) (ls : Array Slot), out = (Sum.inr (Sum.inl σ)) → Ws G σ s.heap H locs → lv_has ls 4 [] → W p l e (rmOf (xr + 2) (yr + 80)) s m args below meth c H locs 0 0 Q (F0 m 54 ls [])) → (∀ (σ : Sg) (H : Heap) (locs : List Loc) (ls : Array Slot), out = (Sum.inr (Sum.inr σ)) → Ws G σ s.heap H locs → lv_has ls 4 [(0, .ref (gB G + a0))] → W p l e (rmOf (xr + 2) (yr + 80)) s m args below meth c H locs 0 0 Q (F0 m 85 ls [])) → W p l e (rmOf (xr + 2) (yr + 80)) s m args below meth c H locs 0 0 Q (F0 m 12 ls []) := by
    intro n
    induction n with
    | zero =>
      intro x2 σ H locs ls out hf
      exact (it_0 hf).elim
    | succ n ih =>
      intro x2 σ H locs ls out hf hW hl K12_36 K12_54 K12_85
      obtain ⟨x, hf, hx⟩ := it_s hf
      have hf : bX1_readProductB_12 rs a0 p1 x2 σ = some x := hf
      delta bX1_readProductB_12 at hf
      have J74 : ∀ (x2 : Int32) (s0 : Nat) (s1 : Int32) (σ : Sg) (H : Heap) (locs : List Loc) (ls : Array Slot) (hk_s0 : gK G s0 = 1), jX1_readProductB_74 rs a0 p1 x2 s0 s1 σ = some x → Ws G σ s.heap H locs → lv_has ls 4 [(0, .ref (gB G + a0)), (1, .int p1), (2, .int x2)] → W p l e (rmOf (xr + 2) (yr + 80)) s m args below meth c H locs 0 0 Q (F0 m 74 ls [.int s1, .ref (gB G + s0)]) := by
        intro x2 s0 s1 σ H locs ls hk_s0 hf hW hl
        delta jX1_readProductB_74 at hf
        refine lv_iconst (v := 0) C.1.1 C.1.2.1 dX1_readProduct_74 (by decide) ?_
        obtain ⟨⟨r25, σ24⟩, hc23, hf⟩ := bd hf
        try dsimp only at hf
        refine cVi C hW (mX0_put hk_s0 hc23) hk_s0 kvX0_put w_643 ⟨(by dsimp only [rmOf]; omega), (by dsimp only [rmOf]; omega)⟩ ⟨Nat.zero_le _, Nat.zero_le _⟩ rfl hl.1 (rest := []) rfl (Nat.le_of_ble_eq_true rfl) dX1_readProduct_75 (fun H locs hn26 hW => ?_)
        refine lv_pop C.1.1 C.1.2.1 dX1_readProduct_78 rfl ?_
        refine lv_iinc (v := _) (lv' := [(2, .int _), (0, .ref _), (1, .int _)]) C.1.1 C.1.2.1 dX1_readProduct_79 hl (k := 2) rfl (ii (k := 1) (by decide)) (by decide) rfl (fun ls hl => ?_)
        refine lv_goto (tgt := 12) C.1.1 C.1.2.1 dX1_readProduct_82 (by decide) ?_
        cases hf
        exact ih _ _ _ _ _ _ hx hW (lv_sub hl [1, 2, 0] rfl) K12_36 K12_54 K12_85
      have J38 : ∀ (x2 : Int32) (x3 : Int32) (σ : Sg) (H : Heap) (locs : List Loc) (ls : Array Slot), jX1_readProductB_38 rs a0 p1 x2 x3 σ = some x → Ws G σ s.heap H locs → lv_has ls 4 [(0, .ref (gB G + a0)), (1, .int p1), (2, .int x2), (3, .int x3)] → W p l e (rmOf (xr + 2) (yr + 80)) s m args below meth c H locs 0 0 Q (F0 m 38 ls []) := by
        intro x2 x3 σ H locs ls hf hW hl
        delta jX1_readProductB_38 at hf
        refine lv_aload_n C.1.1 C.1.2.1 dX1_readProduct_38 rfl (lv_at hl 0 rfl) ?_
        refine lv_iload_n C.1.1 C.1.2.1 dX1_readProduct_39 rfl (lv_at hl 3 rfl) ?_
        obtain ⟨⟨r13, σ12⟩, hc11, hf⟩ := bd hf
        try dsimp only at hf
        refine cVi C hW (mX1_take hk_a0 hc11) hk_a0 kvX1_take w_588 ⟨(by dsimp only [rmOf]; omega), (by dsimp only [rmOf]; omega)⟩ ⟨Nat.zero_le _, Nat.zero_le _⟩ rfl hl.1 (rest := []) rfl (Nat.le_of_ble_eq_true rfl) dX1_readProduct_40 (fun H locs hn14 hW => ?_)
        refine lv_if_eq (tgt := 54) C.1.1 C.1.2.1 dX1_readProduct_43 (by decide) (fun h9 => ?_) (fun h9 => ?_)
        · replace hf := (if_pos h9).symm.trans hf
          cases hf
          cases hx
          exact K12_54 _ _ _ _ rfl hW (lv_sub hl [] rfl)
        · replace hf := (if_neg h9).symm.trans hf
          refine lv_aload_n C.1.1 C.1.2.1 dX1_readProduct_46 rfl (lv_at hl 0 rfl) ?_
          refine lv_iload_n C.1.1 C.1.2.1 dX1_readProduct_47 rfl (lv_at hl 1 rfl) ?_
          obtain ⟨⟨r18, σ17⟩, hc16, hf⟩ := bd hf
          try dsimp only at hf
          refine cVi C hW (mX1_readUnitB hx0 hy0 hS hk_a0 hc16) hk_a0 kvX1_readUnit w_639 ⟨(by dsimp only [rmOf]; omega), (by dsimp only [rmOf]; omega)⟩ ⟨Nat.zero_le _, Nat.zero_le _⟩ rfl hl.1 (rest := []) rfl (Nat.le_of_ble_eq_true rfl) dX1_readProduct_48 (fun H locs hn19 hW => ?_)
          refine lv_if_ne (tgt := 56) C.1.1 C.1.2.1 dX1_readProduct_51 (by decide) (fun h9 => ?_) (fun h9 => ?_)
          · replace hf := (if_neg h9).symm.trans hf
            refine lv_aload_n C.1.1 C.1.2.1 dX1_readProduct_56 rfl (lv_at hl 0 rfl) ?_
            have hk21 := sh1_2 hW hk_a0
            refine gf1_2 C hW hk_a0 w_270 dX1_readProduct_57 ?_
            have hk22 := sh3_10 hW hk21
            refine gf3_10 C hW hk21 w_215 dX1_readProduct_60 ?_
            refine lv_iload_n C.1.1 C.1.2.1 dX1_readProduct_63 rfl (lv_at hl 3 rfl) ?_
            refine lv_bipush (v := 26) C.1.1 C.1.2.1 dX1_readProduct_64 (by decide) ?_
            refine lv_icmp_ne (tgt := 73) C.1.1 C.1.2.1 dX1_readProduct_66 (by decide) (fun h9 => ?_) (fun h9 => ?_)
            · replace hf := (if_neg h9).symm.trans hf
              refine lv_iconst (v := 5) C.1.1 C.1.2.1 dX1_readProduct_73 (by decide) ?_
              exact J74 _ _ _ _ _ _ _ hk22 hf hW (lv_sub hl [0, 1, 2] rfl)
            · replace hf := (if_pos h9).symm.trans hf
              refine lv_iconst (v := 4) C.1.1 C.1.2.1 dX1_readProduct_69 (by decide) ?_
              refine lv_goto (tgt := 74) C.1.1 C.1.2.1 dX1_readProduct_70 (by decide) ?_
              exact J74 _ _ _ _ _ _ _ hk22 hf hW (lv_sub hl [0, 1, 2] rfl)
          · replace hf := (if_pos h9).symm.trans hf
            cases hf
            cases hx
            exact K12_54 _ _ _ _ rfl hW (lv_sub hl [] rfl)
      refine lv_iload_n C.1.1 C.1.2.1 dX1_readProduct_12 rfl (lv_at hl 2 rfl) ?_
      refine lv_sipush (v := 400) C.1.1 C.1.2.1 dX1_readProduct_13 (by decide) ?_
      refine lv_icmp_gt (tgt := 85) C.1.1 C.1.2.1 dX1_readProduct_16 (by decide) (fun h9 => ?_) (fun h9 => ?_)
      · replace hf := (if_pos h9).symm.trans hf
        cases hf
        cases hx
        exact K12_85 _ _ _ _ rfl hW (lv_sub hl [0] rfl)
      · replace hf := (if_neg h9).symm.trans hf
        refine lv_aload_n C.1.1 C.1.2.1 dX1_readProduct_19 rfl (lv_at hl 0 rfl) ?_
        obtain ⟨⟨r8, σ7⟩, hc6, hf⟩ := bd hf
        try dsimp only at hf
        refine cVi C hW (mX1_kindHere hk_a0 hc6) hk_a0 kvX1_kindHere w_572 ⟨(by dsimp only [rmOf]; omega), (by dsimp only [rmOf]; omega)⟩ ⟨Nat.zero_le _, Nat.zero_le _⟩ rfl hl.1 (rest := []) rfl (Nat.le_of_ble_eq_true rfl) dX1_readProduct_20 (fun H locs hn9 hW => ?_)
        refine lv_istore_n (lv' := [(3, .int _), (0, .ref _), (1, .int _), (2, .int _)]) C.1.1 C.1.2.1 dX1_readProduct_23 rfl hl (by decide) rfl (fun ls hl => ?_)
        refine lv_iload_n C.1.1 C.1.2.1 dX1_readProduct_24 rfl (lv_at hl 0 rfl) ?_
        refine lv_bipush (v := 26) C.1.1 C.1.2.1 dX1_readProduct_25 (by decide) ?_
        refine lv_icmp_eq (tgt := 38) C.1.1 C.1.2.1 dX1_readProduct_27 (by decide) (fun h9 => ?_) (fun h9 => ?_)
        · replace hf := (if_pos h9).symm.trans hf
          exact J38 _ _ _ _ _ _ hf hW (lv_sub hl [1, 2, 3, 0] rfl)
        · replace hf := (if_neg h9).symm.trans hf
          refine lv_iload_n C.1.1 C.1.2.1 dX1_readProduct_30 rfl (lv_at hl 0 rfl) ?_
          refine lv_bipush (v := 27) C.1.1 C.1.2.1 dX1_readProduct_31 (by decide) ?_
          refine lv_icmp_eq (tgt := 38) C.1.1 C.1.2.1 dX1_readProduct_33 (by decide) (fun h9 => ?_) (fun h9 => ?_)
          · replace hf := (if_pos h9).symm.trans hf
            exact J38 _ _ _ _ _ _ hf hW (lv_sub hl [1, 2, 3, 0] rfl)
          · replace hf := (if_neg h9).symm.trans hf
            cases hf
            cases hx
            exact K12_36 _ _ _ _ rfl hW (lv_sub hl [] rfl)
  refine lv_aload_n C.1.1 C.1.2.1 dX1_readProduct_0 rfl (lv_at hl 0 rfl) ?_
  refine lv_iload_n C.1.1 C.1.2.1 dX1_readProduct_1 rfl (lv_at hl 1 rfl) ?_
  obtain ⟨⟨r3, σ2⟩, hc1, hf⟩ := bd hf
  try dsimp only at hf
  refine cVi C hW (mX1_readUnitB hx0 hy0 hS hk_a0 hc1) hk_a0 kvX1_readUnit w_639 ⟨(by dsimp only [rmOf]; omega), (by dsimp only [rmOf]; omega)⟩ ⟨Nat.zero_le _, Nat.zero_le _⟩ rfl hl.1 (rest := []) rfl (Nat.le_of_ble_eq_true rfl) dX1_readProduct_2 (fun H locs hn4 hW => ?_)
  refine lv_if_ne (tgt := 10) C.1.1 C.1.2.1 dX1_readProduct_5 (by decide) (fun h9 => ?_) (fun h9 => ?_)
  · replace hf := (if_neg h9).symm.trans hf
    refine lv_iconst (v := 1) C.1.1 C.1.2.1 dX1_readProduct_10 (by decide) ?_
    refine lv_istore_n (lv' := [(2, .int _), (0, .ref _), (1, .int _)]) C.1.1 C.1.2.1 dX1_readProduct_11 rfl hl (by decide) rfl (fun ls hl => ?_)
    obtain ⟨o29, ho, hf⟩ := bd hf
    obtain ⟨n, ho⟩ := lp_it ho
    refine L12 n _ _ _ _ _ o29 ho hW (lv_sub hl [1, 2, 0] rfl) ?_ ?_ ?_
    · intro  σ30 H locs ls e9 hW hl
      subst e9
      try dsimp only at hf
      refine lv_iconst (v := 1) C.1.1 C.1.2.1 dX1_readProduct_36 (by decide) ?_
      exact ri hQ C hr hlk hW hf (rok_z (Or.inr rfl)) dX1_readProduct_37
    · intro  σ31 H locs ls e9 hW hl
      subst e9
      try dsimp only at hf
      refine lv_iconst (v := 0) C.1.1 C.1.2.1 dX1_readProduct_54 (by decide) ?_
      exact ri hQ C hr hlk hW hf (rok_z (Or.inl rfl)) dX1_readProduct_55
    · intro  σ32 H locs ls e9 hW hl
      subst e9
      try dsimp only at hf
      refine lv_aload_n C.1.1 C.1.2.1 dX1_readProduct_85 rfl (lv_at hl 0 rfl) ?_
      refine lv_iconst (v := 2) C.1.1 C.1.2.1 dX1_readProduct_86 (by decide) ?_
      obtain ⟨⟨r35, σ34⟩, hc33, hf⟩ := bd hf
      try dsimp only at hf
      refine cVi C hW (mX1_stop hk_a0 hc33) hk_a0 kvX1_stop w_584 ⟨(by dsimp only [rmOf]; omega), (by dsimp only [rmOf]; omega)⟩ ⟨Nat.zero_le _, Nat.zero_le _⟩ rfl hl.1 (rest := []) rfl (Nat.le_of_ble_eq_true rfl) dX1_readProduct_87 (fun H locs hn36 hW => ?_)
      exact ri hQ C hr hlk hW hf (rok_z (hn36.2 rfl)) dX1_readProduct_90
  · replace hf := (if_pos h9).symm.trans hf
    refine lv_iconst (v := 0) C.1.1 C.1.2.1 dX1_readProduct_8 (by decide) ?_
    exact ri hQ C hr hlk hW hf (rok_z (Or.inl rfl)) dX1_readProduct_9
noncomputable def jX1_readSumB_74 (rs : Nat → Int32 → Sg → Option (Int32 × Sg)) (a0 : Nat) (p1 : Int32) (x2 : Int32) (s0 : Nat) (s1 : Int32) (σ : Sg) : Option ((Int32 × Sg) ⊕ ((Sg) ⊕ ((Sg) ⊕ (Sg)))) := (fX0_put s0 s1 (0 : Int32) σ).bind (fun q27 => let r25 := q27.1; let σ24 := q27.2; (let x2_28 := x2 + (1 : Int32); some (Sum.inl (x2_28, σ24))))
noncomputable def jX1_readSumB_38 (rs : Nat → Int32 → Sg → Option (Int32 × Sg)) (a0 : Nat) (p1 : Int32) (x2 : Int32) (x3 : Int32) (σ : Sg) : Option ((Int32 × Sg) ⊕ ((Sg) ⊕ ((Sg) ⊕ (Sg)))) := (fX1_take a0 x3 σ).bind (fun q15 => let r13 := q15.1; let σ12 := q15.2; if r13 = 0 then (some (Sum.inr (Sum.inr (Sum.inl σ12)))) else ((fX1_readProductB rs a0 p1 σ12).bind (fun q20 => let r18 := q20.1; let σ17 := q20.2; if r18 = 0 then (some (Sum.inr (Sum.inr (Sum.inl σ17)))) else (if x3 = (24 : Int32) then (jX1_readSumB_74 rs a0 p1 x2 ((σ17.2.2.1 a0 2) + 7) (2 : Int32) σ17) else (jX1_readSumB_74 rs a0 p1 x2 ((σ17.2.2.1 a0 2) + 7) (3 : Int32) σ17)))))
noncomputable def bX1_readSumB_12 (rs : Nat → Int32 → Sg → Option (Int32 × Sg)) (a0 : Nat) (p1 : Int32) (x2 : Int32) (σ : Sg) : Option ((Int32 × Sg) ⊕ ((Sg) ⊕ ((Sg) ⊕ (Sg)))) := if (400 : Int32) < x2 then (some (Sum.inr (Sum.inr (Sum.inr σ)))) else ((fX1_kindHere a0 σ).bind (fun q10 => let r8 := q10.1; let σ7 := q10.2; if r8 = (24 : Int32) then (jX1_readSumB_38 rs a0 p1 x2 r8 σ7) else (if r8 = (25 : Int32) then (jX1_readSumB_38 rs a0 p1 x2 r8 σ7) else (some (Sum.inr (Sum.inl σ7))))))
noncomputable def fX1_readSumB (rs : Nat → Int32 → Sg → Option (Int32 × Sg)) (a0 : Nat) (p1 : Int32) (σ : Sg) : Option (Int32 × Sg) := (fX1_readProductB rs a0 p1 σ).bind (fun q5 => let r3 := q5.1; let σ2 := q5.2; if r3 = 0 then (some ((0 : Int32), σ2)) else ((lp (fun st => bX1_readSumB_12 rs a0 p1 st.1 st.2) ((1 : Int32), σ2)).bind (fun o29 => Sum.elim (fun σ30 => some ((1 : Int32), σ30)) (fun o29_ => Sum.elim (fun σ31 => some ((0 : Int32), σ31)) (fun o29__ => (fun σ32 => (fX1_stop a0 (2 : Int32) σ32).bind (fun q37 => let r35 := q37.1; let σ34 := q37.2; some (r35, σ34))) o29__) o29_) o29)))
set_option maxRecDepth 100000 in
set_option maxHeartbeats 4000000 in
theorem mX1_readSumB {l : Launch} {G : Gm} {rs : Nat → Int32 → Sg → Option (Int32 × Sg)} {a0 : Nat} {p1 : Int32} {σ : Sg} {r : Int32} {σ' : Sg} {xr yr : Nat} (hx0 : 12 ≤ xr) (hy0 : 400 ≤ yr) (hS : ∀ (a0 : Nat) (p1 : Int32) (σ : Sg) (r : Int32) (σ' : Sg), gK G a0 = 2 → rs a0 p1 σ = some (r, σ') → Mi l G yX1_readSum cX1_readSum 4 .boolean xr yr [.ref (gB G + a0), .int p1] σ r σ') (hk_a0 : gK G a0 = 2) (hf : fX1_readSumB rs a0 p1 σ = some (r, σ')) : Mi l G yX1_readSum cX1_readSum 4 .boolean (xr + 3) (yr + 120) [.ref (gB G + a0), .int p1] σ r σ' := by
  refine of_W "RightKeys$Reader" rfl (by decide) (Nat.le_of_ble_eq_true rfl) ?_
  intro p e s m args below meth c Q hQ C hr hlk hW ls hl
  have h00 := hW.1
  have hl : lv_has ls 4 [(0, .ref (gB G + a0)), (1, .int p1)] := hl
  delta fX1_readSumB at hf
  have L12 : ∀ (n : Nat) (x2 : Int32) (σ : Sg) (H : Heap) (locs : List Loc) (ls : Array Slot) (out : ((Sg) ⊕ ((Sg) ⊕ (Sg)))), iter (fun st => bX1_readSumB_12 rs a0 p1 st.1 st.2) n (x2, σ) = some out → Ws G σ s.heap H locs → lv_has ls 4 [(0, .ref (gB G + a0)), (1, .int p1), (2, .int x2)] → (∀ (σ : Sg) (H : Heap) (locs : List Loc) (ls : Array Slot), out = (Sum.inl σ) → Ws G σ s.heap H locs → lv_has ls 4 [] → W p l e (rmOf (xr + 3) (yr + 120)) s m args below meth c H locs 0 0 Q (F0 m 36 ls [])) → (∀ (σ : Sg) (H : Heap) (locs : List Loc) (ls : Array Slot), out = (Sum.inr (Sum.inl σ)) → Ws G σ s.heap H locs → lv_has ls 4 [] → W p l e (rmOf (xr + 3) (yr + 120)) s m args below meth c H locs 0 0 Q (F0 m 54 ls [])) → (∀ (σ : Sg) (H : Heap) (locs : List Loc) (ls : Array Slot), out = (Sum.inr (Sum.inr σ)) → Ws G σ s.heap H locs → lv_has ls 4 [(0, .ref (gB G + a0))] → W p l e (rmOf (xr + 3) (yr + 120)) s m args below meth c H locs 0 0 Q (F0 m 85 ls [])) → W p l e (rmOf (xr + 3) (yr + 120)) s m args below meth c H locs 0 0 Q (F0 m 12 ls []) := by
    intro n
    induction n with
    | zero =>
      intro x2 σ H locs ls out hf
      exact (it_0 hf).elim
    | succ n ih =>
      intro x2 σ H locs ls out hf hW hl K12_36 K12_54 K12_85
      obtain ⟨x, hf, hx⟩ := it_s hf
      have hf : bX1_readSumB_12 rs a0 p1 x2 σ = some x := hf
      delta bX1_readSumB_12 at hf
      have J74 : ∀ (x2 : Int32) (s0 : Nat) (s1 : Int32) (σ : Sg) (H : Heap) (locs : List Loc) (ls : Array Slot) (hk_s0 : gK G s0 = 1), jX1_readSumB_74 rs a0 p1 x2 s0 s1 σ = some x → Ws G σ s.heap H locs → lv_has ls 4 [(0, .ref (gB G + a0)), (1, .int p1), (2, .int x2)] → W p l e (rmOf (xr + 3) (yr + 120)) s m args below meth c H locs 0 0 Q (F0 m 74 ls [.int s1, .ref (gB G + s0)]) := by
        intro x2 s0 s1 σ H locs ls hk_s0 hf hW hl
        delta jX1_readSumB_74 at hf
        refine lv_iconst (v := 0) C.1.1 C.1.2.1 dX1_readSum_74 (by decide) ?_
        obtain ⟨⟨r25, σ24⟩, hc23, hf⟩ := bd hf
        try dsimp only at hf
        refine cVi C hW (mX0_put hk_s0 hc23) hk_s0 kvX0_put w_643 ⟨(by dsimp only [rmOf]; omega), (by dsimp only [rmOf]; omega)⟩ ⟨Nat.zero_le _, Nat.zero_le _⟩ rfl hl.1 (rest := []) rfl (Nat.le_of_ble_eq_true rfl) dX1_readSum_75 (fun H locs hn26 hW => ?_)
        refine lv_pop C.1.1 C.1.2.1 dX1_readSum_78 rfl ?_
        refine lv_iinc (v := _) (lv' := [(2, .int _), (0, .ref _), (1, .int _)]) C.1.1 C.1.2.1 dX1_readSum_79 hl (k := 2) rfl (ii (k := 1) (by decide)) (by decide) rfl (fun ls hl => ?_)
        refine lv_goto (tgt := 12) C.1.1 C.1.2.1 dX1_readSum_82 (by decide) ?_
        cases hf
        exact ih _ _ _ _ _ _ hx hW (lv_sub hl [1, 2, 0] rfl) K12_36 K12_54 K12_85
      have J38 : ∀ (x2 : Int32) (x3 : Int32) (σ : Sg) (H : Heap) (locs : List Loc) (ls : Array Slot), jX1_readSumB_38 rs a0 p1 x2 x3 σ = some x → Ws G σ s.heap H locs → lv_has ls 4 [(0, .ref (gB G + a0)), (1, .int p1), (2, .int x2), (3, .int x3)] → W p l e (rmOf (xr + 3) (yr + 120)) s m args below meth c H locs 0 0 Q (F0 m 38 ls []) := by
        intro x2 x3 σ H locs ls hf hW hl
        delta jX1_readSumB_38 at hf
        refine lv_aload_n C.1.1 C.1.2.1 dX1_readSum_38 rfl (lv_at hl 0 rfl) ?_
        refine lv_iload_n C.1.1 C.1.2.1 dX1_readSum_39 rfl (lv_at hl 3 rfl) ?_
        obtain ⟨⟨r13, σ12⟩, hc11, hf⟩ := bd hf
        try dsimp only at hf
        refine cVi C hW (mX1_take hk_a0 hc11) hk_a0 kvX1_take w_588 ⟨(by dsimp only [rmOf]; omega), (by dsimp only [rmOf]; omega)⟩ ⟨Nat.zero_le _, Nat.zero_le _⟩ rfl hl.1 (rest := []) rfl (Nat.le_of_ble_eq_true rfl) dX1_readSum_40 (fun H locs hn14 hW => ?_)
        refine lv_if_eq (tgt := 54) C.1.1 C.1.2.1 dX1_readSum_43 (by decide) (fun h9 => ?_) (fun h9 => ?_)
        · replace hf := (if_pos h9).symm.trans hf
          cases hf
          cases hx
          exact K12_54 _ _ _ _ rfl hW (lv_sub hl [] rfl)
        · replace hf := (if_neg h9).symm.trans hf
          refine lv_aload_n C.1.1 C.1.2.1 dX1_readSum_46 rfl (lv_at hl 0 rfl) ?_
          refine lv_iload_n C.1.1 C.1.2.1 dX1_readSum_47 rfl (lv_at hl 1 rfl) ?_
          obtain ⟨⟨r18, σ17⟩, hc16, hf⟩ := bd hf
          try dsimp only at hf
          refine cVi C hW (mX1_readProductB hx0 hy0 hS hk_a0 hc16) hk_a0 kvX1_readProduct w_635 ⟨(by dsimp only [rmOf]; omega), (by dsimp only [rmOf]; omega)⟩ ⟨Nat.zero_le _, Nat.zero_le _⟩ rfl hl.1 (rest := []) rfl (Nat.le_of_ble_eq_true rfl) dX1_readSum_48 (fun H locs hn19 hW => ?_)
          refine lv_if_ne (tgt := 56) C.1.1 C.1.2.1 dX1_readSum_51 (by decide) (fun h9 => ?_) (fun h9 => ?_)
          · replace hf := (if_neg h9).symm.trans hf
            refine lv_aload_n C.1.1 C.1.2.1 dX1_readSum_56 rfl (lv_at hl 0 rfl) ?_
            have hk21 := sh1_2 hW hk_a0
            refine gf1_2 C hW hk_a0 w_270 dX1_readSum_57 ?_
            have hk22 := sh3_10 hW hk21
            refine gf3_10 C hW hk21 w_215 dX1_readSum_60 ?_
            refine lv_iload_n C.1.1 C.1.2.1 dX1_readSum_63 rfl (lv_at hl 3 rfl) ?_
            refine lv_bipush (v := 24) C.1.1 C.1.2.1 dX1_readSum_64 (by decide) ?_
            refine lv_icmp_ne (tgt := 73) C.1.1 C.1.2.1 dX1_readSum_66 (by decide) (fun h9 => ?_) (fun h9 => ?_)
            · replace hf := (if_neg h9).symm.trans hf
              refine lv_iconst (v := 3) C.1.1 C.1.2.1 dX1_readSum_73 (by decide) ?_
              exact J74 _ _ _ _ _ _ _ hk22 hf hW (lv_sub hl [0, 1, 2] rfl)
            · replace hf := (if_pos h9).symm.trans hf
              refine lv_iconst (v := 2) C.1.1 C.1.2.1 dX1_readSum_69 (by decide) ?_
              refine lv_goto (tgt := 74) C.1.1 C.1.2.1 dX1_readSum_70 (by decide) ?_
              exact J74 _ _ _ _ _ _ _ hk22 hf hW (lv_sub hl [0, 1, 2] rfl)
          · replace hf := (if_pos h9).symm.trans hf
            cases hf
            cases hx
            exact K12_54 _ _ _ _ rfl hW (lv_sub hl [] rfl)
      refine lv_iload_n C.1.1 C.1.2.1 dX1_readSum_12 rfl (lv_at hl 2 rfl) ?_
      refine lv_sipush (v := 400) C.1.1 C.1.2.1 dX1_readSum_13 (by decide) ?_
      refine lv_icmp_gt (tgt := 85) C.1.1 C.1.2.1 dX1_readSum_16 (by decide) (fun h9 => ?_) (fun h9 => ?_)
      · replace hf := (if_pos h9).symm.trans hf
        cases hf
        cases hx
        exact K12_85 _ _ _ _ rfl hW (lv_sub hl [0] rfl)
      · replace hf := (if_neg h9).symm.trans hf
        refine lv_aload_n C.1.1 C.1.2.1 dX1_readSum_19 rfl (lv_at hl 0 rfl) ?_
        obtain ⟨⟨r8, σ7⟩, hc6, hf⟩ := bd hf
        try dsimp only at hf
        refine cVi C hW (mX1_kindHere hk_a0 hc6) hk_a0 kvX1_kindHere w_572 ⟨(by dsimp only [rmOf]; omega), (by dsimp only [rmOf]; omega)⟩ ⟨Nat.zero_le _, Nat.zero_le _⟩ rfl hl.1 (rest := []) rfl (Nat.le_of_ble_eq_true rfl) dX1_readSum_20 (fun H locs hn9 hW => ?_)
        refine lv_istore_n (lv' := [(3, .int _), (0, .ref _), (1, .int _), (2, .int _)]) C.1.1 C.1.2.1 dX1_readSum_23 rfl hl (by decide) rfl (fun ls hl => ?_)
        refine lv_iload_n C.1.1 C.1.2.1 dX1_readSum_24 rfl (lv_at hl 0 rfl) ?_
        refine lv_bipush (v := 24) C.1.1 C.1.2.1 dX1_readSum_25 (by decide) ?_
        refine lv_icmp_eq (tgt := 38) C.1.1 C.1.2.1 dX1_readSum_27 (by decide) (fun h9 => ?_) (fun h9 => ?_)
        · replace hf := (if_pos h9).symm.trans hf
          exact J38 _ _ _ _ _ _ hf hW (lv_sub hl [1, 2, 3, 0] rfl)
        · replace hf := (if_neg h9).symm.trans hf
          refine lv_iload_n C.1.1 C.1.2.1 dX1_readSum_30 rfl (lv_at hl 0 rfl) ?_
          refine lv_bipush (v := 25) C.1.1 C.1.2.1 dX1_readSum_31 (by decide) ?_
          refine lv_icmp_eq (tgt := 38) C.1.1 C.1.2.1 dX1_readSum_33 (by decide) (fun h9 => ?_) (fun h9 => ?_)
          · replace hf := (if_pos h9).symm.trans hf
            exact J38 _ _ _ _ _ _ hf hW (lv_sub hl [1, 2, 3, 0] rfl)
          · replace hf := (if_neg h9).symm.trans hf
            cases hf
            cases hx
            exact K12_36 _ _ _ _ rfl hW (lv_sub hl [] rfl)
  refine lv_aload_n C.1.1 C.1.2.1 dX1_readSum_0 rfl (lv_at hl 0 rfl) ?_
  refine lv_iload_n C.1.1 C.1.2.1 dX1_readSum_1 rfl (lv_at hl 1 rfl) ?_
  obtain ⟨⟨r3, σ2⟩, hc1, hf⟩ := bd hf
  try dsimp only at hf
  refine cVi C hW (mX1_readProductB hx0 hy0 hS hk_a0 hc1) hk_a0 kvX1_readProduct w_635 ⟨(by dsimp only [rmOf]; omega), (by dsimp only [rmOf]; omega)⟩ ⟨Nat.zero_le _, Nat.zero_le _⟩ rfl hl.1 (rest := []) rfl (Nat.le_of_ble_eq_true rfl) dX1_readSum_2 (fun H locs hn4 hW => ?_)
  refine lv_if_ne (tgt := 10) C.1.1 C.1.2.1 dX1_readSum_5 (by decide) (fun h9 => ?_) (fun h9 => ?_)
  · replace hf := (if_neg h9).symm.trans hf
    refine lv_iconst (v := 1) C.1.1 C.1.2.1 dX1_readSum_10 (by decide) ?_
    refine lv_istore_n (lv' := [(2, .int _), (0, .ref _), (1, .int _)]) C.1.1 C.1.2.1 dX1_readSum_11 rfl hl (by decide) rfl (fun ls hl => ?_)
    obtain ⟨o29, ho, hf⟩ := bd hf
    obtain ⟨n, ho⟩ := lp_it ho
    refine L12 n _ _ _ _ _ o29 ho hW (lv_sub hl [1, 2, 0] rfl) ?_ ?_ ?_
    · intro  σ30 H locs ls e9 hW hl
      subst e9
      try dsimp only at hf
      refine lv_iconst (v := 1) C.1.1 C.1.2.1 dX1_readSum_36 (by decide) ?_
      exact ri hQ C hr hlk hW hf (rok_z (Or.inr rfl)) dX1_readSum_37
    · intro  σ31 H locs ls e9 hW hl
      subst e9
      try dsimp only at hf
      refine lv_iconst (v := 0) C.1.1 C.1.2.1 dX1_readSum_54 (by decide) ?_
      exact ri hQ C hr hlk hW hf (rok_z (Or.inl rfl)) dX1_readSum_55
    · intro  σ32 H locs ls e9 hW hl
      subst e9
      try dsimp only at hf
      refine lv_aload_n C.1.1 C.1.2.1 dX1_readSum_85 rfl (lv_at hl 0 rfl) ?_
      refine lv_iconst (v := 2) C.1.1 C.1.2.1 dX1_readSum_86 (by decide) ?_
      obtain ⟨⟨r35, σ34⟩, hc33, hf⟩ := bd hf
      try dsimp only at hf
      refine cVi C hW (mX1_stop hk_a0 hc33) hk_a0 kvX1_stop w_584 ⟨(by dsimp only [rmOf]; omega), (by dsimp only [rmOf]; omega)⟩ ⟨Nat.zero_le _, Nat.zero_le _⟩ rfl hl.1 (rest := []) rfl (Nat.le_of_ble_eq_true rfl) dX1_readSum_87 (fun H locs hn36 hW => ?_)
      exact ri hQ C hr hlk hW hf (rok_z (hn36.2 rfl)) dX1_readSum_90
  · replace hf := (if_pos h9).symm.trans hf
    refine lv_iconst (v := 0) C.1.1 C.1.2.1 dX1_readSum_8 (by decide) ?_
    exact ri hQ C hr hlk hW hf (rok_z (Or.inl rfl)) dX1_readSum_9
noncomputable def fX1_readSumD : Nat → Nat → Int32 → Sg → Option (Int32 × Sg)
  | 0, _, _, _ => none
  | d + 1, a, p, σ => fX1_readSumB (fX1_readSumD d) a p σ
noncomputable def fX1_readSum (a0 : Nat) (p1 : Int32) (σ : Sg) : Option (Int32 × Sg) := fX1_readSumD 8 a0 p1 σ
theorem mX1_readSumD {l : Launch} {G : Gm} : ∀ (d a0 : Nat) (p1 : Int32) (σ : Sg) (r : Int32) (σ' : Sg), gK G a0 = 2 → fX1_readSumD d a0 p1 σ = some (r, σ') → Mi l G yX1_readSum cX1_readSum 4 .boolean (12 + 3 * d) (400 + 120 * d) [.ref (gB G + a0), .int p1] σ r σ'
  | 0, _, _, _, _, _, _, hf => by cases hf
  | d + 1, a0, p1, σ, r, σ', hk, hf => mX1_readSumB (xr := 12 + 3 * d) (yr := 400 + 120 * d) (by omega) (by omega) (mX1_readSumD d) hk hf
theorem mX1_readSum {l : Launch} {G : Gm} {a0 : Nat} {p1 : Int32} {σ : Sg} {r : Int32} {σ' : Sg} (hk_a0 : gK G a0 = 2) (hf : fX1_readSum a0 p1 σ = some (r, σ')) : Mi l G yX1_readSum cX1_readSum 4 .boolean 36 1360 [.ref (gB G + a0), .int p1] σ r σ' := mX1_readSumD 8 a0 p1 σ r σ' hk_a0 hf
theorem kvX1_readIf : KV 1 "RightKeys$Reader" yX1_readIf cX1_readIf 2 (some .boolean) 0 := ⟨⟨w_629, w_15, w_112, w_630⟩, ⟨rfl, by decide, by decide, by decide +kernel⟩, by decide, rfl⟩
noncomputable def fX1_readIf (a0 : Nat) (σ : Sg) : Option (Int32 × Sg) := (fX1_take a0 (8 : Int32) σ).bind (fun q5 => let r3 := q5.1; let σ2 := q5.2; if r3 = 0 then (some ((0 : Int32), σ2)) else ((fX1_readSum a0 (0 : Int32) σ2).bind (fun q10 => let r8 := q10.1; let σ7 := q10.2; if r8 = 0 then (some ((0 : Int32), σ7)) else ((fX1_take a0 (28 : Int32) σ7).bind (fun q15 => let r13 := q15.1; let σ12 := q15.2; if r13 = 0 then (some ((0 : Int32), σ12)) else ((fX1_readSum a0 (0 : Int32) σ12).bind (fun q20 => let r18 := q20.1; let σ17 := q20.2; if r18 = 0 then (some ((0 : Int32), σ17)) else ((fX1_take a0 (9 : Int32) σ17).bind (fun q25 => let r23 := q25.1; let σ22 := q25.2; if r23 = 0 then (some ((0 : Int32), σ22)) else ((fX0_put ((σ22.2.2.1 a0 2) + 7) (6 : Int32) (0 : Int32) σ22).bind (fun q32 => let r30 := q32.1; let σ29 := q32.2; (fX1_readSum a0 (0 : Int32) σ29).bind (fun q37 => let r35 := q37.1; let σ34 := q37.2; if r35 = 0 then (some ((0 : Int32), σ34)) else ((fX1_take a0 (10 : Int32) σ34).bind (fun q42 => let r40 := q42.1; let σ39 := q42.2; if r40 = 0 then (some ((0 : Int32), σ39)) else ((fX0_put ((σ39.2.2.1 a0 2) + 7) (7 : Int32) (0 : Int32) σ39).bind (fun q49 => let r47 := q49.1; let σ46 := q49.2; (fX0_jumpToHere ((σ46.2.2.1 a0 2) + 7) r30 σ46).bind (fun σ53 => some ((1 : Int32), σ53))))))))))))))))))
set_option maxRecDepth 100000 in
set_option maxHeartbeats 4000000 in
theorem mX1_readIf {l : Launch} {G : Gm} {a0 : Nat} {σ : Sg} {r : Int32} {σ' : Sg} (hk_a0 : gK G a0 = 2) (hf : fX1_readIf a0 σ = some (r, σ')) : Mi l G yX1_readIf cX1_readIf 2 .boolean 37 1383 [.ref (gB G + a0)] σ r σ' := by
  refine of_W "RightKeys$Reader" rfl (by decide) (Nat.le_of_ble_eq_true rfl) ?_
  intro p e s m args below meth c Q hQ C hr hlk hW ls hl
  have h00 := hW.1
  have hl : lv_has ls 2 [(0, .ref (gB G + a0))] := hl
  delta fX1_readIf at hf
  refine lv_aload_n C.1.1 C.1.2.1 dX1_readIf_0 rfl (lv_at hl 0 rfl) ?_
  refine lv_bipush (v := 8) C.1.1 C.1.2.1 dX1_readIf_1 (by decide) ?_
  obtain ⟨⟨r3, σ2⟩, hc1, hf⟩ := bd hf
  try dsimp only at hf
  refine cVi C hW (mX1_take hk_a0 hc1) hk_a0 kvX1_take w_588 ⟨(Nat.le_of_ble_eq_true rfl), (Nat.le_of_ble_eq_true rfl)⟩ ⟨Nat.zero_le _, Nat.zero_le _⟩ rfl hl.1 (rest := []) rfl (Nat.le_of_ble_eq_true rfl) dX1_readIf_3 (fun H locs hn4 hW => ?_)
  refine lv_if_eq (tgt := 43) C.1.1 C.1.2.1 dX1_readIf_6 (by decide) (fun h9 => ?_) (fun h9 => ?_)
  · replace hf := (if_pos h9).symm.trans hf
    refine lv_iconst (v := 0) C.1.1 C.1.2.1 dX1_readIf_43 (by decide) ?_
    exact ri hQ C hr hlk hW hf (rok_z (Or.inl rfl)) dX1_readIf_44
  · replace hf := (if_neg h9).symm.trans hf
    refine lv_aload_n C.1.1 C.1.2.1 dX1_readIf_9 rfl (lv_at hl 0 rfl) ?_
    refine lv_iconst (v := 0) C.1.1 C.1.2.1 dX1_readIf_10 (by decide) ?_
    obtain ⟨⟨r8, σ7⟩, hc6, hf⟩ := bd hf
    try dsimp only at hf
    refine cVi C hW (mX1_readSum hk_a0 hc6) hk_a0 kvX1_readSum w_631 ⟨(Nat.le_of_ble_eq_true rfl), (Nat.le_of_ble_eq_true rfl)⟩ ⟨Nat.zero_le _, Nat.zero_le _⟩ rfl hl.1 (rest := []) rfl (Nat.le_of_ble_eq_true rfl) dX1_readIf_11 (fun H locs hn9 hW => ?_)
    refine lv_if_eq (tgt := 43) C.1.1 C.1.2.1 dX1_readIf_14 (by decide) (fun h9 => ?_) (fun h9 => ?_)
    · replace hf := (if_pos h9).symm.trans hf
      refine lv_iconst (v := 0) C.1.1 C.1.2.1 dX1_readIf_43 (by decide) ?_
      exact ri hQ C hr hlk hW hf (rok_z (Or.inl rfl)) dX1_readIf_44
    · replace hf := (if_neg h9).symm.trans hf
      refine lv_aload_n C.1.1 C.1.2.1 dX1_readIf_17 rfl (lv_at hl 0 rfl) ?_
      refine lv_bipush (v := 28) C.1.1 C.1.2.1 dX1_readIf_18 (by decide) ?_
      obtain ⟨⟨r13, σ12⟩, hc11, hf⟩ := bd hf
      try dsimp only at hf
      refine cVi C hW (mX1_take hk_a0 hc11) hk_a0 kvX1_take w_588 ⟨(Nat.le_of_ble_eq_true rfl), (Nat.le_of_ble_eq_true rfl)⟩ ⟨Nat.zero_le _, Nat.zero_le _⟩ rfl hl.1 (rest := []) rfl (Nat.le_of_ble_eq_true rfl) dX1_readIf_20 (fun H locs hn14 hW => ?_)
      refine lv_if_eq (tgt := 43) C.1.1 C.1.2.1 dX1_readIf_23 (by decide) (fun h9 => ?_) (fun h9 => ?_)
      · replace hf := (if_pos h9).symm.trans hf
        refine lv_iconst (v := 0) C.1.1 C.1.2.1 dX1_readIf_43 (by decide) ?_
        exact ri hQ C hr hlk hW hf (rok_z (Or.inl rfl)) dX1_readIf_44
      · replace hf := (if_neg h9).symm.trans hf
        refine lv_aload_n C.1.1 C.1.2.1 dX1_readIf_26 rfl (lv_at hl 0 rfl) ?_
        refine lv_iconst (v := 0) C.1.1 C.1.2.1 dX1_readIf_27 (by decide) ?_
        obtain ⟨⟨r18, σ17⟩, hc16, hf⟩ := bd hf
        try dsimp only at hf
        refine cVi C hW (mX1_readSum hk_a0 hc16) hk_a0 kvX1_readSum w_631 ⟨(Nat.le_of_ble_eq_true rfl), (Nat.le_of_ble_eq_true rfl)⟩ ⟨Nat.zero_le _, Nat.zero_le _⟩ rfl hl.1 (rest := []) rfl (Nat.le_of_ble_eq_true rfl) dX1_readIf_28 (fun H locs hn19 hW => ?_)
        refine lv_if_eq (tgt := 43) C.1.1 C.1.2.1 dX1_readIf_31 (by decide) (fun h9 => ?_) (fun h9 => ?_)
        · replace hf := (if_pos h9).symm.trans hf
          refine lv_iconst (v := 0) C.1.1 C.1.2.1 dX1_readIf_43 (by decide) ?_
          exact ri hQ C hr hlk hW hf (rok_z (Or.inl rfl)) dX1_readIf_44
        · replace hf := (if_neg h9).symm.trans hf
          refine lv_aload_n C.1.1 C.1.2.1 dX1_readIf_34 rfl (lv_at hl 0 rfl) ?_
          refine lv_bipush (v := 9) C.1.1 C.1.2.1 dX1_readIf_35 (by decide) ?_
          obtain ⟨⟨r23, σ22⟩, hc21, hf⟩ := bd hf
          try dsimp only at hf
          refine cVi C hW (mX1_take hk_a0 hc21) hk_a0 kvX1_take w_588 ⟨(Nat.le_of_ble_eq_true rfl), (Nat.le_of_ble_eq_true rfl)⟩ ⟨Nat.zero_le _, Nat.zero_le _⟩ rfl hl.1 (rest := []) rfl (Nat.le_of_ble_eq_true rfl) dX1_readIf_37 (fun H locs hn24 hW => ?_)
          refine lv_if_ne (tgt := 45) C.1.1 C.1.2.1 dX1_readIf_40 (by decide) (fun h9 => ?_) (fun h9 => ?_)
          · replace hf := (if_neg h9).symm.trans hf
            refine lv_aload_n C.1.1 C.1.2.1 dX1_readIf_45 rfl (lv_at hl 0 rfl) ?_
            have hk26 := sh1_2 hW hk_a0
            refine gf1_2 C hW hk_a0 w_270 dX1_readIf_46 ?_
            have hk27 := sh3_10 hW hk26
            refine gf3_10 C hW hk26 w_215 dX1_readIf_49 ?_
            refine lv_bipush (v := 6) C.1.1 C.1.2.1 dX1_readIf_52 (by decide) ?_
            refine lv_iconst (v := 0) C.1.1 C.1.2.1 dX1_readIf_54 (by decide) ?_
            obtain ⟨⟨r30, σ29⟩, hc28, hf⟩ := bd hf
            try dsimp only at hf
            refine cVi C hW (mX0_put hk27 hc28) hk27 kvX0_put w_643 ⟨(Nat.le_of_ble_eq_true rfl), (Nat.le_of_ble_eq_true rfl)⟩ ⟨Nat.zero_le _, Nat.zero_le _⟩ rfl hl.1 (rest := []) rfl (Nat.le_of_ble_eq_true rfl) dX1_readIf_55 (fun H locs hn31 hW => ?_)
            refine lv_istore_n (lv' := [(1, .int _), (0, .ref _)]) C.1.1 C.1.2.1 dX1_readIf_58 rfl hl (by decide) rfl (fun ls hl => ?_)
            refine lv_aload_n C.1.1 C.1.2.1 dX1_readIf_59 rfl (lv_at hl 1 rfl) ?_
            refine lv_iconst (v := 0) C.1.1 C.1.2.1 dX1_readIf_60 (by decide) ?_
            obtain ⟨⟨r35, σ34⟩, hc33, hf⟩ := bd hf
            try dsimp only at hf
            refine cVi C hW (mX1_readSum hk_a0 hc33) hk_a0 kvX1_readSum w_631 ⟨(Nat.le_of_ble_eq_true rfl), (Nat.le_of_ble_eq_true rfl)⟩ ⟨Nat.zero_le _, Nat.zero_le _⟩ rfl hl.1 (rest := []) rfl (Nat.le_of_ble_eq_true rfl) dX1_readIf_61 (fun H locs hn36 hW => ?_)
            refine lv_if_eq (tgt := 76) C.1.1 C.1.2.1 dX1_readIf_64 (by decide) (fun h9 => ?_) (fun h9 => ?_)
            · replace hf := (if_pos h9).symm.trans hf
              refine lv_iconst (v := 0) C.1.1 C.1.2.1 dX1_readIf_76 (by decide) ?_
              exact ri hQ C hr hlk hW hf (rok_z (Or.inl rfl)) dX1_readIf_77
            · replace hf := (if_neg h9).symm.trans hf
              refine lv_aload_n C.1.1 C.1.2.1 dX1_readIf_67 rfl (lv_at hl 1 rfl) ?_
              refine lv_bipush (v := 10) C.1.1 C.1.2.1 dX1_readIf_68 (by decide) ?_
              obtain ⟨⟨r40, σ39⟩, hc38, hf⟩ := bd hf
              try dsimp only at hf
              refine cVi C hW (mX1_take hk_a0 hc38) hk_a0 kvX1_take w_588 ⟨(Nat.le_of_ble_eq_true rfl), (Nat.le_of_ble_eq_true rfl)⟩ ⟨Nat.zero_le _, Nat.zero_le _⟩ rfl hl.1 (rest := []) rfl (Nat.le_of_ble_eq_true rfl) dX1_readIf_70 (fun H locs hn41 hW => ?_)
              refine lv_if_ne (tgt := 78) C.1.1 C.1.2.1 dX1_readIf_73 (by decide) (fun h9 => ?_) (fun h9 => ?_)
              · replace hf := (if_neg h9).symm.trans hf
                refine lv_aload_n C.1.1 C.1.2.1 dX1_readIf_78 rfl (lv_at hl 1 rfl) ?_
                have hk43 := sh1_2 hW hk_a0
                refine gf1_2 C hW hk_a0 w_270 dX1_readIf_79 ?_
                have hk44 := sh3_10 hW hk43
                refine gf3_10 C hW hk43 w_215 dX1_readIf_82 ?_
                refine lv_bipush (v := 7) C.1.1 C.1.2.1 dX1_readIf_85 (by decide) ?_
                refine lv_iconst (v := 0) C.1.1 C.1.2.1 dX1_readIf_87 (by decide) ?_
                obtain ⟨⟨r47, σ46⟩, hc45, hf⟩ := bd hf
                try dsimp only at hf
                refine cVi C hW (mX0_put hk44 hc45) hk44 kvX0_put w_643 ⟨(Nat.le_of_ble_eq_true rfl), (Nat.le_of_ble_eq_true rfl)⟩ ⟨Nat.zero_le _, Nat.zero_le _⟩ rfl hl.1 (rest := []) rfl (Nat.le_of_ble_eq_true rfl) dX1_readIf_88 (fun H locs hn48 hW => ?_)
                refine lv_pop C.1.1 C.1.2.1 dX1_readIf_91 rfl ?_
                refine lv_aload_n C.1.1 C.1.2.1 dX1_readIf_92 rfl (lv_at hl 1 rfl) ?_
                have hk50 := sh1_2 hW hk_a0
                refine gf1_2 C hW hk_a0 w_270 dX1_readIf_93 ?_
                have hk51 := sh3_10 hW hk50
                refine gf3_10 C hW hk50 w_215 dX1_readIf_96 ?_
                refine lv_iload_n C.1.1 C.1.2.1 dX1_readIf_99 rfl (lv_at hl 0 rfl) ?_
                obtain ⟨σ53, hc52, hf⟩ := bd hf
                try dsimp only at hf
                refine cVv C hW (mX0_jumpToHere hk51 hc52) hk51 kvX0_jumpToHere w_644 ⟨(Nat.le_of_ble_eq_true rfl), (Nat.le_of_ble_eq_true rfl)⟩ ⟨Nat.zero_le _, Nat.zero_le _⟩ rfl hl.1 (rest := []) rfl (Nat.le_of_ble_eq_true rfl) dX1_readIf_100 (fun H locs hW => ?_)
                refine lv_iconst (v := 1) C.1.1 C.1.2.1 dX1_readIf_103 (by decide) ?_
                exact ri hQ C hr hlk hW hf (rok_z (Or.inr rfl)) dX1_readIf_104
              · replace hf := (if_pos h9).symm.trans hf
                refine lv_iconst (v := 0) C.1.1 C.1.2.1 dX1_readIf_76 (by decide) ?_
                exact ri hQ C hr hlk hW hf (rok_z (Or.inl rfl)) dX1_readIf_77
          · replace hf := (if_pos h9).symm.trans hf
            refine lv_iconst (v := 0) C.1.1 C.1.2.1 dX1_readIf_43 (by decide) ?_
            exact ri hQ C hr hlk hW hf (rok_z (Or.inl rfl)) dX1_readIf_44
theorem kvX1_readLaw : KV 1 "RightKeys$Reader" yX1_readLaw cX1_readLaw 3 (some .boolean) 1 := ⟨⟨w_625, w_14, w_112, w_626⟩, ⟨rfl, by decide, by decide, by decide +kernel⟩, by decide, rfl⟩
noncomputable def bX1_readLaw_45 (a0 : Nat) (p1 : Int32) (x2 : Int32) (σ : Sg) : Option ((Int32 × Sg) ⊕ ((Sg) ⊕ ((Sg) ⊕ (Sg)))) := if (4 : Int32) < x2 then (some (Sum.inr (Sum.inr (Sum.inr σ)))) else ((fX1_kindHere a0 σ).bind (fun q22 => let r20 := q22.1; let σ19 := q22.2; if r20 = (8 : Int32) then ((let x2_23 := x2 + (1 : Int32); if x2_23 ≤ (4 : Int32) then ((fX1_readIf a0 σ19).bind (fun q28 => let r26 := q28.1; let σ25 := q28.2; if r26 = 0 then (some (Sum.inr (Sum.inr (Sum.inl σ25)))) else (some (Sum.inl (x2_23, σ25))))) else (some (Sum.inr (Sum.inl σ19))))) else (some (Sum.inr (Sum.inr (Sum.inr σ19))))))
noncomputable def fX1_readLaw (a0 : Nat) (p1 : Int32) (σ : Sg) : Option (Int32 × Sg) := (fX1_take a0 ((3 : Int32) + p1) σ).bind (fun q5 => let r3 := q5.1; let σ2 := q5.2; if r3 = 0 then (some ((0 : Int32), σ2)) else ((fX1_take a0 (23 : Int32) σ2).bind (fun q10 => let r8 := q10.1; let σ7 := q10.2; if r8 = 0 then (some ((0 : Int32), σ7)) else (if vin p1 4 then (let σ17 := wI σ7 (((σ7.2.2.1 a0 2) + 7) + 2) ((p1).toNatClampNeg) (σ7.1 ((σ7.2.2.1 a0 2) + 7) 1); (lp (fun st => bX1_readLaw_45 a0 p1 st.1 st.2) ((0 : Int32), σ17)).bind (fun o29 => Sum.elim (fun σ30 => (fX1_stop a0 (2 : Int32) σ30).bind (fun q35 => let r33 := q35.1; let σ32 := q35.2; some (r33, σ32))) (fun o29_ => Sum.elim (fun σ36 => some ((0 : Int32), σ36)) (fun o29__ => (fun σ37 => (fX1_readSum a0 (0 : Int32) σ37).bind (fun q42 => let r40 := q42.1; let σ39 := q42.2; if r40 = 0 then (some ((0 : Int32), σ39)) else ((fX0_put ((σ39.2.2.1 a0 2) + 7) (7 : Int32) (0 : Int32) σ39).bind (fun q49 => let r47 := q49.1; let σ46 := q49.2; (fX1_take a0 (22 : Int32) σ46).bind (fun q54 => let r52 := q54.1; let σ51 := q54.2; some (r52, σ51)))))) o29__) o29_) o29)) else none))))
set_option maxRecDepth 100000 in
set_option maxHeartbeats 4000000 in
theorem mX1_readLaw {l : Launch} {G : Gm} {a0 : Nat} {p1 : Int32} {σ : Sg} {r : Int32} {σ' : Sg} (hk_a0 : gK G a0 = 2) (hf : fX1_readLaw a0 p1 σ = some (r, σ')) : Mi l G yX1_readLaw cX1_readLaw 3 .boolean 38 1404 [.ref (gB G + a0), .int p1] σ r σ' := by
  refine of_W "RightKeys$Reader" rfl (by decide) (Nat.le_of_ble_eq_true rfl) ?_
  intro p e s m args below meth c Q hQ C hr hlk hW ls hl
  have h00 := hW.1
  have hl : lv_has ls 3 [(0, .ref (gB G + a0)), (1, .int p1)] := hl
  delta fX1_readLaw at hf
  have L45 : ∀ (n : Nat) (x2 : Int32) (σ : Sg) (H : Heap) (locs : List Loc) (ls : Array Slot) (out : ((Sg) ⊕ ((Sg) ⊕ (Sg)))), iter (fun st => bX1_readLaw_45 a0 p1 st.1 st.2) n (x2, σ) = some out → Ws G σ s.heap H locs → lv_has ls 3 [(0, .ref (gB G + a0)), (2, .int x2)] → (∀ (σ : Sg) (H : Heap) (locs : List Loc) (ls : Array Slot), out = (Sum.inl σ) → Ws G σ s.heap H locs → lv_has ls 3 [(0, .ref (gB G + a0))] → W p l e (rmOf 38 1404) s m args below meth c H locs 0 0 Q (F0 m 67 ls [])) → (∀ (σ : Sg) (H : Heap) (locs : List Loc) (ls : Array Slot), out = (Sum.inr (Sum.inl σ)) → Ws G σ s.heap H locs → lv_has ls 3 [] → W p l e (rmOf 38 1404) s m args below meth c H locs 0 0 Q (F0 m 80 ls [])) → (∀ (σ : Sg) (H : Heap) (locs : List Loc) (ls : Array Slot), out = (Sum.inr (Sum.inr σ)) → Ws G σ s.heap H locs → lv_has ls 3 [(0, .ref (gB G + a0))] → W p l e (rmOf 38 1404) s m args below meth c H locs 0 0 Q (F0 m 82 ls [])) → W p l e (rmOf 38 1404) s m args below meth c H locs 0 0 Q (F0 m 45 ls []) := by
    intro n
    induction n with
    | zero =>
      intro x2 σ H locs ls out hf
      exact (it_0 hf).elim
    | succ n ih =>
      intro x2 σ H locs ls out hf hW hl K45_67 K45_80 K45_82
      obtain ⟨x, hf, hx⟩ := it_s hf
      have hf : bX1_readLaw_45 a0 p1 x2 σ = some x := hf
      delta bX1_readLaw_45 at hf
      refine lv_iload_n C.1.1 C.1.2.1 dX1_readLaw_45 rfl (lv_at hl 1 rfl) ?_
      refine lv_iconst (v := 4) C.1.1 C.1.2.1 dX1_readLaw_46 (by decide) ?_
      refine lv_icmp_gt (tgt := 82) C.1.1 C.1.2.1 dX1_readLaw_47 (by decide) (fun h9 => ?_) (fun h9 => ?_)
      · replace hf := (if_pos h9).symm.trans hf
        cases hf
        cases hx
        exact K45_82 _ _ _ _ rfl hW (lv_sub hl [0] rfl)
      · replace hf := (if_neg h9).symm.trans hf
        refine lv_aload_n C.1.1 C.1.2.1 dX1_readLaw_50 rfl (lv_at hl 0 rfl) ?_
        obtain ⟨⟨r20, σ19⟩, hc18, hf⟩ := bd hf
        try dsimp only at hf
        refine cVi C hW (mX1_kindHere hk_a0 hc18) hk_a0 kvX1_kindHere w_572 ⟨(Nat.le_of_ble_eq_true rfl), (Nat.le_of_ble_eq_true rfl)⟩ ⟨Nat.zero_le _, Nat.zero_le _⟩ rfl hl.1 (rest := []) rfl (Nat.le_of_ble_eq_true rfl) dX1_readLaw_51 (fun H locs hn21 hW => ?_)
        refine lv_bipush (v := 8) C.1.1 C.1.2.1 dX1_readLaw_54 (by decide) ?_
        refine lv_icmp_ne (tgt := 82) C.1.1 C.1.2.1 dX1_readLaw_56 (by decide) (fun h9 => ?_) (fun h9 => ?_)
        · replace hf := (if_neg h9).symm.trans hf
          cases hf
          cases hx
          exact K45_82 _ _ _ _ rfl hW (lv_sub hl [0] rfl)
        · replace hf := (if_pos h9).symm.trans hf
          refine lv_iinc (v := _) (lv' := [(2, .int _), (0, .ref _)]) C.1.1 C.1.2.1 dX1_readLaw_59 hl (k := 1) rfl (ii (k := 1) (by decide)) (by decide) rfl (fun ls hl => ?_)
          refine lv_iload_n C.1.1 C.1.2.1 dX1_readLaw_62 rfl (lv_at hl 0 rfl) ?_
          refine lv_iconst (v := 4) C.1.1 C.1.2.1 dX1_readLaw_63 (by decide) ?_
          refine lv_icmp_le (tgt := 73) C.1.1 C.1.2.1 dX1_readLaw_64 (by decide) (fun h9 => ?_) (fun h9 => ?_)
          · replace hf := (if_pos h9).symm.trans hf
            refine lv_aload_n C.1.1 C.1.2.1 dX1_readLaw_73 rfl (lv_at hl 1 rfl) ?_
            obtain ⟨⟨r26, σ25⟩, hc24, hf⟩ := bd hf
            try dsimp only at hf
            refine cVi C hW (mX1_readIf hk_a0 hc24) hk_a0 kvX1_readIf w_627 ⟨(Nat.le_of_ble_eq_true rfl), (Nat.le_of_ble_eq_true rfl)⟩ ⟨Nat.zero_le _, Nat.zero_le _⟩ rfl hl.1 (rest := []) rfl (Nat.le_of_ble_eq_true rfl) dX1_readLaw_74 (fun H locs hn27 hW => ?_)
            refine lv_if_ne (tgt := 45) C.1.1 C.1.2.1 dX1_readLaw_77 (by decide) (fun h9 => ?_) (fun h9 => ?_)
            · replace hf := (if_neg h9).symm.trans hf
              cases hf
              exact ih _ _ _ _ _ _ hx hW (lv_sub hl [1, 0] rfl) K45_67 K45_80 K45_82
            · replace hf := (if_pos h9).symm.trans hf
              cases hf
              cases hx
              exact K45_80 _ _ _ _ rfl hW (lv_sub hl [] rfl)
          · replace hf := (if_neg h9).symm.trans hf
            cases hf
            cases hx
            exact K45_67 _ _ _ _ rfl hW (lv_sub hl [1] rfl)
  refine lv_aload_n C.1.1 C.1.2.1 dX1_readLaw_0 rfl (lv_at hl 0 rfl) ?_
  refine lv_iconst (v := 3) C.1.1 C.1.2.1 dX1_readLaw_1 (by decide) ?_
  refine lv_iload_n C.1.1 C.1.2.1 dX1_readLaw_2 rfl (lv_at hl 1 rfl) ?_
  refine lv_iadd C.1.1 C.1.2.1 dX1_readLaw_3 ?_
  obtain ⟨⟨r3, σ2⟩, hc1, hf⟩ := bd hf
  try dsimp only at hf
  refine cVi C hW (mX1_take hk_a0 hc1) hk_a0 kvX1_take w_588 ⟨(Nat.le_of_ble_eq_true rfl), (Nat.le_of_ble_eq_true rfl)⟩ ⟨Nat.zero_le _, Nat.zero_le _⟩ rfl hl.1 (rest := []) rfl (Nat.le_of_ble_eq_true rfl) dX1_readLaw_4 (fun H locs hn4 hW => ?_)
  refine lv_if_eq (tgt := 19) C.1.1 C.1.2.1 dX1_readLaw_7 (by decide) (fun h9 => ?_) (fun h9 => ?_)
  · replace hf := (if_pos h9).symm.trans hf
    refine lv_iconst (v := 0) C.1.1 C.1.2.1 dX1_readLaw_19 (by decide) ?_
    exact ri hQ C hr hlk hW hf (rok_z (Or.inl rfl)) dX1_readLaw_20
  · replace hf := (if_neg h9).symm.trans hf
    refine lv_aload_n C.1.1 C.1.2.1 dX1_readLaw_10 rfl (lv_at hl 0 rfl) ?_
    refine lv_bipush (v := 23) C.1.1 C.1.2.1 dX1_readLaw_11 (by decide) ?_
    obtain ⟨⟨r8, σ7⟩, hc6, hf⟩ := bd hf
    try dsimp only at hf
    refine cVi C hW (mX1_take hk_a0 hc6) hk_a0 kvX1_take w_588 ⟨(Nat.le_of_ble_eq_true rfl), (Nat.le_of_ble_eq_true rfl)⟩ ⟨Nat.zero_le _, Nat.zero_le _⟩ rfl hl.1 (rest := []) rfl (Nat.le_of_ble_eq_true rfl) dX1_readLaw_13 (fun H locs hn9 hW => ?_)
    refine lv_if_ne (tgt := 21) C.1.1 C.1.2.1 dX1_readLaw_16 (by decide) (fun h9 => ?_) (fun h9 => ?_)
    · replace hf := (if_neg h9).symm.trans hf
      refine lv_aload_n C.1.1 C.1.2.1 dX1_readLaw_21 rfl (lv_at hl 0 rfl) ?_
      have hk11 := sh1_2 hW hk_a0
      refine gf1_2 C hW hk_a0 w_270 dX1_readLaw_22 ?_
      have hk12 := sh3_10 hW hk11
      refine gf3_10 C hW hk11 w_215 dX1_readLaw_25 ?_
      have hk13 := sh0_2 hW hk12
      refine gf0_2 C hW hk12 w_161 dX1_readLaw_28 ?_
      refine lv_iload_n C.1.1 C.1.2.1 dX1_readLaw_31 rfl (lv_at hl 1 rfl) ?_
      refine lv_aload_n C.1.1 C.1.2.1 dX1_readLaw_32 rfl (lv_at hl 0 rfl) ?_
      have hk14 := sh1_2 hW hk_a0
      refine gf1_2 C hW hk_a0 w_270 dX1_readLaw_33 ?_
      have hk15 := sh3_10 hW hk14
      refine gf3_10 C hW hk14 w_215 dX1_readLaw_36 ?_
      refine gf0_1 C hW hk15 w_159 dX1_readLaw_39 ?_
      obtain ⟨hv16, hf⟩ := gd hf
      refine wsi C hW hk13 (vin_p hv16) dX1_readLaw_42 (fun H locs hW => ?_)
      refine lv_iconst (v := 0) C.1.1 C.1.2.1 dX1_readLaw_43 (by decide) ?_
      refine lv_istore_n (lv' := [(2, .int _), (0, .ref _), (1, .int _)]) C.1.1 C.1.2.1 dX1_readLaw_44 rfl hl (by decide) rfl (fun ls hl => ?_)
      obtain ⟨o29, ho, hf⟩ := bd hf
      obtain ⟨n, ho⟩ := lp_it ho
      refine L45 n _ _ _ _ _ o29 ho hW (lv_sub hl [1, 0] rfl) ?_ ?_ ?_
      · intro  σ30 H locs ls e9 hW hl
        subst e9
        try dsimp only at hf
        refine lv_aload_n C.1.1 C.1.2.1 dX1_readLaw_67 rfl (lv_at hl 0 rfl) ?_
        refine lv_iconst (v := 2) C.1.1 C.1.2.1 dX1_readLaw_68 (by decide) ?_
        obtain ⟨⟨r33, σ32⟩, hc31, hf⟩ := bd hf
        try dsimp only at hf
        refine cVi C hW (mX1_stop hk_a0 hc31) hk_a0 kvX1_stop w_584 ⟨(Nat.le_of_ble_eq_true rfl), (Nat.le_of_ble_eq_true rfl)⟩ ⟨Nat.zero_le _, Nat.zero_le _⟩ rfl hl.1 (rest := []) rfl (Nat.le_of_ble_eq_true rfl) dX1_readLaw_69 (fun H locs hn34 hW => ?_)
        exact ri hQ C hr hlk hW hf (rok_z (hn34.2 rfl)) dX1_readLaw_72
      · intro  σ36 H locs ls e9 hW hl
        subst e9
        try dsimp only at hf
        refine lv_iconst (v := 0) C.1.1 C.1.2.1 dX1_readLaw_80 (by decide) ?_
        exact ri hQ C hr hlk hW hf (rok_z (Or.inl rfl)) dX1_readLaw_81
      · intro  σ37 H locs ls e9 hW hl
        subst e9
        try dsimp only at hf
        refine lv_aload_n C.1.1 C.1.2.1 dX1_readLaw_82 rfl (lv_at hl 0 rfl) ?_
        refine lv_iconst (v := 0) C.1.1 C.1.2.1 dX1_readLaw_83 (by decide) ?_
        obtain ⟨⟨r40, σ39⟩, hc38, hf⟩ := bd hf
        try dsimp only at hf
        refine cVi C hW (mX1_readSum hk_a0 hc38) hk_a0 kvX1_readSum w_631 ⟨(Nat.le_of_ble_eq_true rfl), (Nat.le_of_ble_eq_true rfl)⟩ ⟨Nat.zero_le _, Nat.zero_le _⟩ rfl hl.1 (rest := []) rfl (Nat.le_of_ble_eq_true rfl) dX1_readLaw_84 (fun H locs hn41 hW => ?_)
        refine lv_if_ne (tgt := 92) C.1.1 C.1.2.1 dX1_readLaw_87 (by decide) (fun h9 => ?_) (fun h9 => ?_)
        · replace hf := (if_neg h9).symm.trans hf
          refine lv_aload_n C.1.1 C.1.2.1 dX1_readLaw_92 rfl (lv_at hl 0 rfl) ?_
          have hk43 := sh1_2 hW hk_a0
          refine gf1_2 C hW hk_a0 w_270 dX1_readLaw_93 ?_
          have hk44 := sh3_10 hW hk43
          refine gf3_10 C hW hk43 w_215 dX1_readLaw_96 ?_
          refine lv_bipush (v := 7) C.1.1 C.1.2.1 dX1_readLaw_99 (by decide) ?_
          refine lv_iconst (v := 0) C.1.1 C.1.2.1 dX1_readLaw_101 (by decide) ?_
          obtain ⟨⟨r47, σ46⟩, hc45, hf⟩ := bd hf
          try dsimp only at hf
          refine cVi C hW (mX0_put hk44 hc45) hk44 kvX0_put w_643 ⟨(Nat.le_of_ble_eq_true rfl), (Nat.le_of_ble_eq_true rfl)⟩ ⟨Nat.zero_le _, Nat.zero_le _⟩ rfl hl.1 (rest := []) rfl (Nat.le_of_ble_eq_true rfl) dX1_readLaw_102 (fun H locs hn48 hW => ?_)
          refine lv_pop C.1.1 C.1.2.1 dX1_readLaw_105 rfl ?_
          refine lv_aload_n C.1.1 C.1.2.1 dX1_readLaw_106 rfl (lv_at hl 0 rfl) ?_
          refine lv_bipush (v := 22) C.1.1 C.1.2.1 dX1_readLaw_107 (by decide) ?_
          obtain ⟨⟨r52, σ51⟩, hc50, hf⟩ := bd hf
          try dsimp only at hf
          refine cVi C hW (mX1_take hk_a0 hc50) hk_a0 kvX1_take w_588 ⟨(Nat.le_of_ble_eq_true rfl), (Nat.le_of_ble_eq_true rfl)⟩ ⟨Nat.zero_le _, Nat.zero_le _⟩ rfl hl.1 (rest := []) rfl (Nat.le_of_ble_eq_true rfl) dX1_readLaw_109 (fun H locs hn53 hW => ?_)
          exact ri hQ C hr hlk hW hf (rok_z (hn53.2 rfl)) dX1_readLaw_112
        · replace hf := (if_pos h9).symm.trans hf
          refine lv_iconst (v := 0) C.1.1 C.1.2.1 dX1_readLaw_90 (by decide) ?_
          exact ri hQ C hr hlk hW hf (rok_z (Or.inl rfl)) dX1_readLaw_91
    · replace hf := (if_pos h9).symm.trans hf
      refine lv_iconst (v := 0) C.1.1 C.1.2.1 dX1_readLaw_19 (by decide) ?_
      exact ri hQ C hr hlk hW hf (rok_z (Or.inl rfl)) dX1_readLaw_20
theorem kvX1_readTell : KV 1 "RightKeys$Reader" yX1_readTell cX1_readTell 2 (some .boolean) 0 := ⟨⟨w_578, w_4, w_112, w_579⟩, ⟨rfl, by decide, by decide, by decide +kernel⟩, by decide, rfl⟩
noncomputable def jX1_readTell_53 (a0 : Nat) (x1 : Int32) (σ : Sg) : Option (Int32 × Sg) := if x1 = (7 : Int32) then ((fX1_readSeed a0 σ).bind (fun q15 => let r13 := q15.1; let σ12 := q15.2; some (r13, σ12))) else ((fX1_stop a0 (1 : Int32) σ).bind (fun q10 => let r8 := q10.1; let σ7 := q10.2; some (r8, σ7)))
noncomputable def fX1_readTell (a0 : Nat) (σ : Sg) : Option (Int32 × Sg) := (fX1_kindHere a0 σ).bind (fun q5 => let r3 := q5.1; let σ2 := q5.2; if r3 = 0 then ((fX1_readHouse a0 σ2).bind (fun q35 => let r33 := q35.1; let σ32 := q35.2; some (r33, σ32))) else (if r3 = (1 : Int32) then ((fX1_readSpare a0 σ2).bind (fun q30 => let r28 := q30.1; let σ27 := q30.2; some (r28, σ27))) else (if r3 = (2 : Int32) then ((fX1_readBoth a0 σ2).bind (fun q25 => let r23 := q25.1; let σ22 := q25.2; some (r23, σ22))) else (if r3 < (3 : Int32) then (jX1_readTell_53 a0 r3 σ2) else (if (6 : Int32) < r3 then (jX1_readTell_53 a0 r3 σ2) else ((fX1_readLaw a0 (r3 - (3 : Int32)) σ2).bind (fun q20 => let r18 := q20.1; let σ17 := q20.2; some (r18, σ17))))))))
set_option maxRecDepth 100000 in
set_option maxHeartbeats 4000000 in
theorem mX1_readTell {l : Launch} {G : Gm} {a0 : Nat} {σ : Sg} {r : Int32} {σ' : Sg} (hk_a0 : gK G a0 = 2) (hf : fX1_readTell a0 σ = some (r, σ')) : Mi l G yX1_readTell cX1_readTell 2 .boolean 39 1426 [.ref (gB G + a0)] σ r σ' := by
  refine of_W "RightKeys$Reader" rfl (by decide) (Nat.le_of_ble_eq_true rfl) ?_
  intro p e s m args below meth c Q hQ C hr hlk hW ls hl
  have h00 := hW.1
  have hl : lv_has ls 2 [(0, .ref (gB G + a0))] := hl
  delta fX1_readTell at hf
  have J53 : ∀ (x1 : Int32) (σ : Sg) (H : Heap) (locs : List Loc) (ls : Array Slot), jX1_readTell_53 a0 x1 σ = some (r, σ') → Ws G σ s.heap H locs → lv_has ls 2 [(0, .ref (gB G + a0)), (1, .int x1)] → W p l e (rmOf 39 1426) s m args below meth c H locs 0 0 Q (F0 m 53 ls []) := by
    intro x1 σ H locs ls hf hW hl
    delta jX1_readTell_53 at hf
    refine lv_iload_n C.1.1 C.1.2.1 dX1_readTell_53 rfl (lv_at hl 1 rfl) ?_
    refine lv_bipush (v := 7) C.1.1 C.1.2.1 dX1_readTell_54 (by decide) ?_
    refine lv_icmp_ne (tgt := 64) C.1.1 C.1.2.1 dX1_readTell_56 (by decide) (fun h9 => ?_) (fun h9 => ?_)
    · replace hf := (if_neg h9).symm.trans hf
      refine lv_aload_n C.1.1 C.1.2.1 dX1_readTell_64 rfl (lv_at hl 0 rfl) ?_
      refine lv_iconst (v := 1) C.1.1 C.1.2.1 dX1_readTell_65 (by decide) ?_
      obtain ⟨⟨r8, σ7⟩, hc6, hf⟩ := bd hf
      try dsimp only at hf
      refine cVi C hW (mX1_stop hk_a0 hc6) hk_a0 kvX1_stop w_584 ⟨(Nat.le_of_ble_eq_true rfl), (Nat.le_of_ble_eq_true rfl)⟩ ⟨Nat.zero_le _, Nat.zero_le _⟩ rfl hl.1 (rest := []) rfl (Nat.le_of_ble_eq_true rfl) dX1_readTell_66 (fun H locs hn9 hW => ?_)
      exact ri hQ C hr hlk hW hf (rok_z (hn9.2 rfl)) dX1_readTell_69
    · replace hf := (if_pos h9).symm.trans hf
      refine lv_aload_n C.1.1 C.1.2.1 dX1_readTell_59 rfl (lv_at hl 0 rfl) ?_
      obtain ⟨⟨r13, σ12⟩, hc11, hf⟩ := bd hf
      try dsimp only at hf
      refine cVi C hW (mX1_readSeed hk_a0 hc11) hk_a0 kvX1_readSeed w_648 ⟨(Nat.le_of_ble_eq_true rfl), (Nat.le_of_ble_eq_true rfl)⟩ ⟨Nat.zero_le _, Nat.zero_le _⟩ rfl hl.1 (rest := []) rfl (Nat.le_of_ble_eq_true rfl) dX1_readTell_60 (fun H locs hn14 hW => ?_)
      exact ri hQ C hr hlk hW hf (rok_z (hn14.2 rfl)) dX1_readTell_63
  refine lv_aload_n C.1.1 C.1.2.1 dX1_readTell_0 rfl (lv_at hl 0 rfl) ?_
  obtain ⟨⟨r3, σ2⟩, hc1, hf⟩ := bd hf
  try dsimp only at hf
  refine cVi C hW (mX1_kindHere hk_a0 hc1) hk_a0 kvX1_kindHere w_572 ⟨(Nat.le_of_ble_eq_true rfl), (Nat.le_of_ble_eq_true rfl)⟩ ⟨Nat.zero_le _, Nat.zero_le _⟩ rfl hl.1 (rest := []) rfl (Nat.le_of_ble_eq_true rfl) dX1_readTell_1 (fun H locs hn4 hW => ?_)
  refine lv_istore_n (lv' := [(1, .int _), (0, .ref _)]) C.1.1 C.1.2.1 dX1_readTell_4 rfl hl (by decide) rfl (fun ls hl => ?_)
  refine lv_iload_n C.1.1 C.1.2.1 dX1_readTell_5 rfl (lv_at hl 0 rfl) ?_
  refine lv_if_ne (tgt := 14) C.1.1 C.1.2.1 dX1_readTell_6 (by decide) (fun h9 => ?_) (fun h9 => ?_)
  · replace hf := (if_neg h9).symm.trans hf
    refine lv_iload_n C.1.1 C.1.2.1 dX1_readTell_14 rfl (lv_at hl 0 rfl) ?_
    refine lv_iconst (v := 1) C.1.1 C.1.2.1 dX1_readTell_15 (by decide) ?_
    refine lv_icmp_ne (tgt := 24) C.1.1 C.1.2.1 dX1_readTell_16 (by decide) (fun h9 => ?_) (fun h9 => ?_)
    · replace hf := (if_neg h9).symm.trans hf
      refine lv_iload_n C.1.1 C.1.2.1 dX1_readTell_24 rfl (lv_at hl 0 rfl) ?_
      refine lv_iconst (v := 2) C.1.1 C.1.2.1 dX1_readTell_25 (by decide) ?_
      refine lv_icmp_ne (tgt := 34) C.1.1 C.1.2.1 dX1_readTell_26 (by decide) (fun h9 => ?_) (fun h9 => ?_)
      · replace hf := (if_neg h9).symm.trans hf
        refine lv_iload_n C.1.1 C.1.2.1 dX1_readTell_34 rfl (lv_at hl 0 rfl) ?_
        refine lv_iconst (v := 3) C.1.1 C.1.2.1 dX1_readTell_35 (by decide) ?_
        refine lv_icmp_lt (tgt := 53) C.1.1 C.1.2.1 dX1_readTell_36 (by decide) (fun h9 => ?_) (fun h9 => ?_)
        · replace hf := (if_pos h9).symm.trans hf
          exact J53 _ _ _ _ _ hf hW (lv_sub hl [1, 0] rfl)
        · replace hf := (if_neg h9).symm.trans hf
          refine lv_iload_n C.1.1 C.1.2.1 dX1_readTell_39 rfl (lv_at hl 0 rfl) ?_
          refine lv_bipush (v := 6) C.1.1 C.1.2.1 dX1_readTell_40 (by decide) ?_
          refine lv_icmp_gt (tgt := 53) C.1.1 C.1.2.1 dX1_readTell_42 (by decide) (fun h9 => ?_) (fun h9 => ?_)
          · replace hf := (if_pos h9).symm.trans hf
            exact J53 _ _ _ _ _ hf hW (lv_sub hl [1, 0] rfl)
          · replace hf := (if_neg h9).symm.trans hf
            refine lv_aload_n C.1.1 C.1.2.1 dX1_readTell_45 rfl (lv_at hl 1 rfl) ?_
            refine lv_iload_n C.1.1 C.1.2.1 dX1_readTell_46 rfl (lv_at hl 0 rfl) ?_
            refine lv_iconst (v := 3) C.1.1 C.1.2.1 dX1_readTell_47 (by decide) ?_
            refine lv_isub C.1.1 C.1.2.1 dX1_readTell_48 ?_
            obtain ⟨⟨r18, σ17⟩, hc16, hf⟩ := bd hf
            try dsimp only at hf
            refine cVi C hW (mX1_readLaw hk_a0 hc16) hk_a0 kvX1_readLaw w_623 ⟨(Nat.le_of_ble_eq_true rfl), (Nat.le_of_ble_eq_true rfl)⟩ ⟨Nat.zero_le _, Nat.zero_le _⟩ rfl hl.1 (rest := []) rfl (Nat.le_of_ble_eq_true rfl) dX1_readTell_49 (fun H locs hn19 hW => ?_)
            exact ri hQ C hr hlk hW hf (rok_z (hn19.2 rfl)) dX1_readTell_52
      · replace hf := (if_pos h9).symm.trans hf
        refine lv_aload_n C.1.1 C.1.2.1 dX1_readTell_29 rfl (lv_at hl 1 rfl) ?_
        obtain ⟨⟨r23, σ22⟩, hc21, hf⟩ := bd hf
        try dsimp only at hf
        refine cVi C hW (mX1_readBoth hk_a0 hc21) hk_a0 kvX1_readBoth w_616 ⟨(Nat.le_of_ble_eq_true rfl), (Nat.le_of_ble_eq_true rfl)⟩ ⟨Nat.zero_le _, Nat.zero_le _⟩ rfl hl.1 (rest := []) rfl (Nat.le_of_ble_eq_true rfl) dX1_readTell_30 (fun H locs hn24 hW => ?_)
        exact ri hQ C hr hlk hW hf (rok_z (hn24.2 rfl)) dX1_readTell_33
    · replace hf := (if_pos h9).symm.trans hf
      refine lv_aload_n C.1.1 C.1.2.1 dX1_readTell_19 rfl (lv_at hl 1 rfl) ?_
      obtain ⟨⟨r28, σ27⟩, hc26, hf⟩ := bd hf
      try dsimp only at hf
      refine cVi C hW (mX1_readSpare hk_a0 hc26) hk_a0 kvX1_readSpare w_608 ⟨(Nat.le_of_ble_eq_true rfl), (Nat.le_of_ble_eq_true rfl)⟩ ⟨Nat.zero_le _, Nat.zero_le _⟩ rfl hl.1 (rest := []) rfl (Nat.le_of_ble_eq_true rfl) dX1_readTell_20 (fun H locs hn29 hW => ?_)
      exact ri hQ C hr hlk hW hf (rok_z (hn29.2 rfl)) dX1_readTell_23
  · replace hf := (if_pos h9).symm.trans hf
    refine lv_aload_n C.1.1 C.1.2.1 dX1_readTell_9 rfl (lv_at hl 1 rfl) ?_
    obtain ⟨⟨r33, σ32⟩, hc31, hf⟩ := bd hf
    try dsimp only at hf
    refine cVi C hW (mX1_readHouse hk_a0 hc31) hk_a0 kvX1_readHouse w_580 ⟨(Nat.le_of_ble_eq_true rfl), (Nat.le_of_ble_eq_true rfl)⟩ ⟨Nat.zero_le _, Nat.zero_le _⟩ rfl hl.1 (rest := []) rfl (Nat.le_of_ble_eq_true rfl) dX1_readTell_10 (fun H locs hn34 hW => ?_)
    exact ri hQ C hr hlk hW hf (rok_z (hn34.2 rfl)) dX1_readTell_13
theorem kvX1_readText : KV 1 "RightKeys$Reader" yX1_readText cX1_readText 6 (some .int) 3 := ⟨⟨w_477, w_478, w_112, w_479⟩, ⟨rfl, by decide, by decide, by decide +kernel⟩, by decide, rfl⟩
noncomputable def jX1_readText_86 (a0 : Nat) (a1 : Nat) (p2 : Int32) (a3 : Nat) (x5 : Int32) (s0 : Int32) (σ : Sg) : Option ((Int32 × Int32 × Sg) ⊕ (Sg)) := (let x5_24 := x5 + (1 : Int32); some (Sum.inl (s0, x5_24, σ)))
noncomputable def jX1_readText_85 (a0 : Nat) (a1 : Nat) (p2 : Int32) (a3 : Nat) (x5 : Int32) (σ : Sg) : Option ((Int32 × Int32 × Sg) ⊕ (Sg)) := jX1_readText_86 a0 a1 p2 a3 x5 (0 : Int32) σ
noncomputable def bX1_readText_52 (a0 : Nat) (a1 : Nat) (p2 : Int32) (a3 : Nat) (x4 : Int32) (x5 : Int32) (σ : Sg) : Option ((Int32 × Int32 × Sg) ⊕ (Sg)) := if (400 : Int32) < x5 then (some (Sum.inr σ)) else (if x4 = 0 then (some (Sum.inr σ)) else ((fX1_kindHere a0 σ).bind (fun q23 => let r21 := q23.1; let σ20 := q23.2; if r21 = (31 : Int32) then (jX1_readText_85 a0 a1 p2 a3 x5 σ20) else ((fX1_readTell a0 σ20).bind (fun q29 => let r27 := q29.1; let σ26 := q29.2; if r27 = 0 then (jX1_readText_85 a0 a1 p2 a3 x5 σ26) else (jX1_readText_86 a0 a1 p2 a3 x5 (1 : Int32) σ26))))))
noncomputable def fX1_readText (a0 : Nat) (a1 : Nat) (p2 : Int32) (a3 : Nat) (σ : Sg) : Option (Int32 × Sg) := (fX4_scan (a0 + 1) a1 p2 σ).bind (fun σ3 => (let σ7 := wI σ3 a0 1 (0 : Int32); let σ8 := wT σ7 a0 2 a3; (fX3_clear (σ8.2.2.1 a0 2) σ8).bind (fun σ11 => (let σ15 := wI σ11 a0 3 (0 : Int32); let σ16 := wI σ15 a0 4 (-1 : Int32); let σ17 := wI σ16 a0 5 (0 : Int32); let σ18 := wI σ17 a0 6 (-1 : Int32); (lp (fun st => bX1_readText_52 a0 a1 p2 a3 st.1 st.2.1 st.2.2) ((1 : Int32), (0 : Int32), σ18)).bind (fun σ31 => if (σ31.1 a0 3) = 0 then ((let σ32 := wI σ31 a0 3 (σ31.1 a0 5); let σ33 := wI σ32 a0 4 (σ32.1 a0 6); some ((σ33.1 a0 3), σ33))) else (some ((σ31.1 a0 3), σ31)))))))
set_option maxRecDepth 100000 in
set_option maxHeartbeats 4000000 in
theorem mX1_readText {l : Launch} {G : Gm} {a0 : Nat} {a1 : Nat} {p2 : Int32} {a3 : Nat} {σ : Sg} {r : Int32} {σ' : Sg} (hk_a0 : gK G a0 = 2) (hk_a1 : gK G a1 = kA 0 2000) (hk_a3 : gK G a3 = 4) (hf : fX1_readText a0 a1 p2 a3 σ = some (r, σ')) : Mi l G yX1_readText cX1_readText 6 .int 40 1447 [.ref (gB G + a0), .ref (gB G + a1), .int p2, .ref (gB G + a3)] σ r σ' := by
  refine of_W "RightKeys$Reader" rfl (by decide) (Nat.le_of_ble_eq_true rfl) ?_
  intro p e s m args below meth c Q hQ C hr hlk hW ls hl
  have h00 := hW.1
  have hl : lv_has ls 6 [(0, .ref (gB G + a0)), (1, .ref (gB G + a1)), (2, .int p2), (3, .ref (gB G + a3))] := hl
  delta fX1_readText at hf
  have L52 : ∀ (n : Nat) (x4 : Int32) (x5 : Int32) (σ : Sg) (H : Heap) (locs : List Loc) (ls : Array Slot) (out : (Sg)), iter (fun st => bX1_readText_52 a0 a1 p2 a3 st.1 st.2.1 st.2.2) n (x4, x5, σ) = some out → Ws G σ s.heap H locs → lv_has ls 6 [(0, .ref (gB G + a0)), (4, .int x4), (5, .int x5)] → (∀ (σ : Sg) (H : Heap) (locs : List Loc) (ls : Array Slot), out = σ → Ws G σ s.heap H locs → lv_has ls 6 [(0, .ref (gB G + a0))] → W p l e (rmOf 40 1447) s m args below meth c H locs 0 0 Q (F0 m 94 ls [])) → W p l e (rmOf 40 1447) s m args below meth c H locs 0 0 Q (F0 m 52 ls []) := by
    intro n
    induction n with
    | zero =>
      intro x4 x5 σ H locs ls out hf
      exact (it_0 hf).elim
    | succ n ih =>
      intro x4 x5 σ H locs ls out hf hW hl K52_94
      obtain ⟨x, hf, hx⟩ := it_s hf
      have hf : bX1_readText_52 a0 a1 p2 a3 x4 x5 σ = some x := hf
      delta bX1_readText_52 at hf
      have J86 : ∀ (x5 : Int32) (s0 : Int32) (σ : Sg) (H : Heap) (locs : List Loc) (ls : Array Slot), jX1_readText_86 a0 a1 p2 a3 x5 s0 σ = some x → Ws G σ s.heap H locs → lv_has ls 6 [(0, .ref (gB G + a0)), (5, .int x5)] → W p l e (rmOf 40 1447) s m args below meth c H locs 0 0 Q (F0 m 86 ls [.int s0]) := by
        intro x5 s0 σ H locs ls hf hW hl
        delta jX1_readText_86 at hf
        refine lv_istore (lv' := [(4, .int _), (0, .ref _), (5, .int _)]) C.1.1 C.1.2.1 dX1_readText_86 hl (by decide) rfl (fun ls hl => ?_)
        refine lv_iinc (v := _) (lv' := [(5, .int _), (4, .int _), (0, .ref _)]) C.1.1 C.1.2.1 dX1_readText_88 hl (k := 2) rfl (ii (k := 1) (by decide)) (by decide) rfl (fun ls hl => ?_)
        refine lv_goto (tgt := 52) C.1.1 C.1.2.1 dX1_readText_91 (by decide) ?_
        cases hf
        exact ih _ _ _ _ _ _ _ hx hW (lv_sub hl [2, 1, 0] rfl) K52_94
      have J85 : ∀ (x5 : Int32) (σ : Sg) (H : Heap) (locs : List Loc) (ls : Array Slot), jX1_readText_85 a0 a1 p2 a3 x5 σ = some x → Ws G σ s.heap H locs → lv_has ls 6 [(0, .ref (gB G + a0)), (5, .int x5)] → W p l e (rmOf 40 1447) s m args below meth c H locs 0 0 Q (F0 m 85 ls []) := by
        intro x5 σ H locs ls hf hW hl
        delta jX1_readText_85 at hf
        refine lv_iconst (v := 0) C.1.1 C.1.2.1 dX1_readText_85 (by decide) ?_
        exact J86 _ _ _ _ _ _ hf hW (lv_sub hl [0, 1] rfl)
      refine lv_iload C.1.1 C.1.2.1 dX1_readText_52 (lv_at hl 2 rfl) ?_
      refine lv_sipush (v := 400) C.1.1 C.1.2.1 dX1_readText_54 (by decide) ?_
      refine lv_icmp_gt (tgt := 94) C.1.1 C.1.2.1 dX1_readText_57 (by decide) (fun h9 => ?_) (fun h9 => ?_)
      · replace hf := (if_pos h9).symm.trans hf
        cases hf
        cases hx
        exact K52_94 _ _ _ _ rfl hW (lv_sub hl [0] rfl)
      · replace hf := (if_neg h9).symm.trans hf
        refine lv_iload C.1.1 C.1.2.1 dX1_readText_60 (lv_at hl 1 rfl) ?_
        refine lv_if_eq (tgt := 94) C.1.1 C.1.2.1 dX1_readText_62 (by decide) (fun h9 => ?_) (fun h9 => ?_)
        · replace hf := (if_pos h9).symm.trans hf
          cases hf
          cases hx
          exact K52_94 _ _ _ _ rfl hW (lv_sub hl [0] rfl)
        · replace hf := (if_neg h9).symm.trans hf
          refine lv_aload_n C.1.1 C.1.2.1 dX1_readText_65 rfl (lv_at hl 0 rfl) ?_
          obtain ⟨⟨r21, σ20⟩, hc19, hf⟩ := bd hf
          try dsimp only at hf
          refine cVi C hW (mX1_kindHere hk_a0 hc19) hk_a0 kvX1_kindHere w_572 ⟨(Nat.le_of_ble_eq_true rfl), (Nat.le_of_ble_eq_true rfl)⟩ ⟨Nat.zero_le _, Nat.zero_le _⟩ rfl hl.1 (rest := []) rfl (Nat.le_of_ble_eq_true rfl) dX1_readText_66 (fun H locs hn22 hW => ?_)
          refine lv_bipush (v := 31) C.1.1 C.1.2.1 dX1_readText_69 (by decide) ?_
          refine lv_icmp_eq (tgt := 85) C.1.1 C.1.2.1 dX1_readText_71 (by decide) (fun h9 => ?_) (fun h9 => ?_)
          · replace hf := (if_pos h9).symm.trans hf
            exact J85 _ _ _ _ _ hf hW (lv_sub hl [0, 2] rfl)
          · replace hf := (if_neg h9).symm.trans hf
            refine lv_aload_n C.1.1 C.1.2.1 dX1_readText_74 rfl (lv_at hl 0 rfl) ?_
            obtain ⟨⟨r27, σ26⟩, hc25, hf⟩ := bd hf
            try dsimp only at hf
            refine cVi C hW (mX1_readTell hk_a0 hc25) hk_a0 kvX1_readTell w_576 ⟨(Nat.le_of_ble_eq_true rfl), (Nat.le_of_ble_eq_true rfl)⟩ ⟨Nat.zero_le _, Nat.zero_le _⟩ rfl hl.1 (rest := []) rfl (Nat.le_of_ble_eq_true rfl) dX1_readText_75 (fun H locs hn28 hW => ?_)
            refine lv_if_eq (tgt := 85) C.1.1 C.1.2.1 dX1_readText_78 (by decide) (fun h9 => ?_) (fun h9 => ?_)
            · replace hf := (if_pos h9).symm.trans hf
              exact J85 _ _ _ _ _ hf hW (lv_sub hl [0, 2] rfl)
            · replace hf := (if_neg h9).symm.trans hf
              refine lv_iconst (v := 1) C.1.1 C.1.2.1 dX1_readText_81 (by decide) ?_
              refine lv_goto (tgt := 86) C.1.1 C.1.2.1 dX1_readText_82 (by decide) ?_
              exact J86 _ _ _ _ _ _ hf hW (lv_sub hl [0, 2] rfl)
  refine lv_aload_n C.1.1 C.1.2.1 dX1_readText_0 rfl (lv_at hl 0 rfl) ?_
  have hk1 := sh1_0 hW hk_a0
  refine gf1_0 C hW hk_a0 w_268 dX1_readText_1 ?_
  refine lv_aload_n C.1.1 C.1.2.1 dX1_readText_4 rfl (lv_at hl 1 rfl) ?_
  refine lv_iload_n C.1.1 C.1.2.1 dX1_readText_5 rfl (lv_at hl 2 rfl) ?_
  obtain ⟨σ3, hc2, hf⟩ := bd hf
  try dsimp only at hf
  refine cVv C hW (mX4_scan hk1 hk_a1 hc2) hk1 kvX4_scan w_480 ⟨(Nat.le_of_ble_eq_true rfl), (Nat.le_of_ble_eq_true rfl)⟩ ⟨Nat.zero_le _, Nat.zero_le _⟩ rfl hl.1 (rest := []) rfl (Nat.le_of_ble_eq_true rfl) dX1_readText_6 (fun H locs hW => ?_)
  refine lv_aload_n C.1.1 C.1.2.1 dX1_readText_9 rfl (lv_at hl 0 rfl) ?_
  refine lv_iconst (v := 0) C.1.1 C.1.2.1 dX1_readText_10 (by decide) ?_
  refine pf1_1 C hW hk_a0 w_269 dX1_readText_11 (fun H locs hW => ?_)
  refine lv_aload_n C.1.1 C.1.2.1 dX1_readText_14 rfl (lv_at hl 0 rfl) ?_
  refine lv_aload_n C.1.1 C.1.2.1 dX1_readText_15 rfl (lv_at hl 3 rfl) ?_
  refine pf1_2 C hW hk_a0 hk_a3 w_270 dX1_readText_16 (fun H locs hW => ?_)
  refine lv_aload_n C.1.1 C.1.2.1 dX1_readText_19 rfl (lv_at hl 0 rfl) ?_
  have hk9 := sh1_2 hW hk_a0
  refine gf1_2 C hW hk_a0 w_270 dX1_readText_20 ?_
  obtain ⟨σ11, hc10, hf⟩ := bd hf
  try dsimp only at hf
  refine cVv C hW (mX3_clear hk9 hc10) hk9 kvX3_clear w_567 ⟨(Nat.le_of_ble_eq_true rfl), (Nat.le_of_ble_eq_true rfl)⟩ ⟨Nat.zero_le _, Nat.zero_le _⟩ rfl hl.1 (rest := []) rfl (Nat.le_of_ble_eq_true rfl) dX1_readText_23 (fun H locs hW => ?_)
  refine lv_aload_n C.1.1 C.1.2.1 dX1_readText_26 rfl (lv_at hl 0 rfl) ?_
  refine lv_iconst (v := 0) C.1.1 C.1.2.1 dX1_readText_27 (by decide) ?_
  refine pf1_3 C hW hk_a0 w_271 dX1_readText_28 (fun H locs hW => ?_)
  refine lv_aload_n C.1.1 C.1.2.1 dX1_readText_31 rfl (lv_at hl 0 rfl) ?_
  refine lv_iconst (v := (-1)) C.1.1 C.1.2.1 dX1_readText_32 (by decide) ?_
  refine pf1_4 C hW hk_a0 w_272 dX1_readText_33 (fun H locs hW => ?_)
  refine lv_aload_n C.1.1 C.1.2.1 dX1_readText_36 rfl (lv_at hl 0 rfl) ?_
  refine lv_iconst (v := 0) C.1.1 C.1.2.1 dX1_readText_37 (by decide) ?_
  refine pf1_5 C hW hk_a0 w_274 dX1_readText_38 (fun H locs hW => ?_)
  refine lv_aload_n C.1.1 C.1.2.1 dX1_readText_41 rfl (lv_at hl 0 rfl) ?_
  refine lv_iconst (v := (-1)) C.1.1 C.1.2.1 dX1_readText_42 (by decide) ?_
  refine pf1_6 C hW hk_a0 w_275 dX1_readText_43 (fun H locs hW => ?_)
  refine lv_iconst (v := 1) C.1.1 C.1.2.1 dX1_readText_46 (by decide) ?_
  refine lv_istore (lv' := [(4, .int _), (0, .ref _), (1, .ref _), (2, .int _), (3, .ref _)]) C.1.1 C.1.2.1 dX1_readText_47 hl (by decide) rfl (fun ls hl => ?_)
  refine lv_iconst (v := 0) C.1.1 C.1.2.1 dX1_readText_49 (by decide) ?_
  refine lv_istore (lv' := [(5, .int _), (4, .int _), (0, .ref _), (1, .ref _), (2, .int _), (3, .ref _)]) C.1.1 C.1.2.1 dX1_readText_50 hl (by decide) rfl (fun ls hl => ?_)
  obtain ⟨o30, ho, hf⟩ := bd hf
  obtain ⟨n, ho⟩ := lp_it ho
  refine L52 n _ _ _ _ _ _ o30 ho hW (lv_sub hl [2, 1, 0] rfl) ?_
  intro  σ31 H locs ls e9 hW hl
  subst e9
  try dsimp only at hf
  refine lv_aload_n C.1.1 C.1.2.1 dX1_readText_94 rfl (lv_at hl 0 rfl) ?_
  refine gf1_3 C hW hk_a0 w_271 dX1_readText_95 ?_
  refine lv_if_ne (tgt := 117) C.1.1 C.1.2.1 dX1_readText_98 (by decide) (fun h9 => ?_) (fun h9 => ?_)
  · replace hf := (if_neg h9).symm.trans hf
    refine lv_aload_n C.1.1 C.1.2.1 dX1_readText_117 rfl (lv_at hl 0 rfl) ?_
    refine gf1_3 C hW hk_a0 w_271 dX1_readText_118 ?_
    exact ri hQ C hr hlk hW hf (rok_i _) dX1_readText_121
  · replace hf := (if_pos h9).symm.trans hf
    refine lv_aload_n C.1.1 C.1.2.1 dX1_readText_101 rfl (lv_at hl 0 rfl) ?_
    refine lv_aload_n C.1.1 C.1.2.1 dX1_readText_102 rfl (lv_at hl 0 rfl) ?_
    refine gf1_5 C hW hk_a0 w_274 dX1_readText_103 ?_
    refine pf1_3 C hW hk_a0 w_271 dX1_readText_106 (fun H locs hW => ?_)
    refine lv_aload_n C.1.1 C.1.2.1 dX1_readText_109 rfl (lv_at hl 0 rfl) ?_
    refine lv_aload_n C.1.1 C.1.2.1 dX1_readText_110 rfl (lv_at hl 0 rfl) ?_
    refine gf1_6 C hW hk_a0 w_275 dX1_readText_111 ?_
    refine pf1_4 C hW hk_a0 w_272 dX1_readText_114 (fun H locs hW => ?_)
    refine lv_aload_n C.1.1 C.1.2.1 dX1_readText_117 rfl (lv_at hl 0 rfl) ?_
    refine gf1_3 C hW hk_a0 w_271 dX1_readText_118 ?_
    exact ri hQ C hr hlk hW hf (rok_i _) dX1_readText_121
theorem kvX6_read : KV 6 "RightKeys" yX6_read cX6_read 2 (some .int) 0 := ⟨⟨w_473, w_474, w_109, w_475⟩, ⟨rfl, by decide, by decide, by decide +kernel⟩, by decide, rfl⟩
noncomputable def fX6_read (a0 : Nat) (σ : Sg) : Option (Int32 × Sg) := (fX1_readText (a0 + 26) (a0 + 1) (σ.1 a0 1) (σ.2.2.1 a0 4) σ).bind (fun q8 => let r6 := q8.1; let σ5 := q8.2; (let σ9 := wI σ5 a0 1 (0 : Int32); let σ11 := wI σ9 a0 2 (σ9.1 (a0 + 26) 4); if r6 = 0 then ((fX6_takeDraft a0 σ11).bind (fun σ13 => some (r6, σ13))) else (some (r6, σ11))))
set_option maxRecDepth 100000 in
set_option maxHeartbeats 4000000 in
theorem mX6_read {l : Launch} {G : Gm} {a0 : Nat} {σ : Sg} {r : Int32} {σ' : Sg} (hk_a0 : gK G a0 = 7) (hf : fX6_read a0 σ = some (r, σ')) : Mi l G yX6_read cX6_read 2 .int 41 1472 [.ref (gB G + a0)] σ r σ' := by
  refine of_W "RightKeys" rfl (by decide) (Nat.le_of_ble_eq_true rfl) ?_
  intro p e s m args below meth c Q hQ C hr hlk hW ls hl
  have h00 := hW.1
  have hl : lv_has ls 2 [(0, .ref (gB G + a0))] := hl
  delta fX6_read at hf
  refine lv_aload_n C.1.1 C.1.2.1 dX6_read_0 rfl (lv_at hl 0 rfl) ?_
  have hk1 := sh6_5 hW hk_a0
  refine gf6_5 C hW hk_a0 w_410 dX6_read_1 ?_
  refine lv_aload_n C.1.1 C.1.2.1 dX6_read_4 rfl (lv_at hl 0 rfl) ?_
  have hk2 := sh6_0 hW hk_a0
  refine gf6_0 C hW hk_a0 w_405 dX6_read_5 ?_
  refine lv_aload_n C.1.1 C.1.2.1 dX6_read_8 rfl (lv_at hl 0 rfl) ?_
  refine gf6_1 C hW hk_a0 w_406 dX6_read_9 ?_
  refine lv_aload_n C.1.1 C.1.2.1 dX6_read_12 rfl (lv_at hl 0 rfl) ?_
  have hk3 := sh6_4 hW hk_a0
  refine gf6_4 C hW hk_a0 w_409 dX6_read_13 ?_
  obtain ⟨⟨r6, σ5⟩, hc4, hf⟩ := bd hf
  try dsimp only at hf
  refine cVi C hW (mX1_readText hk1 hk2 hk3 hc4) hk1 kvX1_readText w_476 ⟨(Nat.le_of_ble_eq_true rfl), (Nat.le_of_ble_eq_true rfl)⟩ ⟨Nat.zero_le _, Nat.zero_le _⟩ rfl hl.1 (rest := []) rfl (Nat.le_of_ble_eq_true rfl) dX6_read_16 (fun H locs hn7 hW => ?_)
  refine lv_istore_n (lv' := [(1, .int _), (0, .ref _)]) C.1.1 C.1.2.1 dX6_read_19 rfl hl (by decide) rfl (fun ls hl => ?_)
  refine lv_aload_n C.1.1 C.1.2.1 dX6_read_20 rfl (lv_at hl 1 rfl) ?_
  refine lv_iconst (v := 0) C.1.1 C.1.2.1 dX6_read_21 (by decide) ?_
  refine pf6_1 C hW hk_a0 w_406 dX6_read_22 (fun H locs hW => ?_)
  refine lv_aload_n C.1.1 C.1.2.1 dX6_read_25 rfl (lv_at hl 1 rfl) ?_
  refine lv_aload_n C.1.1 C.1.2.1 dX6_read_26 rfl (lv_at hl 1 rfl) ?_
  have hk10 := sh6_5 hW hk_a0
  refine gf6_5 C hW hk_a0 w_410 dX6_read_27 ?_
  refine gf1_4 C hW hk10 w_273 dX6_read_30 ?_
  refine pf6_2 C hW hk_a0 w_407 dX6_read_33 (fun H locs hW => ?_)
  refine lv_iload_n C.1.1 C.1.2.1 dX6_read_36 rfl (lv_at hl 0 rfl) ?_
  refine lv_if_ne (tgt := 44) C.1.1 C.1.2.1 dX6_read_37 (by decide) (fun h9 => ?_) (fun h9 => ?_)
  · replace hf := (if_neg h9).symm.trans hf
    refine lv_iload_n C.1.1 C.1.2.1 dX6_read_44 rfl (lv_at hl 0 rfl) ?_
    exact ri hQ C hr hlk hW hf (rok_i _) dX6_read_45
  · replace hf := (if_pos h9).symm.trans hf
    refine lv_aload_n C.1.1 C.1.2.1 dX6_read_40 rfl (lv_at hl 1 rfl) ?_
    obtain ⟨σ13, hc12, hf⟩ := bd hf
    try dsimp only at hf
    refine cVv C hW (mX6_takeDraft hk_a0 hc12) hk_a0 kvX6_takeDraft w_652 ⟨(Nat.le_of_ble_eq_true rfl), (Nat.le_of_ble_eq_true rfl)⟩ ⟨Nat.zero_le _, Nat.zero_le _⟩ rfl hl.1 (rest := []) rfl (Nat.le_of_ble_eq_true rfl) dX6_read_41 (fun H locs hW => ?_)
    refine lv_iload_n C.1.1 C.1.2.1 dX6_read_44 rfl (lv_at hl 0 rfl) ?_
    exact ri hQ C hr hlk hW hf (rok_i _) dX6_read_45
