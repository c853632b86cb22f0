theorem kvX7_openers : KV 7 "RightKeysModel" yX7_openers cX7_openers 3 (some .int) 1 := ⟨⟨w_1521, w_1522, w_116, w_1523⟩, ⟨rfl, by decide, by decide, by decide +kernel⟩, by decide, rfl⟩
noncomputable def jX7_openers_48 (a0 : Nat) (p1 : Int32) (x2 : Int32) (σ : Sg) : Option (Int32 × Sg) := (fX7_canRight a0 p1 σ).bind (fun q25 => let r23 := q25.1; let σ22 := q25.2; if r23 = 0 then (some (x2, σ22)) else ((fX7_rightOf a0 p1 σ22).bind (fun q30 => let r28 := q30.1; let σ27 := q30.2; (let x2_31 := (x2 ||| ((1 : Int32) <<< (r28 &&& 31))); some (x2_31, σ27)))))
noncomputable def jX7_openers_30 (a0 : Nat) (p1 : Int32) (x2 : Int32) (σ : Sg) : Option (Int32 × Sg) := (fX7_canLeft a0 p1 σ).bind (fun q20 => let r18 := q20.1; let σ17 := q20.2; if r18 = 0 then (jX7_openers_48 a0 p1 x2 σ17) else ((fX7_leftOf a0 p1 σ17).bind (fun q36 => let r34 := q36.1; let σ33 := q36.2; (let x2_37 := (x2 ||| ((1 : Int32) <<< (r34 &&& 31))); jX7_openers_48 a0 p1 x2_37 σ33))))
noncomputable def fX7_openers (a0 : Nat) (p1 : Int32) (σ : Sg) : Option (Int32 × Sg) := (fX7_isHouse a0 p1 σ).bind (fun q5 => let r3 := q5.1; let σ2 := q5.2; if r3 = 0 then (some ((-1 : Int32), σ2)) else ((fX7_copies a0 σ2).bind (fun σ7 => (fX7_canOwn a0 p1 σ7).bind (fun q15 => let r13 := q15.1; let σ12 := q15.2; if r13 = 0 then (jX7_openers_30 a0 p1 (0 : Int32) σ12) else ((let x2_38 := ((0 : Int32) ||| ((1 : Int32) <<< (p1 &&& 31))); jX7_openers_30 a0 p1 x2_38 σ12))))))
set_option maxRecDepth 100000 in
set_option maxHeartbeats 4000000 in
theorem mX7_openers {l : Launch} {G : Gm} {a0 : Nat} {p1 : Int32} {σ : Sg} {r : Int32} {σ' : Sg} (hk_a0 : gK G a0 = 8) (hf : fX7_openers a0 p1 σ = some (r, σ')) : Mi l G yX7_openers cX7_openers 3 .int 2 43 [.ref (gB G + a0), .int p1] σ r σ' := by
  refine of_W "RightKeysModel" rfl (by decide) (Nat.le_of_ble_eq_true rfl) ?_
  intro p e s m args below meth c Q hQ C hr hlk hW ls hl
  have h00 := hW.1
  have hl : lv_has ls 3 [(0, .ref (gB G + a0)), (1, .int p1)] := hl
  delta fX7_openers at hf
  have J48 : ∀ (x2 : Int32) (σ : Sg) (H : Heap) (locs : List Loc) (ls : Array Slot), jX7_openers_48 a0 p1 x2 σ = some (r, σ') → Ws G σ s.heap H locs → lv_has ls 3 [(0, .ref (gB G + a0)), (1, .int p1), (2, .int x2)] → W p l e (rmOf 2 43) s m args below meth c H locs 0 0 Q (F0 m 48 ls []) := by
    intro x2 σ H locs ls hf hW hl
    delta jX7_openers_48 at hf
    refine lv_aload_n C.1.1 C.1.2.1 dX7_openers_48 rfl (lv_at hl 0 rfl) ?_
    refine lv_iload_n C.1.1 C.1.2.1 dX7_openers_49 rfl (lv_at hl 1 rfl) ?_
    obtain ⟨⟨r23, σ22⟩, hc21, hf⟩ := bd hf
    try dsimp only at hf
    refine cVi C hW (mX7_canRight hk_a0 hc21) hk_a0 kvX7_canRight w_1503 ⟨(Nat.le_of_ble_eq_true rfl), (Nat.le_of_ble_eq_true rfl)⟩ ⟨Nat.zero_le _, Nat.zero_le _⟩ rfl hl.1 (rest := []) rfl (Nat.le_of_ble_eq_true rfl) dX7_openers_50 (fun H locs hn24 hW => ?_)
    refine lv_if_eq (tgt := 66) C.1.1 C.1.2.1 dX7_openers_53 (by decide) (fun h9 => ?_) (fun h9 => ?_)
    · replace hf := (if_pos h9).symm.trans hf
      refine lv_iload_n C.1.1 C.1.2.1 dX7_openers_66 rfl (lv_at hl 2 rfl) ?_
      exact ri hQ C hr hlk hW hf (rok_i _) dX7_openers_67
    · replace hf := (if_neg h9).symm.trans hf
      refine lv_iload_n C.1.1 C.1.2.1 dX7_openers_56 rfl (lv_at hl 2 rfl) ?_
      refine lv_iconst (v := 1) C.1.1 C.1.2.1 dX7_openers_57 (by decide) ?_
      refine lv_aload_n C.1.1 C.1.2.1 dX7_openers_58 rfl (lv_at hl 0 rfl) ?_
      refine lv_iload_n C.1.1 C.1.2.1 dX7_openers_59 rfl (lv_at hl 1 rfl) ?_
      obtain ⟨⟨r28, σ27⟩, hc26, hf⟩ := bd hf
      try dsimp only at hf
      refine cVi C hW (mX7_rightOf hk_a0 hc26) hk_a0 kvX7_rightOf w_1447 ⟨(Nat.le_of_ble_eq_true rfl), (Nat.le_of_ble_eq_true rfl)⟩ ⟨Nat.zero_le _, Nat.zero_le _⟩ rfl hl.1 (rest := [.int _, .int _]) rfl (Nat.le_of_ble_eq_true rfl) dX7_openers_60 (fun H locs hn29 hW => ?_)
      refine lv_ishl C.1.1 C.1.2.1 dX7_openers_63 ?_
      refine lv_ior C.1.1 C.1.2.1 dX7_openers_64 ?_
      refine lv_istore_n (lv' := [(2, .int _), (0, .ref _), (1, .int _)]) C.1.1 C.1.2.1 dX7_openers_65 rfl hl (by decide) rfl (fun ls hl => ?_)
      refine lv_iload_n C.1.1 C.1.2.1 dX7_openers_66 rfl (lv_at hl 0 rfl) ?_
      exact ri hQ C hr hlk hW hf (rok_i _) dX7_openers_67
  have J30 : ∀ (x2 : Int32) (σ : Sg) (H : Heap) (locs : List Loc) (ls : Array Slot), jX7_openers_30 a0 p1 x2 σ = some (r, σ') → Ws G σ s.heap H locs → lv_has ls 3 [(0, .ref (gB G + a0)), (1, .int p1), (2, .int x2)] → W p l e (rmOf 2 43) s m args below meth c H locs 0 0 Q (F0 m 30 ls []) := by
    intro x2 σ H locs ls hf hW hl
    delta jX7_openers_30 at hf
    refine lv_aload_n C.1.1 C.1.2.1 dX7_openers_30 rfl (lv_at hl 0 rfl) ?_
    refine lv_iload_n C.1.1 C.1.2.1 dX7_openers_31 rfl (lv_at hl 1 rfl) ?_
    obtain ⟨⟨r18, σ17⟩, hc16, hf⟩ := bd hf
    try dsimp only at hf
    refine cVi C hW (mX7_canLeft hk_a0 hc16) hk_a0 kvX7_canLeft w_1495 ⟨(Nat.le_of_ble_eq_true rfl), (Nat.le_of_ble_eq_true rfl)⟩ ⟨Nat.zero_le _, Nat.zero_le _⟩ rfl hl.1 (rest := []) rfl (Nat.le_of_ble_eq_true rfl) dX7_openers_32 (fun H locs hn19 hW => ?_)
    refine lv_if_eq (tgt := 48) C.1.1 C.1.2.1 dX7_openers_35 (by decide) (fun h9 => ?_) (fun h9 => ?_)
    · replace hf := (if_pos h9).symm.trans hf
      exact J48 _ _ _ _ _ hf hW (lv_sub hl [0, 1, 2] rfl)
    · replace hf := (if_neg h9).symm.trans hf
      refine lv_iload_n C.1.1 C.1.2.1 dX7_openers_38 rfl (lv_at hl 2 rfl) ?_
      refine lv_iconst (v := 1) C.1.1 C.1.2.1 dX7_openers_39 (by decide) ?_
      refine lv_aload_n C.1.1 C.1.2.1 dX7_openers_40 rfl (lv_at hl 0 rfl) ?_
      refine lv_iload_n C.1.1 C.1.2.1 dX7_openers_41 rfl (lv_at hl 1 rfl) ?_
      obtain ⟨⟨r34, σ33⟩, hc32, hf⟩ := bd hf
      try dsimp only at hf
      refine cVi C hW (mX7_leftOf hk_a0 hc32) hk_a0 kvX7_leftOf w_1499 ⟨(Nat.le_of_ble_eq_true rfl), (Nat.le_of_ble_eq_true rfl)⟩ ⟨Nat.zero_le _, Nat.zero_le _⟩ rfl hl.1 (rest := [.int _, .int _]) rfl (Nat.le_of_ble_eq_true rfl) dX7_openers_42 (fun H locs hn35 hW => ?_)
      refine lv_ishl C.1.1 C.1.2.1 dX7_openers_45 ?_
      refine lv_ior C.1.1 C.1.2.1 dX7_openers_46 ?_
      refine lv_istore_n (lv' := [(2, .int _), (0, .ref _), (1, .int _)]) C.1.1 C.1.2.1 dX7_openers_47 rfl hl (by decide) rfl (fun ls hl => ?_)
      exact J48 _ _ _ _ _ hf hW (lv_sub hl [1, 2, 0] rfl)
  refine lv_aload_n C.1.1 C.1.2.1 dX7_openers_0 rfl (lv_at hl 0 rfl) ?_
  refine lv_iload_n C.1.1 C.1.2.1 dX7_openers_1 rfl (lv_at hl 1 rfl) ?_
  obtain ⟨⟨r3, σ2⟩, hc1, hf⟩ := bd hf
  try dsimp only at hf
  refine cVi C hW (mX7_isHouse hk_a0 hc1) hk_a0 kvX7_isHouse w_1347 ⟨(Nat.le_of_ble_eq_true rfl), (Nat.le_of_ble_eq_true rfl)⟩ ⟨Nat.zero_le _, Nat.zero_le _⟩ rfl hl.1 (rest := []) rfl (Nat.le_of_ble_eq_true rfl) dX7_openers_2 (fun H locs hn4 hW => ?_)
  refine lv_if_ne (tgt := 10) C.1.1 C.1.2.1 dX7_openers_5 (by decide) (fun h9 => ?_) (fun h9 => ?_)
  · replace hf := (if_neg h9).symm.trans hf
    refine lv_aload_n C.1.1 C.1.2.1 dX7_openers_10 rfl (lv_at hl 0 rfl) ?_
    obtain ⟨σ7, hc6, hf⟩ := bd hf
    try dsimp only at hf
    refine cVv C hW (mX7_copies hk_a0 hc6) hk_a0 kvX7_copies w_1354 ⟨(Nat.le_of_ble_eq_true rfl), (Nat.le_of_ble_eq_true rfl)⟩ ⟨Nat.zero_le _, Nat.zero_le _⟩ rfl hl.1 (rest := []) rfl (Nat.le_of_ble_eq_true rfl) dX7_openers_11 (fun H locs hW => ?_)
    refine lv_iconst (v := 0) C.1.1 C.1.2.1 dX7_openers_14 (by decide) ?_
    refine lv_istore_n (lv' := [(2, .int _), (0, .ref _), (1, .int _)]) C.1.1 C.1.2.1 dX7_openers_15 rfl hl (by decide) rfl (fun ls hl => ?_)
    refine lv_aload_n C.1.1 C.1.2.1 dX7_openers_16 rfl (lv_at hl 1 rfl) ?_
    refine lv_iload_n C.1.1 C.1.2.1 dX7_openers_17 rfl (lv_at hl 2 rfl) ?_
    obtain ⟨⟨r13, σ12⟩, hc11, hf⟩ := bd hf
    try dsimp only at hf
    refine cVi C hW (mX7_canOwn hk_a0 hc11) hk_a0 kvX7_canOwn w_1483 ⟨(Nat.le_of_ble_eq_true rfl), (Nat.le_of_ble_eq_true rfl)⟩ ⟨Nat.zero_le _, Nat.zero_le _⟩ rfl hl.1 (rest := []) rfl (Nat.le_of_ble_eq_true rfl) dX7_openers_18 (fun H locs hn14 hW => ?_)
    refine lv_if_eq (tgt := 30) C.1.1 C.1.2.1 dX7_openers_21 (by decide) (fun h9 => ?_) (fun h9 => ?_)
    · replace hf := (if_pos h9).symm.trans hf
      exact J30 _ _ _ _ _ hf hW (lv_sub hl [1, 2, 0] rfl)
    · replace hf := (if_neg h9).symm.trans hf
      refine lv_iload_n C.1.1 C.1.2.1 dX7_openers_24 rfl (lv_at hl 0 rfl) ?_
      refine lv_iconst (v := 1) C.1.1 C.1.2.1 dX7_openers_25 (by decide) ?_
      refine lv_iload_n C.1.1 C.1.2.1 dX7_openers_26 rfl (lv_at hl 2 rfl) ?_
      refine lv_ishl C.1.1 C.1.2.1 dX7_openers_27 ?_
      refine lv_ior C.1.1 C.1.2.1 dX7_openers_28 ?_
      refine lv_istore_n (lv' := [(2, .int _), (0, .ref _), (1, .int _)]) C.1.1 C.1.2.1 dX7_openers_29 rfl hl (by decide) rfl (fun ls hl => ?_)
      exact J30 _ _ _ _ _ hf hW (lv_sub hl [1, 2, 0] rfl)
  · replace hf := (if_pos h9).symm.trans hf
    refine lv_iconst (v := (-1)) C.1.1 C.1.2.1 dX7_openers_8 (by decide) ?_
    exact ri hQ C hr hlk hW hf (rok_i _) dX7_openers_9
theorem kvX7_standsFor : KV 7 "RightKeysModel" yX7_standsFor cX7_standsFor 5 none 1 := ⟨⟨w_1537, w_101, w_116, w_1538⟩, ⟨rfl, by decide, by decide, by decide +kernel⟩, by decide, rfl⟩
noncomputable def bX7_standsFor_2 (a0 : Nat) (p1 : Int32) (x2 : Int32) (σ : Sg) : Option ((Int32 × Sg) ⊕ (Sg)) := if (8 : Int32) ≤ x2 then (some (Sum.inr σ)) else (if vin x2 8 then (let σ3 := wI σ (a0 + 34) ((x2).toNatClampNeg) (0 : Int32); (let x2_4 := x2 + (1 : Int32); some (Sum.inl (x2_4, σ3)))) else none)
noncomputable def bX7_standsFor_67 (a0 : Nat) (p1 : Int32) (x2 : Int32) (x3 : Int32) (x4 : Int32) (σ : Sg) : Option ((Int32 × Sg) ⊕ (Sg)) := if (8 : Int32) ≤ x4 then (some (Sum.inr σ)) else (if vin x4 8 then ((let σ24 := wI σ (a0 + 34) ((x4).toNatClampNeg) ((σ.1 (a0 + 34) ((x4).toNatClampNeg)) + ((x3 >>> (x4 &&& 31)) &&& (1 : Int32))); let x4_25 := x4 + (1 : Int32); some (Sum.inl (x4_25, σ24)))) else none)
noncomputable def jX7_standsFor_162 (a0 : Nat) (p1 : Int32) (x2 : Int32) (σ : Sg) : Option ((Int32 × Sg) ⊕ (Sg)) := (let x2_47 := x2 + (1 : Int32); some (Sum.inl (x2_47, σ)))
noncomputable def jX7_standsFor_135 (a0 : Nat) (p1 : Int32) (x2 : Int32) (x3 : Int32) (σ : Sg) : Option ((Int32 × Sg) ⊕ (Sg)) := (fX7_bits x3 σ).bind (fun q39 => let r37 := q39.1; let σ36 := q39.2; if (σ36.1 a0 60) < r37 then ((let σ40 := wI σ36 a0 59 x2; (fX7_bits x3 σ40).bind (fun q45 => let r43 := q45.1; let σ42 := q45.2; (let σ46 := wI σ42 a0 60 r43; jX7_standsFor_162 a0 p1 x2 σ46)))) else (jX7_standsFor_162 a0 p1 x2 σ36))
noncomputable def bX7_standsFor_49 (a0 : Nat) (p1 : Int32) (x2 : Int32) (σ : Sg) : Option ((Int32 × Sg) ⊕ (Sg)) := if p1 ≤ x2 then (some (Sum.inr σ)) else ((fX7_hourGoes a0 σ).bind (fun σ13 => (fX7_soBits a0 (2 : Int32) σ13).bind (fun q21 => let r19 := q21.1; let σ18 := q21.2; (lp (fun st => bX7_standsFor_67 a0 p1 x2 r19 st.1 st.2) ((0 : Int32), σ18)).bind (fun σ27 => (fX7_bits r19 σ27).bind (fun q32 => let r30 := q32.1; let σ29 := q32.2; (let σ33 := wI σ29 a0 56 ((σ27.1 a0 56) + r30); let σ34 := wI σ33 a0 58 ((σ33.1 a0 58) ||| r19); if r19 = 0 then (jX7_standsFor_135 a0 p1 x2 r19 σ34) else (if 0 ≤ (σ34.1 a0 57) then (jX7_standsFor_135 a0 p1 x2 r19 σ34) else ((let σ48 := wI σ34 a0 57 x2; jX7_standsFor_135 a0 p1 x2 r19 σ48)))))))))
noncomputable def fX7_standsFor (a0 : Nat) (p1 : Int32) (σ : Sg) : Option (Sg) := (lp (fun st => bX7_standsFor_2 a0 p1 st.1 st.2) ((0 : Int32), σ)).bind (fun σ6 => (let σ7 := wI σ6 a0 56 (0 : Int32); let σ8 := wI σ7 a0 57 (-2 : Int32); let σ9 := wI σ8 a0 58 (0 : Int32); let σ10 := wI σ9 a0 59 (0 : Int32); let σ11 := wI σ10 a0 60 (0 : Int32); (lp (fun st => bX7_standsFor_49 a0 p1 st.1 st.2) ((0 : Int32), σ11)).bind (fun σ50 => some σ50)))
set_option maxRecDepth 100000 in
set_option maxHeartbeats 4000000 in
theorem mX7_standsFor {l : Launch} {G : Gm} {a0 : Nat} {p1 : Int32} {σ : Sg} {σ' : Sg} (hk_a0 : gK G a0 = 8) (hf : fX7_standsFor a0 p1 σ = some σ') : Mv l G yX7_standsFor cX7_standsFor 5 7 161 [.ref (gB G + a0), .int p1] σ σ' := by
  refine of_W "RightKeysModel" rfl (by decide) (Nat.le_of_ble_eq_true rfl) ?_
  intro p e s m args below meth c Q hQ C hr hlk hW ls hl
  have h00 := hW.1
  have hl : lv_has ls 5 [(0, .ref (gB G + a0)), (1, .int p1)] := hl
  delta fX7_standsFor at hf
  have L2 : ∀ (n : Nat) (x2 : Int32) (σ : Sg) (H : Heap) (locs : List Loc) (ls : Array Slot) (out : (Sg)), iter (fun st => bX7_standsFor_2 a0 p1 st.1 st.2) n (x2, σ) = some out → Ws G σ s.heap H locs → lv_has ls 5 [(0, .ref (gB G + a0)), (1, .int p1), (2, .int x2)] → (∀ (σ : Sg) (H : Heap) (locs : List Loc) (ls : Array Slot), out = σ → Ws G σ s.heap H locs → lv_has ls 5 [(0, .ref (gB G + a0)), (1, .int p1)] → W p l e (rmOf 7 161) s m args below meth c H locs 0 0 Q (F0 m 21 ls [])) → W p l e (rmOf 7 161) s m args below meth c H locs 0 0 Q (F0 m 2 ls []) := by
    intro n
    induction n with
    | zero =>
      intro x2 σ H locs ls out hf
      exact (it_0 hf).elim
    | succ n ih =>
      intro x2 σ H locs ls out hf hW hl K2_21
      obtain ⟨x, hf, hx⟩ := it_s hf
      have hf : bX7_standsFor_2 a0 p1 x2 σ = some x := hf
      delta bX7_standsFor_2 at hf
      refine lv_iload_n C.1.1 C.1.2.1 dX7_standsFor_2 rfl (lv_at hl 2 rfl) ?_
      refine lv_bipush (v := 8) C.1.1 C.1.2.1 dX7_standsFor_3 (by decide) ?_
      refine lv_icmp_ge (tgt := 21) C.1.1 C.1.2.1 dX7_standsFor_5 (by decide) (fun h9 => ?_) (fun h9 => ?_)
      · replace hf := (if_pos h9).symm.trans hf
        cases hf
        cases hx
        exact K2_21 _ _ _ _ rfl hW (lv_sub hl [0, 1] rfl)
      · replace hf := (if_neg h9).symm.trans hf
        refine lv_aload_n C.1.1 C.1.2.1 dX7_standsFor_8 rfl (lv_at hl 0 rfl) ?_
        have hk1 := sh7_55 hW hk_a0
        refine gf7_55 C hW hk_a0 w_1085 dX7_standsFor_9 ?_
        refine lv_iload_n C.1.1 C.1.2.1 dX7_standsFor_12 rfl (lv_at hl 2 rfl) ?_
        refine lv_iconst (v := 0) C.1.1 C.1.2.1 dX7_standsFor_13 (by decide) ?_
        obtain ⟨hv2, hf⟩ := gd hf
        refine wsi C hW hk1 (vin_p hv2) dX7_standsFor_14 (fun H locs hW => ?_)
        refine lv_iinc (v := _) (lv' := [(2, .int _), (0, .ref _), (1, .int _)]) C.1.1 C.1.2.1 dX7_standsFor_15 hl (k := 2) rfl (ii (k := 1) (by decide)) (by decide) rfl (fun ls hl => ?_)
        refine lv_goto (tgt := 2) C.1.1 C.1.2.1 dX7_standsFor_18 (by decide) ?_
        cases hf
        exact ih _ _ _ _ _ _ hx hW (lv_sub hl [1, 2, 0] rfl) K2_21
  have L49 : ∀ (n : Nat) (x2 : Int32) (σ : Sg) (H : Heap) (locs : List Loc) (ls : Array Slot) (out : (Sg)), iter (fun st => bX7_standsFor_49 a0 p1 st.1 st.2) n (x2, σ) = some out → Ws G σ s.heap H locs → lv_has ls 5 [(0, .ref (gB G + a0)), (1, .int p1), (2, .int x2)] → (∀ (σ : Sg) (H : Heap) (locs : List Loc) (ls : Array Slot), out = σ → Ws G σ s.heap H locs → lv_has ls 5 [] → W p l e (rmOf 7 161) s m args below meth c H locs 0 0 Q (F0 m 168 ls [])) → W p l e (rmOf 7 161) s m args below meth c H locs 0 0 Q (F0 m 49 ls []) := by
    intro n
    induction n with
    | zero =>
      intro x2 σ H locs ls out hf
      exact (it_0 hf).elim
    | succ n ih =>
      intro x2 σ H locs ls out hf hW hl K49_168
      obtain ⟨x, hf, hx⟩ := it_s hf
      have hf : bX7_standsFor_49 a0 p1 x2 σ = some x := hf
      delta bX7_standsFor_49 at hf
      have L67 : ∀ (x2 : Int32) (x3 : Int32) (n : Nat) (x4 : Int32) (σ : Sg) (H : Heap) (locs : List Loc) (ls : Array Slot) (out : (Sg)), iter (fun st => bX7_standsFor_67 a0 p1 x2 x3 st.1 st.2) n (x4, σ) = some out → Ws G σ s.heap H locs → lv_has ls 5 [(0, .ref (gB G + a0)), (1, .int p1), (2, .int x2), (3, .int x3), (4, .int x4)] → (∀ (σ : Sg) (H : Heap) (locs : List Loc) (ls : Array Slot), out = σ → Ws G σ s.heap H locs → lv_has ls 5 [(0, .ref (gB G + a0)), (1, .int p1), (2, .int x2), (3, .int x3)] → W p l e (rmOf 7 161) s m args below meth c H locs 0 0 Q (F0 m 96 ls [])) → W p l e (rmOf 7 161) s m args below meth c H locs 0 0 Q (F0 m 67 ls []) := by
        intro x2 x3 n
        induction n with
        | zero =>
          intro x4 σ H locs ls out hf
          exact (it_0 hf).elim
        | succ n ih =>
          intro x4 σ H locs ls out hf hW hl K67_96
          obtain ⟨x, hf, hx⟩ := it_s hf
          have hf : bX7_standsFor_67 a0 p1 x2 x3 x4 σ = some x := hf
          delta bX7_standsFor_67 at hf
          refine lv_iload C.1.1 C.1.2.1 dX7_standsFor_67 (lv_at hl 4 rfl) ?_
          refine lv_bipush (v := 8) C.1.1 C.1.2.1 dX7_standsFor_69 (by decide) ?_
          refine lv_icmp_ge (tgt := 96) C.1.1 C.1.2.1 dX7_standsFor_71 (by decide) (fun h9 => ?_) (fun h9 => ?_)
          · replace hf := (if_pos h9).symm.trans hf
            cases hf
            cases hx
            exact K67_96 _ _ _ _ rfl hW (lv_sub hl [0, 1, 2, 3] rfl)
          · replace hf := (if_neg h9).symm.trans hf
            refine lv_aload_n C.1.1 C.1.2.1 dX7_standsFor_74 rfl (lv_at hl 0 rfl) ?_
            have hk22 := sh7_55 hW hk_a0
            refine gf7_55 C hW hk_a0 w_1085 dX7_standsFor_75 ?_
            refine lv_iload C.1.1 C.1.2.1 dX7_standsFor_78 (lv_at hl 4 rfl) ?_
            refine lv_dup2_11 C.1.1 C.1.2.1 dX7_standsFor_80 rfl rfl ?_
            obtain ⟨hv23, hf⟩ := gd hf
            refine wai C hW hk22 (vin_p hv23) dX7_standsFor_81 ?_
            refine lv_iload_n C.1.1 C.1.2.1 dX7_standsFor_82 rfl (lv_at hl 3 rfl) ?_
            refine lv_iload C.1.1 C.1.2.1 dX7_standsFor_83 (lv_at hl 4 rfl) ?_
            refine lv_ishr C.1.1 C.1.2.1 dX7_standsFor_85 ?_
            refine lv_iconst (v := 1) C.1.1 C.1.2.1 dX7_standsFor_86 (by decide) ?_
            refine lv_iand C.1.1 C.1.2.1 dX7_standsFor_87 ?_
            refine lv_iadd C.1.1 C.1.2.1 dX7_standsFor_88 ?_
            refine wsi C hW hk22 (vin_p hv23) dX7_standsFor_89 (fun H locs hW => ?_)
            refine lv_iinc (v := _) (lv' := [(4, .int _), (0, .ref _), (1, .int _), (2, .int _), (3, .int _)]) C.1.1 C.1.2.1 dX7_standsFor_90 hl (k := 4) rfl (ii (k := 1) (by decide)) (by decide) rfl (fun ls hl => ?_)
            refine lv_goto (tgt := 67) C.1.1 C.1.2.1 dX7_standsFor_93 (by decide) ?_
            cases hf
            exact ih _ _ _ _ _ _ hx hW (lv_sub hl [1, 2, 3, 4, 0] rfl) K67_96
      have J162 : ∀ (x2 : Int32) (σ : Sg) (H : Heap) (locs : List Loc) (ls : Array Slot), jX7_standsFor_162 a0 p1 x2 σ = some x → Ws G σ s.heap H locs → lv_has ls 5 [(0, .ref (gB G + a0)), (1, .int p1), (2, .int x2)] → W p l e (rmOf 7 161) s m args below meth c H locs 0 0 Q (F0 m 162 ls []) := by
        intro x2 σ H locs ls hf hW hl
        delta jX7_standsFor_162 at hf
        refine lv_iinc (v := _) (lv' := [(2, .int _), (0, .ref _), (1, .int _)]) C.1.1 C.1.2.1 dX7_standsFor_162 hl (k := 2) rfl (ii (k := 1) (by decide)) (by decide) rfl (fun ls hl => ?_)
        refine lv_goto (tgt := 49) C.1.1 C.1.2.1 dX7_standsFor_165 (by decide) ?_
        cases hf
        exact ih _ _ _ _ _ _ hx hW (lv_sub hl [1, 2, 0] rfl) K49_168
      have J135 : ∀ (x2 : Int32) (x3 : Int32) (σ : Sg) (H : Heap) (locs : List Loc) (ls : Array Slot), jX7_standsFor_135 a0 p1 x2 x3 σ = some x → Ws G σ s.heap H locs → lv_has ls 5 [(0, .ref (gB G + a0)), (1, .int p1), (2, .int x2), (3, .int x3)] → W p l e (rmOf 7 161) s m args below meth c H locs 0 0 Q (F0 m 135 ls []) := by
        intro x2 x3 σ H locs ls hf hW hl
        delta jX7_standsFor_135 at hf
        refine lv_iload_n C.1.1 C.1.2.1 dX7_standsFor_135 rfl (lv_at hl 3 rfl) ?_
        obtain ⟨⟨r37, σ36⟩, hc35, hf⟩ := bd hf
        try dsimp only at hf
        refine cSi C hW (mX7_bits hc35) ksX7_bits w_1370 ⟨(Nat.le_of_ble_eq_true rfl), (Nat.le_of_ble_eq_true rfl)⟩ ⟨Nat.zero_le _, Nat.zero_le _⟩ rfl hl.1 (rest := []) rfl (Nat.le_of_ble_eq_true rfl) dX7_standsFor_136 (fun H locs hn38 hW => ?_)
        refine lv_aload_n C.1.1 C.1.2.1 dX7_standsFor_139 rfl (lv_at hl 0 rfl) ?_
        refine gf7_60 C hW hk_a0 w_1090 dX7_standsFor_140 ?_
        refine lv_icmp_gt (tgt := 149) C.1.1 C.1.2.1 dX7_standsFor_143 (by decide) (fun h9 => ?_) (fun h9 => ?_)
        · replace hf := (if_pos h9).symm.trans hf
          refine lv_aload_n C.1.1 C.1.2.1 dX7_standsFor_149 rfl (lv_at hl 0 rfl) ?_
          refine lv_iload_n C.1.1 C.1.2.1 dX7_standsFor_150 rfl (lv_at hl 2 rfl) ?_
          refine pf7_59 C hW hk_a0 w_1089 dX7_standsFor_151 (fun H locs hW => ?_)
          refine lv_aload_n C.1.1 C.1.2.1 dX7_standsFor_154 rfl (lv_at hl 0 rfl) ?_
          refine lv_iload_n C.1.1 C.1.2.1 dX7_standsFor_155 rfl (lv_at hl 3 rfl) ?_
          obtain ⟨⟨r43, σ42⟩, hc41, hf⟩ := bd hf
          try dsimp only at hf
          refine cSi C hW (mX7_bits hc41) ksX7_bits w_1370 ⟨(Nat.le_of_ble_eq_true rfl), (Nat.le_of_ble_eq_true rfl)⟩ ⟨Nat.zero_le _, Nat.zero_le _⟩ rfl hl.1 (rest := [.ref _]) rfl (Nat.le_of_ble_eq_true rfl) dX7_standsFor_156 (fun H locs hn44 hW => ?_)
          refine pf7_60 C hW hk_a0 w_1090 dX7_standsFor_159 (fun H locs hW => ?_)
          exact J162 _ _ _ _ _ hf hW (lv_sub hl [0, 1, 2] rfl)
        · replace hf := (if_neg h9).symm.trans hf
          refine lv_goto (tgt := 162) C.1.1 C.1.2.1 dX7_standsFor_146 (by decide) ?_
          exact J162 _ _ _ _ _ hf hW (lv_sub hl [0, 1, 2] rfl)
      refine lv_iload_n C.1.1 C.1.2.1 dX7_standsFor_49 rfl (lv_at hl 2 rfl) ?_
      refine lv_iload_n C.1.1 C.1.2.1 dX7_standsFor_50 rfl (lv_at hl 1 rfl) ?_
      refine lv_icmp_ge (tgt := 168) C.1.1 C.1.2.1 dX7_standsFor_51 (by decide) (fun h9 => ?_) (fun h9 => ?_)
      · replace hf := (if_pos h9).symm.trans hf
        cases hf
        cases hx
        exact K49_168 _ _ _ _ rfl hW (lv_sub hl [] rfl)
      · replace hf := (if_neg h9).symm.trans hf
        refine lv_aload_n C.1.1 C.1.2.1 dX7_standsFor_54 rfl (lv_at hl 0 rfl) ?_
        obtain ⟨σ13, hc12, hf⟩ := bd hf
        try dsimp only at hf
        refine cVv C hW (mX7_hourGoes hk_a0 hc12) hk_a0 kvX7_hourGoes w_1439 ⟨(Nat.le_of_ble_eq_true rfl), (Nat.le_of_ble_eq_true rfl)⟩ ⟨Nat.zero_le _, Nat.zero_le _⟩ rfl hl.1 (rest := []) rfl (Nat.le_of_ble_eq_true rfl) dX7_standsFor_55 (fun H locs hW => ?_)
        refine lv_aload_n C.1.1 C.1.2.1 dX7_standsFor_58 rfl (lv_at hl 0 rfl) ?_
        refine lv_iconst (v := 2) C.1.1 C.1.2.1 dX7_standsFor_59 (by decide) ?_
        obtain ⟨⟨r19, σ18⟩, hc17, hf⟩ := bd hf
        try dsimp only at hf
        refine cVi C hW (mX7_soBits hk_a0 hc17) hk_a0 kvX7_soBits w_1366 ⟨(Nat.le_of_ble_eq_true rfl), (Nat.le_of_ble_eq_true rfl)⟩ ⟨Nat.zero_le _, Nat.zero_le _⟩ rfl hl.1 (rest := []) rfl (Nat.le_of_ble_eq_true rfl) dX7_standsFor_60 (fun H locs hn20 hW => ?_)
        refine lv_istore_n (lv' := [(3, .int _), (0, .ref _), (1, .int _), (2, .int _)]) C.1.1 C.1.2.1 dX7_standsFor_63 rfl hl (by decide) rfl (fun ls hl => ?_)
        refine lv_iconst (v := 0) C.1.1 C.1.2.1 dX7_standsFor_64 (by decide) ?_
        refine lv_istore (lv' := [(4, .int _), (3, .int _), (0, .ref _), (1, .int _), (2, .int _)]) C.1.1 C.1.2.1 dX7_standsFor_65 hl (by decide) rfl (fun ls hl => ?_)
        obtain ⟨o26, ho, hf⟩ := bd hf
        obtain ⟨n, ho⟩ := lp_it ho
        refine L67 _ _ n _ _ _ _ _ o26 ho hW (lv_sub hl [2, 3, 4, 1, 0] rfl) ?_
        intro  σ27 H locs ls e9 hW hl
        subst e9
        try dsimp only at hf
        refine lv_aload_n C.1.1 C.1.2.1 dX7_standsFor_96 rfl (lv_at hl 0 rfl) ?_
        refine lv_dup C.1.1 C.1.2.1 dX7_standsFor_97 rfl ?_
        refine gf7_56 C hW hk_a0 w_1086 dX7_standsFor_98 ?_
        refine lv_iload_n C.1.1 C.1.2.1 dX7_standsFor_101 rfl (lv_at hl 3 rfl) ?_
        obtain ⟨⟨r30, σ29⟩, hc28, hf⟩ := bd hf
        try dsimp only at hf
        refine cSi C hW (mX7_bits hc28) ksX7_bits w_1370 ⟨(Nat.le_of_ble_eq_true rfl), (Nat.le_of_ble_eq_true rfl)⟩ ⟨Nat.zero_le _, Nat.zero_le _⟩ rfl hl.1 (rest := [.int _, .ref _]) rfl (Nat.le_of_ble_eq_true rfl) dX7_standsFor_102 (fun H locs hn31 hW => ?_)
        refine lv_iadd C.1.1 C.1.2.1 dX7_standsFor_105 ?_
        refine pf7_56 C hW hk_a0 w_1086 dX7_standsFor_106 (fun H locs hW => ?_)
        refine lv_aload_n C.1.1 C.1.2.1 dX7_standsFor_109 rfl (lv_at hl 0 rfl) ?_
        refine lv_dup C.1.1 C.1.2.1 dX7_standsFor_110 rfl ?_
        refine gf7_58 C hW hk_a0 w_1088 dX7_standsFor_111 ?_
        refine lv_iload_n C.1.1 C.1.2.1 dX7_standsFor_114 rfl (lv_at hl 3 rfl) ?_
        refine lv_ior C.1.1 C.1.2.1 dX7_standsFor_115 ?_
        refine pf7_58 C hW hk_a0 w_1088 dX7_standsFor_116 (fun H locs hW => ?_)
        refine lv_iload_n C.1.1 C.1.2.1 dX7_standsFor_119 rfl (lv_at hl 3 rfl) ?_
        refine lv_if_eq (tgt := 135) C.1.1 C.1.2.1 dX7_standsFor_120 (by decide) (fun h9 => ?_) (fun h9 => ?_)
        · replace hf := (if_pos h9).symm.trans hf
          exact J135 _ _ _ _ _ _ hf hW (lv_sub hl [0, 1, 2, 3] rfl)
        · replace hf := (if_neg h9).symm.trans hf
          refine lv_aload_n C.1.1 C.1.2.1 dX7_standsFor_123 rfl (lv_at hl 0 rfl) ?_
          refine gf7_57 C hW hk_a0 w_1087 dX7_standsFor_124 ?_
          refine lv_if_ge (tgt := 135) C.1.1 C.1.2.1 dX7_standsFor_127 (by decide) (fun h9 => ?_) (fun h9 => ?_)
          · replace hf := (if_pos h9).symm.trans hf
            exact J135 _ _ _ _ _ _ hf hW (lv_sub hl [0, 1, 2, 3] rfl)
          · replace hf := (if_neg h9).symm.trans hf
            refine lv_aload_n C.1.1 C.1.2.1 dX7_standsFor_130 rfl (lv_at hl 0 rfl) ?_
            refine lv_iload_n C.1.1 C.1.2.1 dX7_standsFor_131 rfl (lv_at hl 2 rfl) ?_
            refine pf7_57 C hW hk_a0 w_1087 dX7_standsFor_132 (fun H locs hW => ?_)
            exact J135 _ _ _ _ _ _ hf hW (lv_sub hl [0, 1, 2, 3] rfl)
  refine lv_iconst (v := 0) C.1.1 C.1.2.1 dX7_standsFor_0 (by decide) ?_
  refine lv_istore_n (lv' := [(2, .int _), (0, .ref _), (1, .int _)]) C.1.1 C.1.2.1 dX7_standsFor_1 rfl hl (by decide) rfl (fun ls hl => ?_)
  obtain ⟨o5, ho, hf⟩ := bd hf
  obtain ⟨n, ho⟩ := lp_it ho
  refine L2 n _ _ _ _ _ o5 ho hW (lv_sub hl [1, 2, 0] rfl) ?_
  intro  σ6 H locs ls e9 hW hl
  subst e9
  try dsimp only at hf
  refine lv_aload_n C.1.1 C.1.2.1 dX7_standsFor_21 rfl (lv_at hl 0 rfl) ?_
  refine lv_iconst (v := 0) C.1.1 C.1.2.1 dX7_standsFor_22 (by decide) ?_
  refine pf7_56 C hW hk_a0 w_1086 dX7_standsFor_23 (fun H locs hW => ?_)
  refine lv_aload_n C.1.1 C.1.2.1 dX7_standsFor_26 rfl (lv_at hl 0 rfl) ?_
  refine lv_bipush (v := (-2)) C.1.1 C.1.2.1 dX7_standsFor_27 (by decide) ?_
  refine pf7_57 C hW hk_a0 w_1087 dX7_standsFor_29 (fun H locs hW => ?_)
  refine lv_aload_n C.1.1 C.1.2.1 dX7_standsFor_32 rfl (lv_at hl 0 rfl) ?_
  refine lv_iconst (v := 0) C.1.1 C.1.2.1 dX7_standsFor_33 (by decide) ?_
  refine pf7_58 C hW hk_a0 w_1088 dX7_standsFor_34 (fun H locs hW => ?_)
  refine lv_aload_n C.1.1 C.1.2.1 dX7_standsFor_37 rfl (lv_at hl 0 rfl) ?_
  refine lv_iconst (v := 0) C.1.1 C.1.2.1 dX7_standsFor_38 (by decide) ?_
  refine pf7_59 C hW hk_a0 w_1089 dX7_standsFor_39 (fun H locs hW => ?_)
  refine lv_aload_n C.1.1 C.1.2.1 dX7_standsFor_42 rfl (lv_at hl 0 rfl) ?_
  refine lv_iconst (v := 0) C.1.1 C.1.2.1 dX7_standsFor_43 (by decide) ?_
  refine pf7_60 C hW hk_a0 w_1090 dX7_standsFor_44 (fun H locs hW => ?_)
  refine lv_iconst (v := 0) C.1.1 C.1.2.1 dX7_standsFor_47 (by decide) ?_
  refine lv_istore_n (lv' := [(2, .int _), (0, .ref _), (1, .int _)]) C.1.1 C.1.2.1 dX7_standsFor_48 rfl hl (by decide) rfl (fun ls hl => ?_)
  obtain ⟨o49, ho, hf⟩ := bd hf
  obtain ⟨n, ho⟩ := lp_it ho
  refine L49 n _ _ _ _ _ o49 ho hW (lv_sub hl [1, 2, 0] rfl) ?_
  intro  σ50 H locs ls e9 hW hl
  subst e9
  try dsimp only at hf
  exact rv hQ C hr hlk hW hf dX7_standsFor_168
theorem kvX7_stand : KV 7 "RightKeysModel" yX7_stand cX7_stand 3 (some .int) 2 := ⟨⟨w_1525, w_1526, w_116, w_1527⟩, ⟨rfl, by decide, by decide, by decide +kernel⟩, by decide, rfl⟩
noncomputable def jX7_stand_13 (a0 : Nat) (p1 : Int32) (p2 : Int32) (σ : Sg) : Option (Int32 × Sg) := (fX7_isSome p2 σ).bind (fun q5 => let r3 := q5.1; let σ2 := q5.2; if r3 = 0 then (some ((-1 : Int32), σ2)) else ((fX7_copiesStill a0 σ2).bind (fun σ7 => (fX7_standsFor a0 p2 σ7).bind (fun σ12 => if p1 = (-1 : Int32) then (some ((σ12.1 a0 56), σ12)) else (if vin p1 8 then (some ((σ12.1 (a0 + 34) ((p1).toNatClampNeg)), σ12)) else none)))))
noncomputable def fX7_stand (a0 : Nat) (p1 : Int32) (p2 : Int32) (σ : Sg) : Option (Int32 × Sg) := if p1 = (-1 : Int32) then (jX7_stand_13 a0 p1 p2 σ) else ((fX7_isHouse a0 p1 σ).bind (fun q22 => let r20 := q22.1; let σ19 := q22.2; if r20 = 0 then (some ((-1 : Int32), σ19)) else (jX7_stand_13 a0 p1 p2 σ19)))
set_option maxRecDepth 100000 in
set_option maxHeartbeats 4000000 in
theorem mX7_stand {l : Launch} {G : Gm} {a0 : Nat} {p1 : Int32} {p2 : Int32} {σ : Sg} {r : Int32} {σ' : Sg} (hk_a0 : gK G a0 = 8) (hf : fX7_stand a0 p1 p2 σ = some (r, σ')) : Mi l G yX7_stand cX7_stand 3 .int 8 185 [.ref (gB G + a0), .int p1, .int p2] σ r σ' := by
  refine of_W "RightKeysModel" rfl (by decide) (Nat.le_of_ble_eq_true rfl) ?_
  intro p e s m args below meth c Q hQ C hr hlk hW ls hl
  have h00 := hW.1
  have hl : lv_has ls 3 [(0, .ref (gB G + a0)), (1, .int p1), (2, .int p2)] := hl
  delta fX7_stand at hf
  have J13 : ∀ (σ : Sg) (H : Heap) (locs : List Loc) (ls : Array Slot), jX7_stand_13 a0 p1 p2 σ = some (r, σ') → Ws G σ s.heap H locs → lv_has ls 3 [(0, .ref (gB G + a0)), (1, .int p1), (2, .int p2)] → W p l e (rmOf 8 185) s m args below meth c H locs 0 0 Q (F0 m 13 ls []) := by
    intro σ H locs ls hf hW hl
    delta jX7_stand_13 at hf
    refine lv_iload_n C.1.1 C.1.2.1 dX7_stand_13 rfl (lv_at hl 2 rfl) ?_
    obtain ⟨⟨r3, σ2⟩, hc1, hf⟩ := bd hf
    try dsimp only at hf
    refine cSi C hW (mX7_isSome hc1) ksX7_isSome w_1528 ⟨(Nat.le_of_ble_eq_true rfl), (Nat.le_of_ble_eq_true rfl)⟩ ⟨Nat.zero_le _, Nat.zero_le _⟩ rfl hl.1 (rest := []) rfl (Nat.le_of_ble_eq_true rfl) dX7_stand_14 (fun H locs hn4 hW => ?_)
    refine lv_if_ne (tgt := 22) C.1.1 C.1.2.1 dX7_stand_17 (by decide) (fun h9 => ?_) (fun h9 => ?_)
    · replace hf := (if_neg h9).symm.trans hf
      refine lv_aload_n C.1.1 C.1.2.1 dX7_stand_22 rfl (lv_at hl 0 rfl) ?_
      obtain ⟨σ7, hc6, hf⟩ := bd hf
      try dsimp only at hf
      refine cVv C hW (mX7_copiesStill hk_a0 hc6) hk_a0 kvX7_copiesStill w_1531 ⟨(Nat.le_of_ble_eq_true rfl), (Nat.le_of_ble_eq_true rfl)⟩ ⟨Nat.zero_le _, Nat.zero_le _⟩ rfl hl.1 (rest := []) rfl (Nat.le_of_ble_eq_true rfl) dX7_stand_23 (fun H locs hW => ?_)
      refine lv_aload_n C.1.1 C.1.2.1 dX7_stand_26 rfl (lv_at hl 0 rfl) ?_
      refine lv_iload_n C.1.1 C.1.2.1 dX7_stand_27 rfl (lv_at hl 2 rfl) ?_
      obtain ⟨σ12, hc11, hf⟩ := bd hf
      try dsimp only at hf
      refine cVv C hW (mX7_standsFor hk_a0 hc11) hk_a0 kvX7_standsFor w_1535 ⟨(Nat.le_of_ble_eq_true rfl), (Nat.le_of_ble_eq_true rfl)⟩ ⟨Nat.zero_le _, Nat.zero_le _⟩ rfl hl.1 (rest := []) rfl (Nat.le_of_ble_eq_true rfl) dX7_stand_28 (fun H locs hW => ?_)
      refine lv_iload_n C.1.1 C.1.2.1 dX7_stand_31 rfl (lv_at hl 1 rfl) ?_
      refine lv_iconst (v := (-1)) C.1.1 C.1.2.1 dX7_stand_32 (by decide) ?_
      refine lv_icmp_ne (tgt := 43) C.1.1 C.1.2.1 dX7_stand_33 (by decide) (fun h9 => ?_) (fun h9 => ?_)
      · replace hf := (if_neg h9).symm.trans hf
        refine lv_aload_n C.1.1 C.1.2.1 dX7_stand_43 rfl (lv_at hl 0 rfl) ?_
        have hk16 := sh7_55 hW hk_a0
        refine gf7_55 C hW hk_a0 w_1085 dX7_stand_44 ?_
        refine lv_iload_n C.1.1 C.1.2.1 dX7_stand_47 rfl (lv_at hl 1 rfl) ?_
        obtain ⟨hv17, hf⟩ := gd hf
        refine wai C hW hk16 (vin_p hv17) dX7_stand_48 ?_
        exact ri hQ C hr hlk hW hf (rok_i _) dX7_stand_49
      · replace hf := (if_pos h9).symm.trans hf
        refine lv_aload_n C.1.1 C.1.2.1 dX7_stand_36 rfl (lv_at hl 0 rfl) ?_
        refine gf7_56 C hW hk_a0 w_1086 dX7_stand_37 ?_
        refine lv_goto (tgt := 49) C.1.1 C.1.2.1 dX7_stand_40 (by decide) ?_
        exact ri hQ C hr hlk hW hf (rok_i _) dX7_stand_49
    · replace hf := (if_pos h9).symm.trans hf
      refine lv_iconst (v := (-1)) C.1.1 C.1.2.1 dX7_stand_20 (by decide) ?_
      exact ri hQ C hr hlk hW hf (rok_i _) dX7_stand_21
  refine lv_iload_n C.1.1 C.1.2.1 dX7_stand_0 rfl (lv_at hl 1 rfl) ?_
  refine lv_iconst (v := (-1)) C.1.1 C.1.2.1 dX7_stand_1 (by decide) ?_
  refine lv_icmp_eq (tgt := 13) C.1.1 C.1.2.1 dX7_stand_2 (by decide) (fun h9 => ?_) (fun h9 => ?_)
  · replace hf := (if_pos h9).symm.trans hf
    exact J13 _ _ _ _ hf hW (lv_sub hl [0, 1, 2] rfl)
  · replace hf := (if_neg h9).symm.trans hf
    refine lv_aload_n C.1.1 C.1.2.1 dX7_stand_5 rfl (lv_at hl 0 rfl) ?_
    refine lv_iload_n C.1.1 C.1.2.1 dX7_stand_6 rfl (lv_at hl 1 rfl) ?_
    obtain ⟨⟨r20, σ19⟩, hc18, hf⟩ := bd hf
    try dsimp only at hf
    refine cVi C hW (mX7_isHouse hk_a0 hc18) hk_a0 kvX7_isHouse w_1347 ⟨(Nat.le_of_ble_eq_true rfl), (Nat.le_of_ble_eq_true rfl)⟩ ⟨Nat.zero_le _, Nat.zero_le _⟩ rfl hl.1 (rest := []) rfl (Nat.le_of_ble_eq_true rfl) dX7_stand_7 (fun H locs hn21 hW => ?_)
    refine lv_if_eq (tgt := 20) C.1.1 C.1.2.1 dX7_stand_10 (by decide) (fun h9 => ?_) (fun h9 => ?_)
    · replace hf := (if_pos h9).symm.trans hf
      refine lv_iconst (v := (-1)) C.1.1 C.1.2.1 dX7_stand_20 (by decide) ?_
      exact ri hQ C hr hlk hW hf (rok_i _) dX7_stand_21
    · replace hf := (if_neg h9).symm.trans hf
      exact J13 _ _ _ _ hf hW (lv_sub hl [0, 1, 2] rfl)
theorem kvX7_firstStand : KV 7 "RightKeysModel" yX7_firstStand cX7_firstStand 2 (some .int) 1 := ⟨⟨w_1540, w_1541, w_116, w_1542⟩, ⟨rfl, by decide, by decide, by decide +kernel⟩, by decide, rfl⟩
noncomputable def fX7_firstStand (a0 : Nat) (p1 : Int32) (σ : Sg) : Option (Int32 × Sg) := (fX7_isSome p1 σ).bind (fun q5 => let r3 := q5.1; let σ2 := q5.2; if r3 = 0 then (some ((-1 : Int32), σ2)) else ((fX7_copiesStill a0 σ2).bind (fun σ7 => (fX7_standsFor a0 p1 σ7).bind (fun σ12 => some ((σ12.1 a0 57), σ12)))))
set_option maxRecDepth 100000 in
set_option maxHeartbeats 4000000 in
theorem mX7_firstStand {l : Launch} {G : Gm} {a0 : Nat} {p1 : Int32} {σ : Sg} {r : Int32} {σ' : Sg} (hk_a0 : gK G a0 = 8) (hf : fX7_firstStand a0 p1 σ = some (r, σ')) : Mi l G yX7_firstStand cX7_firstStand 2 .int 8 185 [.ref (gB G + a0), .int p1] σ r σ' := by
  refine of_W "RightKeysModel" rfl (by decide) (Nat.le_of_ble_eq_true rfl) ?_
  intro p e s m args below meth c Q hQ C hr hlk hW ls hl
  have h00 := hW.1
  have hl : lv_has ls 2 [(0, .ref (gB G + a0)), (1, .int p1)] := hl
  delta fX7_firstStand at hf
  refine lv_iload_n C.1.1 C.1.2.1 dX7_firstStand_0 rfl (lv_at hl 1 rfl) ?_
  obtain ⟨⟨r3, σ2⟩, hc1, hf⟩ := bd hf
  try dsimp only at hf
  refine cSi C hW (mX7_isSome hc1) ksX7_isSome w_1528 ⟨(Nat.le_of_ble_eq_true rfl), (Nat.le_of_ble_eq_true rfl)⟩ ⟨Nat.zero_le _, Nat.zero_le _⟩ rfl hl.1 (rest := []) rfl (Nat.le_of_ble_eq_true rfl) dX7_firstStand_1 (fun H locs hn4 hW => ?_)
  refine lv_if_ne (tgt := 9) C.1.1 C.1.2.1 dX7_firstStand_4 (by decide) (fun h9 => ?_) (fun h9 => ?_)
  · replace hf := (if_neg h9).symm.trans hf
    refine lv_aload_n C.1.1 C.1.2.1 dX7_firstStand_9 rfl (lv_at hl 0 rfl) ?_
    obtain ⟨σ7, hc6, hf⟩ := bd hf
    try dsimp only at hf
    refine cVv C hW (mX7_copiesStill hk_a0 hc6) hk_a0 kvX7_copiesStill w_1531 ⟨(Nat.le_of_ble_eq_true rfl), (Nat.le_of_ble_eq_true rfl)⟩ ⟨Nat.zero_le _, Nat.zero_le _⟩ rfl hl.1 (rest := []) rfl (Nat.le_of_ble_eq_true rfl) dX7_firstStand_10 (fun H locs hW => ?_)
    refine lv_aload_n C.1.1 C.1.2.1 dX7_firstStand_13 rfl (lv_at hl 0 rfl) ?_
    refine lv_iload_n C.1.1 C.1.2.1 dX7_firstStand_14 rfl (lv_at hl 1 rfl) ?_
    obtain ⟨σ12, hc11, hf⟩ := bd hf
    try dsimp only at hf
    refine cVv C hW (mX7_standsFor hk_a0 hc11) hk_a0 kvX7_standsFor w_1535 ⟨(Nat.le_of_ble_eq_true rfl), (Nat.le_of_ble_eq_true rfl)⟩ ⟨Nat.zero_le _, Nat.zero_le _⟩ rfl hl.1 (rest := []) rfl (Nat.le_of_ble_eq_true rfl) dX7_firstStand_15 (fun H locs hW => ?_)
    refine lv_aload_n C.1.1 C.1.2.1 dX7_firstStand_18 rfl (lv_at hl 0 rfl) ?_
    refine gf7_57 C hW hk_a0 w_1087 dX7_firstStand_19 ?_
    exact ri hQ C hr hlk hW hf (rok_i _) dX7_firstStand_22
  · replace hf := (if_pos h9).symm.trans hf
    refine lv_iconst (v := (-1)) C.1.1 C.1.2.1 dX7_firstStand_7 (by decide) ?_
    exact ri hQ C hr hlk hW hf (rok_i _) dX7_firstStand_8
theorem kvX7_keptBits : KV 7 "RightKeysModel" yX7_keptBits cX7_keptBits 3 (some .int) 0 := ⟨⟨w_1549, w_102, w_116, w_1550⟩, ⟨rfl, by decide, by decide, by decide +kernel⟩, by decide, rfl⟩
noncomputable def bX7_keptBits_4 (a0 : Nat) (x1 : Int32) (x2 : Int32) (σ : Sg) : Option ((Int32 × Int32 × Sg) ⊕ (Int32 × Sg)) := if vin (σ.1 a0 18) 2 then (if (σ.1 (a0 + 9) (((σ.1 a0 18)).toNatClampNeg)) ≤ x2 then (some (Sum.inr (x1, σ))) else (if vin ((32 : Int32) + x2) 88 then ((let x1_5 := (x1 ||| ((σ.1 (a0 + 30) ((((32 : Int32) + x2)).toNatClampNeg)) <<< (x2 &&& 31))); let x2_6 := x2 + (1 : Int32); some (Sum.inl (x1_5, x2_6, σ)))) else none)) else none
noncomputable def fX7_keptBits (a0 : Nat) (σ : Sg) : Option (Int32 × Sg) := (lp (fun st => bX7_keptBits_4 a0 st.1 st.2.1 st.2.2) ((0 : Int32), (0 : Int32), σ)).bind (fun q10 => let y9 := q10.1; let σ8 := q10.2;  some (y9, σ8))
set_option maxRecDepth 100000 in
set_option maxHeartbeats 4000000 in
theorem mX7_keptBits {l : Launch} {G : Gm} {a0 : Nat} {σ : Sg} {r : Int32} {σ' : Sg} (hk_a0 : gK G a0 = 8) (hf : fX7_keptBits a0 σ = some (r, σ')) : Mi l G yX7_keptBits cX7_keptBits 3 .int 0 0 [.ref (gB G + a0)] σ r σ' := by
  refine of_W "RightKeysModel" rfl (by decide) (Nat.le_of_ble_eq_true rfl) ?_
  intro p e s m args below meth c Q hQ C hr hlk hW ls hl
  have h00 := hW.1
  have hl : lv_has ls 3 [(0, .ref (gB G + a0))] := hl
  delta fX7_keptBits at hf
  have L4 : ∀ (n : Nat) (x1 : Int32) (x2 : Int32) (σ : Sg) (H : Heap) (locs : List Loc) (ls : Array Slot) (out : (Int32 × Sg)), iter (fun st => bX7_keptBits_4 a0 st.1 st.2.1 st.2.2) n (x1, x2, σ) = some out → Ws G σ s.heap H locs → lv_has ls 3 [(0, .ref (gB G + a0)), (1, .int x1), (2, .int x2)] → (∀ (y1 : Int32) (σ : Sg) (H : Heap) (locs : List Loc) (ls : Array Slot), out = (y1, σ) → Ws G σ s.heap H locs → lv_has ls 3 [(1, .int y1)] → W p l e (rmOf 0 0) s m args below meth c H locs 0 0 Q (F0 m 37 ls [])) → W p l e (rmOf 0 0) s m args below meth c H locs 0 0 Q (F0 m 4 ls []) := by
    intro n
    induction n with
    | zero =>
      intro x1 x2 σ H locs ls out hf
      exact (it_0 hf).elim
    | succ n ih =>
      intro x1 x2 σ H locs ls out hf hW hl K4_37
      obtain ⟨x, hf, hx⟩ := it_s hf
      have hf : bX7_keptBits_4 a0 x1 x2 σ = some x := hf
      delta bX7_keptBits_4 at hf
      refine lv_iload_n C.1.1 C.1.2.1 dX7_keptBits_4 rfl (lv_at hl 2 rfl) ?_
      refine lv_aload_n C.1.1 C.1.2.1 dX7_keptBits_5 rfl (lv_at hl 0 rfl) ?_
      have hk1 := sh7_22 hW hk_a0
      refine gf7_22 C hW hk_a0 w_1052 dX7_keptBits_6 ?_
      refine lv_aload_n C.1.1 C.1.2.1 dX7_keptBits_9 rfl (lv_at hl 0 rfl) ?_
      refine gf7_18 C hW hk_a0 w_1048 dX7_keptBits_10 ?_
      obtain ⟨hv2, hf⟩ := gd hf
      refine wai C hW hk1 (vin_p hv2) dX7_keptBits_13 ?_
      refine lv_icmp_ge (tgt := 37) C.1.1 C.1.2.1 dX7_keptBits_14 (by decide) (fun h9 => ?_) (fun h9 => ?_)
      · replace hf := (if_pos h9).symm.trans hf
        cases hf
        cases hx
        exact K4_37 _ _ _ _ _ rfl hW (lv_sub hl [1] rfl)
      · replace hf := (if_neg h9).symm.trans hf
        refine lv_iload_n C.1.1 C.1.2.1 dX7_keptBits_17 rfl (lv_at hl 1 rfl) ?_
        refine lv_aload_n C.1.1 C.1.2.1 dX7_keptBits_18 rfl (lv_at hl 0 rfl) ?_
        have hk3 := sh7_47 hW hk_a0
        refine gf7_47 C hW hk_a0 w_1077 dX7_keptBits_19 ?_
        refine lv_bipush (v := 32) C.1.1 C.1.2.1 dX7_keptBits_22 (by decide) ?_
        refine lv_iload_n C.1.1 C.1.2.1 dX7_keptBits_24 rfl (lv_at hl 2 rfl) ?_
        refine lv_iadd C.1.1 C.1.2.1 dX7_keptBits_25 ?_
        obtain ⟨hv4, hf⟩ := gd hf
        refine wai C hW hk3 (vin_p hv4) dX7_keptBits_26 ?_
        refine lv_iload_n C.1.1 C.1.2.1 dX7_keptBits_27 rfl (lv_at hl 2 rfl) ?_
        refine lv_ishl C.1.1 C.1.2.1 dX7_keptBits_28 ?_
        refine lv_ior C.1.1 C.1.2.1 dX7_keptBits_29 ?_
        refine lv_istore_n (lv' := [(1, .int _), (0, .ref _), (2, .int _)]) C.1.1 C.1.2.1 dX7_keptBits_30 rfl hl (by decide) rfl (fun ls hl => ?_)
        refine lv_iinc (v := _) (lv' := [(2, .int _), (1, .int _), (0, .ref _)]) C.1.1 C.1.2.1 dX7_keptBits_31 hl (k := 2) rfl (ii (k := 1) (by decide)) (by decide) rfl (fun ls hl => ?_)
        refine lv_goto (tgt := 4) C.1.1 C.1.2.1 dX7_keptBits_34 (by decide) ?_
        cases hf
        exact ih _ _ _ _ _ _ _ hx hW (lv_sub hl [2, 1, 0] rfl) K4_37
  refine lv_iconst (v := 0) C.1.1 C.1.2.1 dX7_keptBits_0 (by decide) ?_
  refine lv_istore_n (lv' := [(1, .int _), (0, .ref _)]) C.1.1 C.1.2.1 dX7_keptBits_1 rfl hl (by decide) rfl (fun ls hl => ?_)
  refine lv_iconst (v := 0) C.1.1 C.1.2.1 dX7_keptBits_2 (by decide) ?_
  refine lv_istore_n (lv' := [(2, .int _), (1, .int _), (0, .ref _)]) C.1.1 C.1.2.1 dX7_keptBits_3 rfl hl (by decide) rfl (fun ls hl => ?_)
  obtain ⟨o7, ho, hf⟩ := bd hf
  obtain ⟨n, ho⟩ := lp_it ho
  refine L4 n _ _ _ _ _ _ o7 ho hW (lv_sub hl [2, 1, 0] rfl) ?_
  intro y9 σ8 H locs ls e9 hW hl
  subst e9
  try dsimp only at hf
  refine lv_iload_n C.1.1 C.1.2.1 dX7_keptBits_37 rfl (lv_at hl 0 rfl) ?_
  exact ri hQ C hr hlk hW hf (rok_i _) dX7_keptBits_38
theorem kvX7_isEnough : KV 7 "RightKeysModel" yX7_isEnough cX7_isEnough 3 (some .boolean) 1 := ⟨⟨w_1553, w_103, w_116, w_1554⟩, ⟨rfl, by decide, by decide, by decide +kernel⟩, by decide, rfl⟩
noncomputable def jX7_isEnough_38 (a0 : Nat) (p1 : Int32) (x2 : Int32) (σ : Sg) : Option ((Int32 × Sg) ⊕ (Sg)) := (let x2_8 := x2 + (1 : Int32); some (Sum.inl (x2_8, σ)))
noncomputable def bX7_isEnough_6 (a0 : Nat) (p1 : Int32) (x2 : Int32) (σ : Sg) : Option ((Int32 × Sg) ⊕ (Sg)) := if vin (σ.1 a0 18) 2 then (if (σ.1 (a0 + 9) (((σ.1 a0 18)).toNatClampNeg)) ≤ x2 then (some (Sum.inr σ)) else (if ((p1 >>> (x2 &&& 31)) &&& (1 : Int32)) = (1 : Int32) then (if vin ((32 : Int32) + x2) 88 then (let σ11 := wI σ (a0 + 31) ((((32 : Int32) + x2)).toNatClampNeg) (1 : Int32); jX7_isEnough_38 a0 p1 x2 σ11) else none) else (jX7_isEnough_38 a0 p1 x2 σ))) else none
noncomputable def bX7_isEnough_46 (a0 : Nat) (p1 : Int32) (x2 : Int32) (σ : Sg) : Option ((Int32 × Sg) ⊕ ((Sg) ⊕ (Sg))) := if (72 : Int32) ≤ x2 then (some (Sum.inr (Sum.inr σ))) else ((fX7_hourGoes a0 σ).bind (fun σ15 => (fX7_soBits a0 (2 : Int32) σ15).bind (fun q23 => let r21 := q23.1; let σ20 := q23.2; if r21 = 0 then ((let x2_24 := x2 + (1 : Int32); some (Sum.inl (x2_24, σ20)))) else (some (Sum.inr (Sum.inl σ20))))))
noncomputable def fX7_isEnough (a0 : Nat) (p1 : Int32) (σ : Sg) : Option (Int32 × Sg) := (fX7_copiesStill a0 σ).bind (fun σ2 => (lp (fun st => bX7_isEnough_6 a0 p1 st.1 st.2) ((0 : Int32), σ2)).bind (fun σ13 => (lp (fun st => bX7_isEnough_46 a0 p1 st.1 st.2) ((0 : Int32), σ13)).bind (fun o25 => Sum.elim (fun σ26 => some ((0 : Int32), σ26)) (fun o25_ => (fun σ27 => some ((1 : Int32), σ27)) o25_) o25)))
set_option maxRecDepth 100000 in
set_option maxHeartbeats 4000000 in
theorem mX7_isEnough {l : Launch} {G : Gm} {a0 : Nat} {p1 : Int32} {σ : Sg} {r : Int32} {σ' : Sg} (hk_a0 : gK G a0 = 8) (hf : fX7_isEnough a0 p1 σ = some (r, σ')) : Mi l G yX7_isEnough cX7_isEnough 3 .boolean 7 161 [.ref (gB G + a0), .int p1] σ r σ' := by
  refine of_W "RightKeysModel" rfl (by decide) (Nat.le_of_ble_eq_true rfl) ?_
  intro p e s m args below meth c Q hQ C hr hlk hW ls hl
  have h00 := hW.1
  have hl : lv_has ls 3 [(0, .ref (gB G + a0)), (1, .int p1)] := hl
  delta fX7_isEnough at hf
  have L6 : ∀ (n : Nat) (x2 : Int32) (σ : Sg) (H : Heap) (locs : List Loc) (ls : Array Slot) (out : (Sg)), iter (fun st => bX7_isEnough_6 a0 p1 st.1 st.2) n (x2, σ) = some out → Ws G σ s.heap H locs → lv_has ls 3 [(0, .ref (gB G + a0)), (1, .int p1), (2, .int x2)] → (∀ (σ : Sg) (H : Heap) (locs : List Loc) (ls : Array Slot), out = σ → Ws G σ s.heap H locs → lv_has ls 3 [(0, .ref (gB G + a0))] → W p l e (rmOf 7 161) s m args below meth c H locs 0 0 Q (F0 m 44 ls [])) → W p l e (rmOf 7 161) s m args below meth c H locs 0 0 Q (F0 m 6 ls []) := by
    intro n
    induction n with
    | zero =>
      intro x2 σ H locs ls out hf
      exact (it_0 hf).elim
    | succ n ih =>
      intro x2 σ H locs ls out hf hW hl K6_44
      obtain ⟨x, hf, hx⟩ := it_s hf
      have hf : bX7_isEnough_6 a0 p1 x2 σ = some x := hf
      delta bX7_isEnough_6 at hf
      have J38 : ∀ (x2 : Int32) (σ : Sg) (H : Heap) (locs : List Loc) (ls : Array Slot), jX7_isEnough_38 a0 p1 x2 σ = some x → Ws G σ s.heap H locs → lv_has ls 3 [(0, .ref (gB G + a0)), (1, .int p1), (2, .int x2)] → W p l e (rmOf 7 161) s m args below meth c H locs 0 0 Q (F0 m 38 ls []) := by
        intro x2 σ H locs ls hf hW hl
        delta jX7_isEnough_38 at hf
        refine lv_iinc (v := _) (lv' := [(2, .int _), (0, .ref _), (1, .int _)]) C.1.1 C.1.2.1 dX7_isEnough_38 hl (k := 2) rfl (ii (k := 1) (by decide)) (by decide) rfl (fun ls hl => ?_)
        refine lv_goto (tgt := 6) C.1.1 C.1.2.1 dX7_isEnough_41 (by decide) ?_
        cases hf
        exact ih _ _ _ _ _ _ hx hW (lv_sub hl [1, 2, 0] rfl) K6_44
      refine lv_iload_n C.1.1 C.1.2.1 dX7_isEnough_6 rfl (lv_at hl 2 rfl) ?_
      refine lv_aload_n C.1.1 C.1.2.1 dX7_isEnough_7 rfl (lv_at hl 0 rfl) ?_
      have hk6 := sh7_22 hW hk_a0
      refine gf7_22 C hW hk_a0 w_1052 dX7_isEnough_8 ?_
      refine lv_aload_n C.1.1 C.1.2.1 dX7_isEnough_11 rfl (lv_at hl 0 rfl) ?_
      refine gf7_18 C hW hk_a0 w_1048 dX7_isEnough_12 ?_
      obtain ⟨hv7, hf⟩ := gd hf
      refine wai C hW hk6 (vin_p hv7) dX7_isEnough_15 ?_
      refine lv_icmp_ge (tgt := 44) C.1.1 C.1.2.1 dX7_isEnough_16 (by decide) (fun h9 => ?_) (fun h9 => ?_)
      · replace hf := (if_pos h9).symm.trans hf
        cases hf
        cases hx
        exact K6_44 _ _ _ _ rfl hW (lv_sub hl [0] rfl)
      · replace hf := (if_neg h9).symm.trans hf
        refine lv_iload_n C.1.1 C.1.2.1 dX7_isEnough_19 rfl (lv_at hl 1 rfl) ?_
        refine lv_iload_n C.1.1 C.1.2.1 dX7_isEnough_20 rfl (lv_at hl 2 rfl) ?_
        refine lv_ishr C.1.1 C.1.2.1 dX7_isEnough_21 ?_
        refine lv_iconst (v := 1) C.1.1 C.1.2.1 dX7_isEnough_22 (by decide) ?_
        refine lv_iand C.1.1 C.1.2.1 dX7_isEnough_23 ?_
        refine lv_iconst (v := 1) C.1.1 C.1.2.1 dX7_isEnough_24 (by decide) ?_
        refine lv_icmp_ne (tgt := 38) C.1.1 C.1.2.1 dX7_isEnough_25 (by decide) (fun h9 => ?_) (fun h9 => ?_)
        · replace hf := (if_neg h9).symm.trans hf
          exact J38 _ _ _ _ _ hf hW (lv_sub hl [0, 1, 2] rfl)
        · replace hf := (if_pos h9).symm.trans hf
          refine lv_aload_n C.1.1 C.1.2.1 dX7_isEnough_28 rfl (lv_at hl 0 rfl) ?_
          have hk9 := sh7_48 hW hk_a0
          refine gf7_48 C hW hk_a0 w_1078 dX7_isEnough_29 ?_
          refine lv_bipush (v := 32) C.1.1 C.1.2.1 dX7_isEnough_32 (by decide) ?_
          refine lv_iload_n C.1.1 C.1.2.1 dX7_isEnough_34 rfl (lv_at hl 2 rfl) ?_
          refine lv_iadd C.1.1 C.1.2.1 dX7_isEnough_35 ?_
          refine lv_iconst (v := 1) C.1.1 C.1.2.1 dX7_isEnough_36 (by decide) ?_
          obtain ⟨hv10, hf⟩ := gd hf
          refine wsi C hW hk9 (vin_p hv10) dX7_isEnough_37 (fun H locs hW => ?_)
          exact J38 _ _ _ _ _ hf hW (lv_sub hl [0, 1, 2] rfl)
  have L46 : ∀ (n : Nat) (x2 : Int32) (σ : Sg) (H : Heap) (locs : List Loc) (ls : Array Slot) (out : ((Sg) ⊕ (Sg))), iter (fun st => bX7_isEnough_46 a0 p1 st.1 st.2) n (x2, σ) = some out → Ws G σ s.heap H locs → lv_has ls 3 [(0, .ref (gB G + a0)), (2, .int x2)] → (∀ (σ : Sg) (H : Heap) (locs : List Loc) (ls : Array Slot), out = (Sum.inl σ) → Ws G σ s.heap H locs → lv_has ls 3 [] → W p l e (rmOf 7 161) s m args below meth c H locs 0 0 Q (F0 m 64 ls [])) → (∀ (σ : Sg) (H : Heap) (locs : List Loc) (ls : Array Slot), out = (Sum.inr σ) → Ws G σ s.heap H locs → lv_has ls 3 [] → W p l e (rmOf 7 161) s m args below meth c H locs 0 0 Q (F0 m 72 ls [])) → W p l e (rmOf 7 161) s m args below meth c H locs 0 0 Q (F0 m 46 ls []) := by
    intro n
    induction n with
    | zero =>
      intro x2 σ H locs ls out hf
      exact (it_0 hf).elim
    | succ n ih =>
      intro x2 σ H locs ls out hf hW hl K46_64 K46_72
      obtain ⟨x, hf, hx⟩ := it_s hf
      have hf : bX7_isEnough_46 a0 p1 x2 σ = some x := hf
      delta bX7_isEnough_46 at hf
      refine lv_iload_n C.1.1 C.1.2.1 dX7_isEnough_46 rfl (lv_at hl 1 rfl) ?_
      refine lv_bipush (v := 72) C.1.1 C.1.2.1 dX7_isEnough_47 (by decide) ?_
      refine lv_icmp_ge (tgt := 72) C.1.1 C.1.2.1 dX7_isEnough_49 (by decide) (fun h9 => ?_) (fun h9 => ?_)
      · replace hf := (if_pos h9).symm.trans hf
        cases hf
        cases hx
        exact K46_72 _ _ _ _ rfl hW (lv_sub hl [] rfl)
      · replace hf := (if_neg h9).symm.trans hf
        refine lv_aload_n C.1.1 C.1.2.1 dX7_isEnough_52 rfl (lv_at hl 0 rfl) ?_
        obtain ⟨σ15, hc14, hf⟩ := bd hf
        try dsimp only at hf
        refine cVv C hW (mX7_hourGoes hk_a0 hc14) hk_a0 kvX7_hourGoes w_1439 ⟨(Nat.le_of_ble_eq_true rfl), (Nat.le_of_ble_eq_true rfl)⟩ ⟨Nat.zero_le _, Nat.zero_le _⟩ rfl hl.1 (rest := []) rfl (Nat.le_of_ble_eq_true rfl) dX7_isEnough_53 (fun H locs hW => ?_)
        refine lv_aload_n C.1.1 C.1.2.1 dX7_isEnough_56 rfl (lv_at hl 0 rfl) ?_
        refine lv_iconst (v := 2) C.1.1 C.1.2.1 dX7_isEnough_57 (by decide) ?_
        obtain ⟨⟨r21, σ20⟩, hc19, hf⟩ := bd hf
        try dsimp only at hf
        refine cVi C hW (mX7_soBits hk_a0 hc19) hk_a0 kvX7_soBits w_1366 ⟨(Nat.le_of_ble_eq_true rfl), (Nat.le_of_ble_eq_true rfl)⟩ ⟨Nat.zero_le _, Nat.zero_le _⟩ rfl hl.1 (rest := []) rfl (Nat.le_of_ble_eq_true rfl) dX7_isEnough_58 (fun H locs hn22 hW => ?_)
        refine lv_if_eq (tgt := 66) C.1.1 C.1.2.1 dX7_isEnough_61 (by decide) (fun h9 => ?_) (fun h9 => ?_)
        · replace hf := (if_pos h9).symm.trans hf
          refine lv_iinc (v := _) (lv' := [(2, .int _), (0, .ref _)]) C.1.1 C.1.2.1 dX7_isEnough_66 hl (k := 1) rfl (ii (k := 1) (by decide)) (by decide) rfl (fun ls hl => ?_)
          refine lv_goto (tgt := 46) C.1.1 C.1.2.1 dX7_isEnough_69 (by decide) ?_
          cases hf
          exact ih _ _ _ _ _ _ hx hW (lv_sub hl [1, 0] rfl) K46_64 K46_72
        · replace hf := (if_neg h9).symm.trans hf
          cases hf
          cases hx
          exact K46_64 _ _ _ _ rfl hW (lv_sub hl [] rfl)
  refine lv_aload_n C.1.1 C.1.2.1 dX7_isEnough_0 rfl (lv_at hl 0 rfl) ?_
  obtain ⟨σ2, hc1, hf⟩ := bd hf
  try dsimp only at hf
  refine cVv C hW (mX7_copiesStill hk_a0 hc1) hk_a0 kvX7_copiesStill w_1531 ⟨(Nat.le_of_ble_eq_true rfl), (Nat.le_of_ble_eq_true rfl)⟩ ⟨Nat.zero_le _, Nat.zero_le _⟩ rfl hl.1 (rest := []) rfl (Nat.le_of_ble_eq_true rfl) dX7_isEnough_1 (fun H locs hW => ?_)
  refine lv_iconst (v := 0) C.1.1 C.1.2.1 dX7_isEnough_4 (by decide) ?_
  refine lv_istore_n (lv' := [(2, .int _), (0, .ref _), (1, .int _)]) C.1.1 C.1.2.1 dX7_isEnough_5 rfl hl (by decide) rfl (fun ls hl => ?_)
  obtain ⟨o12, ho, hf⟩ := bd hf
  obtain ⟨n, ho⟩ := lp_it ho
  refine L6 n _ _ _ _ _ o12 ho hW (lv_sub hl [1, 2, 0] rfl) ?_
  intro  σ13 H locs ls e9 hW hl
  subst e9
  try dsimp only at hf
  refine lv_iconst (v := 0) C.1.1 C.1.2.1 dX7_isEnough_44 (by decide) ?_
  refine lv_istore_n (lv' := [(2, .int _), (0, .ref _)]) C.1.1 C.1.2.1 dX7_isEnough_45 rfl hl (by decide) rfl (fun ls hl => ?_)
  obtain ⟨o25, ho, hf⟩ := bd hf
  obtain ⟨n, ho⟩ := lp_it ho
  refine L46 n _ _ _ _ _ o25 ho hW (lv_sub hl [1, 0] rfl) ?_ ?_
  · intro  σ26 H locs ls e9 hW hl
    subst e9
    try dsimp only at hf
    refine lv_iconst (v := 0) C.1.1 C.1.2.1 dX7_isEnough_64 (by decide) ?_
    exact ri hQ C hr hlk hW hf (rok_z (Or.inl rfl)) dX7_isEnough_65
  · intro  σ27 H locs ls e9 hW hl
    subst e9
    try dsimp only at hf
    refine lv_iconst (v := 1) C.1.1 C.1.2.1 dX7_isEnough_72 (by decide) ?_
    exact ri hQ C hr hlk hW hf (rok_z (Or.inr rfl)) dX7_isEnough_73
theorem kvX7_stay : KV 7 "RightKeysModel" yX7_stay cX7_stay 5 (some .int) 1 := ⟨⟨w_1544, w_1545, w_116, w_1546⟩, ⟨rfl, by decide, by decide, by decide +kernel⟩, by decide, rfl⟩
noncomputable def jX7_stay_76 (a0 : Nat) (p1 : Int32) (x2 : Int32) (x3 : Int32) (x4 : Int32) (σ : Sg) : Option ((Int32 × Int32 × Sg) ⊕ (Int32 × Sg)) := (let x4_13 := x4 + (1 : Int32); some (Sum.inl (x3, x4_13, σ)))
noncomputable def jX7_stay_61 (a0 : Nat) (p1 : Int32) (x2 : Int32) (x3 : Int32) (x4 : Int32) (σ : Sg) : Option ((Int32 × Int32 × Sg) ⊕ (Int32 × Sg)) := (fX7_isEnough a0 x4 σ).bind (fun q18 => let r16 := q18.1; let σ15 := q18.2; if r16 = 0 then (jX7_stay_76 a0 p1 x2 x3 x4 σ15) else (jX7_stay_76 a0 p1 x2 x4 x4 σ15))
noncomputable def bX7_stay_22 (a0 : Nat) (p1 : Int32) (x2 : Int32) (x3 : Int32) (x4 : Int32) (σ : Sg) : Option ((Int32 × Int32 × Sg) ⊕ (Int32 × Sg)) := if vin (σ.1 a0 18) 2 then (if ((1 : Int32) <<< ((σ.1 (a0 + 9) (((σ.1 a0 18)).toNatClampNeg)) &&& 31)) ≤ x4 then (some (Sum.inr (x3, σ))) else (if (x4 &&& x2) = 0 then (if x3 < 0 then (jX7_stay_61 a0 p1 x2 x3 x4 σ) else ((fX7_bits x4 σ).bind (fun q23 => let r21 := q23.1; let σ20 := q23.2; (fX7_bits x3 σ20).bind (fun q28 => let r26 := q28.1; let σ25 := q28.2; if r26 ≤ r21 then (jX7_stay_76 a0 p1 x2 x3 x4 σ25) else (jX7_stay_61 a0 p1 x2 x3 x4 σ25))))) else (jX7_stay_76 a0 p1 x2 x3 x4 σ))) else none
noncomputable def jX7_stay_91 (a0 : Nat) (p1 : Int32) (x3 : Int32) (σ : Sg) : Option (Int32 × Sg) := some (x3, σ)
noncomputable def fX7_stay (a0 : Nat) (p1 : Int32) (σ : Sg) : Option (Int32 × Sg) := (fX7_in p1 (0 : Int32) (1 : Int32) σ).bind (fun q5 => let r3 := q5.1; let σ2 := q5.2; if r3 = 0 then (some ((-1 : Int32), σ2)) else ((fX7_keptBits a0 σ2).bind (fun q10 => let r8 := q10.1; let σ7 := q10.2; (lp (fun st => bX7_stay_22 a0 p1 r8 st.1 st.2.1 st.2.2) ((-2 : Int32), (0 : Int32), σ7)).bind (fun q37 => let y31 := q37.1; let σ30 := q37.2;  if y31 < 0 then (jX7_stay_91 a0 p1 y31 σ30) else (if p1 = (1 : Int32) then (jX7_stay_91 a0 p1 y31 σ30) else ((fX7_bits y31 σ30).bind (fun q36 => let r34 := q36.1; let σ33 := q36.2; some (r34, σ33))))))))
set_option maxRecDepth 100000 in
set_option maxHeartbeats 4000000 in
theorem mX7_stay {l : Launch} {G : Gm} {a0 : Nat} {p1 : Int32} {σ : Sg} {r : Int32} {σ' : Sg} (hk_a0 : gK G a0 = 8) (hf : fX7_stay a0 p1 σ = some (r, σ')) : Mi l G yX7_stay cX7_stay 5 .int 8 183 [.ref (gB G + a0), .int p1] σ r σ' := by
  refine of_W "RightKeysModel" rfl (by decide) (Nat.le_of_ble_eq_true rfl) ?_
  intro p e s m args below meth c Q hQ C hr hlk hW ls hl
  have h00 := hW.1
  have hl : lv_has ls 5 [(0, .ref (gB G + a0)), (1, .int p1)] := hl
  delta fX7_stay at hf
  have L22 : ∀ (x2 : Int32) (n : Nat) (x3 : Int32) (x4 : Int32) (σ : Sg) (H : Heap) (locs : List Loc) (ls : Array Slot) (out : (Int32 × Sg)), iter (fun st => bX7_stay_22 a0 p1 x2 st.1 st.2.1 st.2.2) n (x3, x4, σ) = some out → Ws G σ s.heap H locs → lv_has ls 5 [(0, .ref (gB G + a0)), (1, .int p1), (2, .int x2), (3, .int x3), (4, .int x4)] → (∀ (y3 : Int32) (σ : Sg) (H : Heap) (locs : List Loc) (ls : Array Slot), out = (y3, σ) → Ws G σ s.heap H locs → lv_has ls 5 [(1, .int p1), (3, .int y3)] → W p l e (rmOf 8 183) s m args below meth c H locs 0 0 Q (F0 m 82 ls [])) → W p l e (rmOf 8 183) s m args below meth c H locs 0 0 Q (F0 m 22 ls []) := by
    intro x2 n
    induction n with
    | zero =>
      intro x3 x4 σ H locs ls out hf
      exact (it_0 hf).elim
    | succ n ih =>
      intro x3 x4 σ H locs ls out hf hW hl K22_82
      obtain ⟨x, hf, hx⟩ := it_s hf
      have hf : bX7_stay_22 a0 p1 x2 x3 x4 σ = some x := hf
      delta bX7_stay_22 at hf
      have J76 : ∀ (x3 : Int32) (x4 : Int32) (σ : Sg) (H : Heap) (locs : List Loc) (ls : Array Slot), jX7_stay_76 a0 p1 x2 x3 x4 σ = some x → Ws G σ s.heap H locs → lv_has ls 5 [(0, .ref (gB G + a0)), (1, .int p1), (2, .int x2), (3, .int x3), (4, .int x4)] → W p l e (rmOf 8 183) s m args below meth c H locs 0 0 Q (F0 m 76 ls []) := by
        intro x3 x4 σ H locs ls hf hW hl
        delta jX7_stay_76 at hf
        refine lv_iinc (v := _) (lv' := [(4, .int _), (0, .ref _), (1, .int _), (2, .int _), (3, .int _)]) C.1.1 C.1.2.1 dX7_stay_76 hl (k := 4) rfl (ii (k := 1) (by decide)) (by decide) rfl (fun ls hl => ?_)
        refine lv_goto (tgt := 22) C.1.1 C.1.2.1 dX7_stay_79 (by decide) ?_
        cases hf
        exact ih _ _ _ _ _ _ _ hx hW (lv_sub hl [1, 2, 3, 4, 0] rfl) K22_82
      have J61 : ∀ (x3 : Int32) (x4 : Int32) (σ : Sg) (H : Heap) (locs : List Loc) (ls : Array Slot), jX7_stay_61 a0 p1 x2 x3 x4 σ = some x → Ws G σ s.heap H locs → lv_has ls 5 [(0, .ref (gB G + a0)), (1, .int p1), (2, .int x2), (3, .int x3), (4, .int x4)] → W p l e (rmOf 8 183) s m args below meth c H locs 0 0 Q (F0 m 61 ls []) := by
        intro x3 x4 σ H locs ls hf hW hl
        delta jX7_stay_61 at hf
        refine lv_aload_n C.1.1 C.1.2.1 dX7_stay_61 rfl (lv_at hl 0 rfl) ?_
        refine lv_iload C.1.1 C.1.2.1 dX7_stay_62 (lv_at hl 4 rfl) ?_
        obtain ⟨⟨r16, σ15⟩, hc14, hf⟩ := bd hf
        try dsimp only at hf
        refine cVi C hW (mX7_isEnough hk_a0 hc14) hk_a0 kvX7_isEnough w_1551 ⟨(Nat.le_of_ble_eq_true rfl), (Nat.le_of_ble_eq_true rfl)⟩ ⟨Nat.zero_le _, Nat.zero_le _⟩ rfl hl.1 (rest := []) rfl (Nat.le_of_ble_eq_true rfl) dX7_stay_64 (fun H locs hn17 hW => ?_)
        refine lv_if_ne (tgt := 73) C.1.1 C.1.2.1 dX7_stay_67 (by decide) (fun h9 => ?_) (fun h9 => ?_)
        · replace hf := (if_neg h9).symm.trans hf
          refine lv_iload C.1.1 C.1.2.1 dX7_stay_73 (lv_at hl 4 rfl) ?_
          refine lv_istore_n (lv' := [(3, .int _), (0, .ref _), (1, .int _), (2, .int _), (4, .int _)]) C.1.1 C.1.2.1 dX7_stay_75 rfl hl (by decide) rfl (fun ls hl => ?_)
          exact J76 _ _ _ _ _ _ hf hW (lv_sub hl [1, 2, 3, 0, 4] rfl)
        · replace hf := (if_pos h9).symm.trans hf
          refine lv_goto (tgt := 76) C.1.1 C.1.2.1 dX7_stay_70 (by decide) ?_
          exact J76 _ _ _ _ _ _ hf hW (lv_sub hl [0, 1, 2, 3, 4] rfl)
      refine lv_iload C.1.1 C.1.2.1 dX7_stay_22 (lv_at hl 4 rfl) ?_
      refine lv_iconst (v := 1) C.1.1 C.1.2.1 dX7_stay_24 (by decide) ?_
      refine lv_aload_n C.1.1 C.1.2.1 dX7_stay_25 rfl (lv_at hl 0 rfl) ?_
      have hk11 := sh7_22 hW hk_a0
      refine gf7_22 C hW hk_a0 w_1052 dX7_stay_26 ?_
      refine lv_aload_n C.1.1 C.1.2.1 dX7_stay_29 rfl (lv_at hl 0 rfl) ?_
      refine gf7_18 C hW hk_a0 w_1048 dX7_stay_30 ?_
      obtain ⟨hv12, hf⟩ := gd hf
      refine wai C hW hk11 (vin_p hv12) dX7_stay_33 ?_
      refine lv_ishl C.1.1 C.1.2.1 dX7_stay_34 ?_
      refine lv_icmp_ge (tgt := 82) C.1.1 C.1.2.1 dX7_stay_35 (by decide) (fun h9 => ?_) (fun h9 => ?_)
      · replace hf := (if_pos h9).symm.trans hf
        cases hf
        cases hx
        exact K22_82 _ _ _ _ _ rfl hW (lv_sub hl [1, 3] rfl)
      · replace hf := (if_neg h9).symm.trans hf
        refine lv_iload C.1.1 C.1.2.1 dX7_stay_38 (lv_at hl 4 rfl) ?_
        refine lv_iload_n C.1.1 C.1.2.1 dX7_stay_40 rfl (lv_at hl 2 rfl) ?_
        refine lv_iand C.1.1 C.1.2.1 dX7_stay_41 ?_
        refine lv_if_ne (tgt := 76) C.1.1 C.1.2.1 dX7_stay_42 (by decide) (fun h9 => ?_) (fun h9 => ?_)
        · replace hf := (if_neg h9).symm.trans hf
          exact J76 _ _ _ _ _ _ hf hW (lv_sub hl [0, 1, 2, 3, 4] rfl)
        · replace hf := (if_pos h9).symm.trans hf
          refine lv_iload_n C.1.1 C.1.2.1 dX7_stay_45 rfl (lv_at hl 3 rfl) ?_
          refine lv_if_lt (tgt := 61) C.1.1 C.1.2.1 dX7_stay_46 (by decide) (fun h9 => ?_) (fun h9 => ?_)
          · replace hf := (if_pos h9).symm.trans hf
            exact J61 _ _ _ _ _ _ hf hW (lv_sub hl [0, 1, 2, 3, 4] rfl)
          · replace hf := (if_neg h9).symm.trans hf
            refine lv_iload C.1.1 C.1.2.1 dX7_stay_49 (lv_at hl 4 rfl) ?_
            obtain ⟨⟨r21, σ20⟩, hc19, hf⟩ := bd hf
            try dsimp only at hf
            refine cSi C hW (mX7_bits hc19) ksX7_bits w_1370 ⟨(Nat.le_of_ble_eq_true rfl), (Nat.le_of_ble_eq_true rfl)⟩ ⟨Nat.zero_le _, Nat.zero_le _⟩ rfl hl.1 (rest := []) rfl (Nat.le_of_ble_eq_true rfl) dX7_stay_51 (fun H locs hn22 hW => ?_)
            refine lv_iload_n C.1.1 C.1.2.1 dX7_stay_54 rfl (lv_at hl 3 rfl) ?_
            obtain ⟨⟨r26, σ25⟩, hc24, hf⟩ := bd hf
            try dsimp only at hf
            refine cSi C hW (mX7_bits hc24) ksX7_bits w_1370 ⟨(Nat.le_of_ble_eq_true rfl), (Nat.le_of_ble_eq_true rfl)⟩ ⟨Nat.zero_le _, Nat.zero_le _⟩ rfl hl.1 (rest := [.int _]) rfl (Nat.le_of_ble_eq_true rfl) dX7_stay_55 (fun H locs hn27 hW => ?_)
            refine lv_icmp_ge (tgt := 76) C.1.1 C.1.2.1 dX7_stay_58 (by decide) (fun h9 => ?_) (fun h9 => ?_)
            · replace hf := (if_pos h9).symm.trans hf
              exact J76 _ _ _ _ _ _ hf hW (lv_sub hl [0, 1, 2, 3, 4] rfl)
            · replace hf := (if_neg h9).symm.trans hf
              exact J61 _ _ _ _ _ _ hf hW (lv_sub hl [0, 1, 2, 3, 4] rfl)
  have J91 : ∀ (x3 : Int32) (σ : Sg) (H : Heap) (locs : List Loc) (ls : Array Slot), jX7_stay_91 a0 p1 x3 σ = some (r, σ') → Ws G σ s.heap H locs → lv_has ls 5 [(3, .int x3)] → W p l e (rmOf 8 183) s m args below meth c H locs 0 0 Q (F0 m 91 ls []) := by
    intro x3 σ H locs ls hf hW hl
    delta jX7_stay_91 at hf
    refine lv_iload_n C.1.1 C.1.2.1 dX7_stay_91 rfl (lv_at hl 0 rfl) ?_
    refine lv_goto (tgt := 99) C.1.1 C.1.2.1 dX7_stay_92 (by decide) ?_
    exact ri hQ C hr hlk hW hf (rok_i _) dX7_stay_99
  refine lv_iload_n C.1.1 C.1.2.1 dX7_stay_0 rfl (lv_at hl 1 rfl) ?_
  refine lv_iconst (v := 0) C.1.1 C.1.2.1 dX7_stay_1 (by decide) ?_
  refine lv_iconst (v := 1) C.1.1 C.1.2.1 dX7_stay_2 (by decide) ?_
  obtain ⟨⟨r3, σ2⟩, hc1, hf⟩ := bd hf
  try dsimp only at hf
  refine cSi C hW (mX7_in hc1) ksX7_in w_1351 ⟨(Nat.le_of_ble_eq_true rfl), (Nat.le_of_ble_eq_true rfl)⟩ ⟨Nat.zero_le _, Nat.zero_le _⟩ rfl hl.1 (rest := []) rfl (Nat.le_of_ble_eq_true rfl) dX7_stay_3 (fun H locs hn4 hW => ?_)
  refine lv_if_ne (tgt := 11) C.1.1 C.1.2.1 dX7_stay_6 (by decide) (fun h9 => ?_) (fun h9 => ?_)
  · replace hf := (if_neg h9).symm.trans hf
    refine lv_aload_n C.1.1 C.1.2.1 dX7_stay_11 rfl (lv_at hl 0 rfl) ?_
    obtain ⟨⟨r8, σ7⟩, hc6, hf⟩ := bd hf
    try dsimp only at hf
    refine cVi C hW (mX7_keptBits hk_a0 hc6) hk_a0 kvX7_keptBits w_1547 ⟨(Nat.le_of_ble_eq_true rfl), (Nat.le_of_ble_eq_true rfl)⟩ ⟨Nat.zero_le _, Nat.zero_le _⟩ rfl hl.1 (rest := []) rfl (Nat.le_of_ble_eq_true rfl) dX7_stay_12 (fun H locs hn9 hW => ?_)
    refine lv_istore_n (lv' := [(2, .int _), (0, .ref _), (1, .int _)]) C.1.1 C.1.2.1 dX7_stay_15 rfl hl (by decide) rfl (fun ls hl => ?_)
    refine lv_bipush (v := (-2)) C.1.1 C.1.2.1 dX7_stay_16 (by decide) ?_
    refine lv_istore_n (lv' := [(3, .int _), (2, .int _), (0, .ref _), (1, .int _)]) C.1.1 C.1.2.1 dX7_stay_18 rfl hl (by decide) rfl (fun ls hl => ?_)
    refine lv_iconst (v := 0) C.1.1 C.1.2.1 dX7_stay_19 (by decide) ?_
    refine lv_istore (lv' := [(4, .int _), (3, .int _), (2, .int _), (0, .ref _), (1, .int _)]) C.1.1 C.1.2.1 dX7_stay_20 hl (by decide) rfl (fun ls hl => ?_)
    obtain ⟨o29, ho, hf⟩ := bd hf
    obtain ⟨n, ho⟩ := lp_it ho
    refine L22 _ n _ _ _ _ _ _ o29 ho hW (lv_sub hl [3, 4, 2, 1, 0] rfl) ?_
    intro y31 σ30 H locs ls e9 hW hl
    subst e9
    try dsimp only at hf
    refine lv_iload_n C.1.1 C.1.2.1 dX7_stay_82 rfl (lv_at hl 1 rfl) ?_
    refine lv_if_lt (tgt := 91) C.1.1 C.1.2.1 dX7_stay_83 (by decide) (fun h9 => ?_) (fun h9 => ?_)
    · replace hf := (if_pos h9).symm.trans hf
      exact J91 _ _ _ _ _ hf hW (lv_sub hl [1] rfl)
    · replace hf := (if_neg h9).symm.trans hf
      refine lv_iload_n C.1.1 C.1.2.1 dX7_stay_86 rfl (lv_at hl 0 rfl) ?_
      refine lv_iconst (v := 1) C.1.1 C.1.2.1 dX7_stay_87 (by decide) ?_
      refine lv_icmp_ne (tgt := 95) C.1.1 C.1.2.1 dX7_stay_88 (by decide) (fun h9 => ?_) (fun h9 => ?_)
      · replace hf := (if_neg h9).symm.trans hf
        refine lv_iload_n C.1.1 C.1.2.1 dX7_stay_95 rfl (lv_at hl 1 rfl) ?_
        obtain ⟨⟨r34, σ33⟩, hc32, hf⟩ := bd hf
        try dsimp only at hf
        refine cSi C hW (mX7_bits hc32) ksX7_bits w_1370 ⟨(Nat.le_of_ble_eq_true rfl), (Nat.le_of_ble_eq_true rfl)⟩ ⟨Nat.zero_le _, Nat.zero_le _⟩ rfl hl.1 (rest := []) rfl (Nat.le_of_ble_eq_true rfl) dX7_stay_96 (fun H locs hn35 hW => ?_)
        exact ri hQ C hr hlk hW hf (rok_i _) dX7_stay_99
      · replace hf := (if_pos h9).symm.trans hf
        exact J91 _ _ _ _ _ hf hW (lv_sub hl [1] rfl)
  · replace hf := (if_pos h9).symm.trans hf
    refine lv_iconst (v := (-1)) C.1.1 C.1.2.1 dX7_stay_9 (by decide) ?_
    exact ri hQ C hr hlk hW hf (rok_i _) dX7_stay_10
theorem ksX7_roundOff : KS yX7_roundOff cX7_roundOff 3 (some .int) 2 := ⟨⟨w_1560, w_116, w_1561⟩, ⟨by decide, by decide, by decide +kernel⟩⟩
noncomputable def jX7_roundOff_14 (p0 : Int32) (p1 : Int32) (s0 : Int32) (σ : Sg) : Option (Int32 × Sg) := if s0 ≤ (12 : Int32) then (some (s0, σ)) else (some (((24 : Int32) - s0), σ))
noncomputable def fX7_roundOff (p0 : Int32) (p1 : Int32) (σ : Sg) : Option (Int32 × Sg) := if p1 ≤ p0 then (jX7_roundOff_14 p0 p1 (p0 - p1) σ) else (jX7_roundOff_14 p0 p1 (p1 - p0) σ)
set_option maxRecDepth 100000 in
set_option maxHeartbeats 4000000 in
theorem mX7_roundOff {l : Launch} {G : Gm} {p0 : Int32} {p1 : Int32} {σ : Sg} {r : Int32} {σ' : Sg}  (hf : fX7_roundOff p0 p1 σ = some (r, σ')) : Mi l G yX7_roundOff cX7_roundOff 3 .int 0 0 [.int p0, .int p1] σ r σ' := by
  refine of_W "RightKeysModel" rfl (by decide) (Nat.le_of_ble_eq_true rfl) ?_
  intro p e s m args below meth c Q hQ C hr hlk hW ls hl
  have h00 := hW.1
  have hl : lv_has ls 3 [(0, .int p0), (1, .int p1)] := hl
  delta fX7_roundOff at hf
  have J14 : ∀ (s0 : Int32) (σ : Sg) (H : Heap) (locs : List Loc) (ls : Array Slot), jX7_roundOff_14 p0 p1 s0 σ = some (r, σ') → Ws G σ s.heap H locs → lv_has ls 3 [] → W p l e (rmOf 0 0) s m args below meth c H locs 0 0 Q (F0 m 14 ls [.int s0]) := by
    intro s0 σ H locs ls hf hW hl
    delta jX7_roundOff_14 at hf
    refine lv_istore_n (lv' := [(2, .int _)]) C.1.1 C.1.2.1 dX7_roundOff_14 rfl hl (by decide) rfl (fun ls hl => ?_)
    refine lv_iload_n C.1.1 C.1.2.1 dX7_roundOff_15 rfl (lv_at hl 0 rfl) ?_
    refine lv_bipush (v := 12) C.1.1 C.1.2.1 dX7_roundOff_16 (by decide) ?_
    refine lv_icmp_le (tgt := 28) C.1.1 C.1.2.1 dX7_roundOff_18 (by decide) (fun h9 => ?_) (fun h9 => ?_)
    · replace hf := (if_pos h9).symm.trans hf
      refine lv_iload_n C.1.1 C.1.2.1 dX7_roundOff_28 rfl (lv_at hl 0 rfl) ?_
      exact ri hQ C hr hlk hW hf (rok_i _) dX7_roundOff_29
    · replace hf := (if_neg h9).symm.trans hf
      refine lv_bipush (v := 24) C.1.1 C.1.2.1 dX7_roundOff_21 (by decide) ?_
      refine lv_iload_n C.1.1 C.1.2.1 dX7_roundOff_23 rfl (lv_at hl 0 rfl) ?_
      refine lv_isub C.1.1 C.1.2.1 dX7_roundOff_24 ?_
      refine lv_goto (tgt := 29) C.1.1 C.1.2.1 dX7_roundOff_25 (by decide) ?_
      exact ri hQ C hr hlk hW hf (rok_i _) dX7_roundOff_29
  refine lv_iload_n C.1.1 C.1.2.1 dX7_roundOff_0 rfl (lv_at hl 0 rfl) ?_
  refine lv_iload_n C.1.1 C.1.2.1 dX7_roundOff_1 rfl (lv_at hl 1 rfl) ?_
  refine lv_icmp_ge (tgt := 11) C.1.1 C.1.2.1 dX7_roundOff_2 (by decide) (fun h9 => ?_) (fun h9 => ?_)
  · replace hf := (if_pos h9).symm.trans hf
    refine lv_iload_n C.1.1 C.1.2.1 dX7_roundOff_11 rfl (lv_at hl 0 rfl) ?_
    refine lv_iload_n C.1.1 C.1.2.1 dX7_roundOff_12 rfl (lv_at hl 1 rfl) ?_
    refine lv_isub C.1.1 C.1.2.1 dX7_roundOff_13 ?_
    exact J14 _ _ _ _ _ hf hW (lv_sub hl [] rfl)
  · replace hf := (if_neg h9).symm.trans hf
    refine lv_iload_n C.1.1 C.1.2.1 dX7_roundOff_5 rfl (lv_at hl 1 rfl) ?_
    refine lv_iload_n C.1.1 C.1.2.1 dX7_roundOff_6 rfl (lv_at hl 0 rfl) ?_
    refine lv_isub C.1.1 C.1.2.1 dX7_roundOff_7 ?_
    refine lv_goto (tgt := 14) C.1.1 C.1.2.1 dX7_roundOff_8 (by decide) ?_
    exact J14 _ _ _ _ _ hf hW (lv_sub hl [] rfl)
theorem kvX7_shift : KV 7 "RightKeysModel" yX7_shift cX7_shift 6 (some .int) 2 := ⟨⟨w_1556, w_1557, w_116, w_1558⟩, ⟨rfl, by decide, by decide, by decide +kernel⟩, by decide, rfl⟩
noncomputable def jX7_shift_119 (a0 : Nat) (p1 : Int32) (p2 : Int32) (x3 : Int32) (x4 : Int32) (x5 : Int32) (σ : Sg) : Option ((Int32 × Int32 × Int32 × Sg) ⊕ (Int32 × Int32 × Sg)) := (let x5_25 := x5 + (1 : Int32); some (Sum.inl (x3, x4, x5_25, σ)))
noncomputable def jX7_shift_110 (a0 : Nat) (p1 : Int32) (p2 : Int32) (x5 : Int32) (σ : Sg) : Option ((Int32 × Int32 × Int32 × Sg) ⊕ (Int32 × Int32 × Sg)) := (let x4_24 := (σ.1 a0 56); jX7_shift_119 a0 p1 p2 x5 x4_24 x5 σ)
noncomputable def bX7_shift_27 (a0 : Nat) (p1 : Int32) (p2 : Int32) (x3 : Int32) (x4 : Int32) (x5 : Int32) (σ : Sg) : Option ((Int32 × Int32 × Int32 × Sg) ⊕ (Int32 × Int32 × Sg)) := if (24 : Int32) ≤ x5 then (some (Sum.inr (x3, x4, σ))) else ((fX7_copiesStill a0 σ).bind (fun σ12 => if vin ((8 : Int32) + p1) 88 then (let σ18 := wI σ12 (a0 + 31) ((((8 : Int32) + p1)).toNatClampNeg) x5; (fX7_standsFor a0 (72 : Int32) σ18).bind (fun σ20 => if x3 < 0 then (jX7_shift_110 a0 p1 p2 x5 σ20) else (if x4 < (σ20.1 a0 56) then (jX7_shift_119 a0 p1 p2 x3 x4 x5 σ20) else (if (σ20.1 a0 56) = x4 then ((fX7_roundOff x5 (σ20.1 (a0 + 30) ((((8 : Int32) + p1)).toNatClampNeg)) σ20).bind (fun q31 => let r29 := q31.1; let σ28 := q31.2; (fX7_roundOff x3 (σ28.1 (a0 + 30) ((((8 : Int32) + p1)).toNatClampNeg)) σ28).bind (fun q37 => let r35 := q37.1; let σ34 := q37.2; if r29 < r35 then (jX7_shift_110 a0 p1 p2 x5 σ34) else (jX7_shift_119 a0 p1 p2 x3 x4 x5 σ34)))) else (jX7_shift_110 a0 p1 p2 x5 σ20))))) else none))
noncomputable def fX7_shift (a0 : Nat) (p1 : Int32) (p2 : Int32) (σ : Sg) : Option (Int32 × Sg) := (fX7_isHouse a0 p1 σ).bind (fun q5 => let r3 := q5.1; let σ2 := q5.2; if r3 = 0 then (some ((-1 : Int32), σ2)) else ((fX7_in p2 (0 : Int32) (1 : Int32) σ2).bind (fun q10 => let r8 := q10.1; let σ7 := q10.2; if r8 = 0 then (some ((-1 : Int32), σ7)) else ((lp (fun st => bX7_shift_27 a0 p1 p2 st.1 st.2.1 st.2.2.1 st.2.2.2) ((-1 : Int32), (0 : Int32), (0 : Int32), σ7)).bind (fun q42 => let y40 := q42.1; let y41 := q42.2.1; let σ39 := q42.2.2;  if p2 = 0 then (some (y40, σ39)) else (some (y41, σ39)))))))
set_option maxRecDepth 100000 in
set_option maxHeartbeats 4000000 in
theorem mX7_shift {l : Launch} {G : Gm} {a0 : Nat} {p1 : Int32} {p2 : Int32} {σ : Sg} {r : Int32} {σ' : Sg} (hk_a0 : gK G a0 = 8) (hf : fX7_shift a0 p1 p2 σ = some (r, σ')) : Mi l G yX7_shift cX7_shift 6 .int 8 185 [.ref (gB G + a0), .int p1, .int p2] σ r σ' := by
  refine of_W "RightKeysModel" rfl (by decide) (Nat.le_of_ble_eq_true rfl) ?_
  intro p e s m args below meth c Q hQ C hr hlk hW ls hl
  have h00 := hW.1
  have hl : lv_has ls 6 [(0, .ref (gB G + a0)), (1, .int p1), (2, .int p2)] := hl
  delta fX7_shift at hf
  have L27 : ∀ (n : Nat) (x3 : Int32) (x4 : Int32) (x5 : Int32) (σ : Sg) (H : Heap) (locs : List Loc) (ls : Array Slot) (out : (Int32 × Int32 × Sg)), iter (fun st => bX7_shift_27 a0 p1 p2 st.1 st.2.1 st.2.2.1 st.2.2.2) n (x3, x4, x5, σ) = some out → Ws G σ s.heap H locs → lv_has ls 6 [(0, .ref (gB G + a0)), (1, .int p1), (2, .int p2), (3, .int x3), (4, .int x4), (5, .int x5)] → (∀ (y3 : Int32) (y4 : Int32) (σ : Sg) (H : Heap) (locs : List Loc) (ls : Array Slot), out = (y3, y4, σ) → Ws G σ s.heap H locs → lv_has ls 6 [(2, .int p2), (3, .int y3), (4, .int y4)] → W p l e (rmOf 8 185) s m args below meth c H locs 0 0 Q (F0 m 125 ls [])) → W p l e (rmOf 8 185) s m args below meth c H locs 0 0 Q (F0 m 27 ls []) := by
    intro n
    induction n with
    | zero =>
      intro x3 x4 x5 σ H locs ls out hf
      exact (it_0 hf).elim
    | succ n ih =>
      intro x3 x4 x5 σ H locs ls out hf hW hl K27_125
      obtain ⟨x, hf, hx⟩ := it_s hf
      have hf : bX7_shift_27 a0 p1 p2 x3 x4 x5 σ = some x := hf
      delta bX7_shift_27 at hf
      have J119 : ∀ (x3 : Int32) (x4 : Int32) (x5 : Int32) (σ : Sg) (H : Heap) (locs : List Loc) (ls : Array Slot), jX7_shift_119 a0 p1 p2 x3 x4 x5 σ = some x → Ws G σ s.heap H locs → lv_has ls 6 [(0, .ref (gB G + a0)), (1, .int p1), (2, .int p2), (3, .int x3), (4, .int x4), (5, .int x5)] → W p l e (rmOf 8 185) s m args below meth c H locs 0 0 Q (F0 m 119 ls []) := by
        intro x3 x4 x5 σ H locs ls hf hW hl
        delta jX7_shift_119 at hf
        refine lv_iinc (v := _) (lv' := [(5, .int _), (0, .ref _), (1, .int _), (2, .int _), (3, .int _), (4, .int _)]) C.1.1 C.1.2.1 dX7_shift_119 hl (k := 5) rfl (ii (k := 1) (by decide)) (by decide) rfl (fun ls hl => ?_)
        refine lv_goto (tgt := 27) C.1.1 C.1.2.1 dX7_shift_122 (by decide) ?_
        cases hf
        exact ih _ _ _ _ _ _ _ _ hx hW (lv_sub hl [1, 2, 3, 4, 5, 0] rfl) K27_125
      have J110 : ∀ (x5 : Int32) (σ : Sg) (H : Heap) (locs : List Loc) (ls : Array Slot), jX7_shift_110 a0 p1 p2 x5 σ = some x → Ws G σ s.heap H locs → lv_has ls 6 [(0, .ref (gB G + a0)), (1, .int p1), (2, .int p2), (5, .int x5)] → W p l e (rmOf 8 185) s m args below meth c H locs 0 0 Q (F0 m 110 ls []) := by
        intro x5 σ H locs ls hf hW hl
        delta jX7_shift_110 at hf
        refine lv_iload C.1.1 C.1.2.1 dX7_shift_110 (lv_at hl 3 rfl) ?_
        refine lv_istore_n (lv' := [(3, .int _), (0, .ref _), (1, .int _), (2, .int _), (5, .int _)]) C.1.1 C.1.2.1 dX7_shift_112 rfl hl (by decide) rfl (fun ls hl => ?_)
        refine lv_aload_n C.1.1 C.1.2.1 dX7_shift_113 rfl (lv_at hl 1 rfl) ?_
        refine gf7_56 C hW hk_a0 w_1086 dX7_shift_114 ?_
        refine lv_istore (lv' := [(4, .int _), (3, .int _), (0, .ref _), (1, .int _), (2, .int _), (5, .int _)]) C.1.1 C.1.2.1 dX7_shift_117 hl (by decide) rfl (fun ls hl => ?_)
        exact J119 _ _ _ _ _ _ _ hf hW (lv_sub hl [2, 3, 4, 1, 0, 5] rfl)
      refine lv_iload C.1.1 C.1.2.1 dX7_shift_27 (lv_at hl 5 rfl) ?_
      refine lv_bipush (v := 24) C.1.1 C.1.2.1 dX7_shift_29 (by decide) ?_
      refine lv_icmp_ge (tgt := 125) C.1.1 C.1.2.1 dX7_shift_31 (by decide) (fun h9 => ?_) (fun h9 => ?_)
      · replace hf := (if_pos h9).symm.trans hf
        cases hf
        cases hx
        exact K27_125 _ _ _ _ _ _ rfl hW (lv_sub hl [2, 3, 4] rfl)
      · replace hf := (if_neg h9).symm.trans hf
        refine lv_aload_n C.1.1 C.1.2.1 dX7_shift_34 rfl (lv_at hl 0 rfl) ?_
        obtain ⟨σ12, hc11, hf⟩ := bd hf
        try dsimp only at hf
        refine cVv C hW (mX7_copiesStill hk_a0 hc11) hk_a0 kvX7_copiesStill w_1531 ⟨(Nat.le_of_ble_eq_true rfl), (Nat.le_of_ble_eq_true rfl)⟩ ⟨Nat.zero_le _, Nat.zero_le _⟩ rfl hl.1 (rest := []) rfl (Nat.le_of_ble_eq_true rfl) dX7_shift_35 (fun H locs hW => ?_)
        refine lv_aload_n C.1.1 C.1.2.1 dX7_shift_38 rfl (lv_at hl 0 rfl) ?_
        have hk16 := sh7_48 hW hk_a0
        refine gf7_48 C hW hk_a0 w_1078 dX7_shift_39 ?_
        refine lv_bipush (v := 8) C.1.1 C.1.2.1 dX7_shift_42 (by decide) ?_
        refine lv_iload_n C.1.1 C.1.2.1 dX7_shift_44 rfl (lv_at hl 1 rfl) ?_
        refine lv_iadd C.1.1 C.1.2.1 dX7_shift_45 ?_
        refine lv_iload C.1.1 C.1.2.1 dX7_shift_46 (lv_at hl 5 rfl) ?_
        obtain ⟨hv17, hf⟩ := gd hf
        refine wsi C hW hk16 (vin_p hv17) dX7_shift_48 (fun H locs hW => ?_)
        refine lv_aload_n C.1.1 C.1.2.1 dX7_shift_49 rfl (lv_at hl 0 rfl) ?_
        refine lv_bipush (v := 72) C.1.1 C.1.2.1 dX7_shift_50 (by decide) ?_
        obtain ⟨σ20, hc19, hf⟩ := bd hf
        try dsimp only at hf
        refine cVv C hW (mX7_standsFor hk_a0 hc19) hk_a0 kvX7_standsFor w_1535 ⟨(Nat.le_of_ble_eq_true rfl), (Nat.le_of_ble_eq_true rfl)⟩ ⟨Nat.zero_le _, Nat.zero_le _⟩ rfl hl.1 (rest := []) rfl (Nat.le_of_ble_eq_true rfl) dX7_shift_52 (fun H locs hW => ?_)
        refine lv_iload_n C.1.1 C.1.2.1 dX7_shift_55 rfl (lv_at hl 3 rfl) ?_
        refine lv_if_lt (tgt := 110) C.1.1 C.1.2.1 dX7_shift_56 (by decide) (fun h9 => ?_) (fun h9 => ?_)
        · replace hf := (if_pos h9).symm.trans hf
          exact J110 _ _ _ _ _ hf hW (lv_sub hl [0, 1, 2, 5] rfl)
        · replace hf := (if_neg h9).symm.trans hf
          refine lv_aload_n C.1.1 C.1.2.1 dX7_shift_59 rfl (lv_at hl 0 rfl) ?_
          refine gf7_56 C hW hk_a0 w_1086 dX7_shift_60 ?_
          refine lv_iload C.1.1 C.1.2.1 dX7_shift_63 (lv_at hl 4 rfl) ?_
          refine lv_icmp_gt (tgt := 119) C.1.1 C.1.2.1 dX7_shift_65 (by decide) (fun h9 => ?_) (fun h9 => ?_)
          · replace hf := (if_pos h9).symm.trans hf
            exact J119 _ _ _ _ _ _ _ hf hW (lv_sub hl [0, 1, 2, 3, 4, 5] rfl)
          · replace hf := (if_neg h9).symm.trans hf
            refine lv_aload_n C.1.1 C.1.2.1 dX7_shift_68 rfl (lv_at hl 0 rfl) ?_
            refine gf7_56 C hW hk_a0 w_1086 dX7_shift_69 ?_
            refine lv_iload C.1.1 C.1.2.1 dX7_shift_72 (lv_at hl 4 rfl) ?_
            refine lv_icmp_ne (tgt := 110) C.1.1 C.1.2.1 dX7_shift_74 (by decide) (fun h9 => ?_) (fun h9 => ?_)
            · replace hf := (if_neg h9).symm.trans hf
              exact J110 _ _ _ _ _ hf hW (lv_sub hl [0, 1, 2, 5] rfl)
            · replace hf := (if_pos h9).symm.trans hf
              refine lv_iload C.1.1 C.1.2.1 dX7_shift_77 (lv_at hl 5 rfl) ?_
              refine lv_aload_n C.1.1 C.1.2.1 dX7_shift_79 rfl (lv_at hl 0 rfl) ?_
              have hk26 := sh7_47 hW hk_a0
              refine gf7_47 C hW hk_a0 w_1077 dX7_shift_80 ?_
              refine lv_bipush (v := 8) C.1.1 C.1.2.1 dX7_shift_83 (by decide) ?_
              refine lv_iload_n C.1.1 C.1.2.1 dX7_shift_85 rfl (lv_at hl 1 rfl) ?_
              refine lv_iadd C.1.1 C.1.2.1 dX7_shift_86 ?_
              refine wai C hW hk26 (vin_p hv17) dX7_shift_87 ?_
              obtain ⟨⟨r29, σ28⟩, hc27, hf⟩ := bd hf
              try dsimp only at hf
              refine cSi C hW (mX7_roundOff hc27) ksX7_roundOff w_1559 ⟨(Nat.le_of_ble_eq_true rfl), (Nat.le_of_ble_eq_true rfl)⟩ ⟨Nat.zero_le _, Nat.zero_le _⟩ rfl hl.1 (rest := []) rfl (Nat.le_of_ble_eq_true rfl) dX7_shift_88 (fun H locs hn30 hW => ?_)
              refine lv_iload_n C.1.1 C.1.2.1 dX7_shift_91 rfl (lv_at hl 3 rfl) ?_
              refine lv_aload_n C.1.1 C.1.2.1 dX7_shift_92 rfl (lv_at hl 0 rfl) ?_
              have hk32 := sh7_47 hW hk_a0
              refine gf7_47 C hW hk_a0 w_1077 dX7_shift_93 ?_
              refine lv_bipush (v := 8) C.1.1 C.1.2.1 dX7_shift_96 (by decide) ?_
              refine lv_iload_n C.1.1 C.1.2.1 dX7_shift_98 rfl (lv_at hl 1 rfl) ?_
              refine lv_iadd C.1.1 C.1.2.1 dX7_shift_99 ?_
              refine wai C hW hk32 (vin_p hv17) dX7_shift_100 ?_
              obtain ⟨⟨r35, σ34⟩, hc33, hf⟩ := bd hf
              try dsimp only at hf
              refine cSi C hW (mX7_roundOff hc33) ksX7_roundOff w_1559 ⟨(Nat.le_of_ble_eq_true rfl), (Nat.le_of_ble_eq_true rfl)⟩ ⟨Nat.zero_le _, Nat.zero_le _⟩ rfl hl.1 (rest := [.int _]) rfl (Nat.le_of_ble_eq_true rfl) dX7_shift_101 (fun H locs hn36 hW => ?_)
              refine lv_icmp_lt (tgt := 110) C.1.1 C.1.2.1 dX7_shift_104 (by decide) (fun h9 => ?_) (fun h9 => ?_)
              · replace hf := (if_pos h9).symm.trans hf
                exact J110 _ _ _ _ _ hf hW (lv_sub hl [0, 1, 2, 5] rfl)
              · replace hf := (if_neg h9).symm.trans hf
                refine lv_goto (tgt := 119) C.1.1 C.1.2.1 dX7_shift_107 (by decide) ?_
                exact J119 _ _ _ _ _ _ _ hf hW (lv_sub hl [0, 1, 2, 3, 4, 5] rfl)
  refine lv_aload_n C.1.1 C.1.2.1 dX7_shift_0 rfl (lv_at hl 0 rfl) ?_
  refine lv_iload_n C.1.1 C.1.2.1 dX7_shift_1 rfl (lv_at hl 1 rfl) ?_
  obtain ⟨⟨r3, σ2⟩, hc1, hf⟩ := bd hf
  try dsimp only at hf
  refine cVi C hW (mX7_isHouse hk_a0 hc1) hk_a0 kvX7_isHouse w_1347 ⟨(Nat.le_of_ble_eq_true rfl), (Nat.le_of_ble_eq_true rfl)⟩ ⟨Nat.zero_le _, Nat.zero_le _⟩ rfl hl.1 (rest := []) rfl (Nat.le_of_ble_eq_true rfl) dX7_shift_2 (fun H locs hn4 hW => ?_)
  refine lv_if_eq (tgt := 17) C.1.1 C.1.2.1 dX7_shift_5 (by decide) (fun h9 => ?_) (fun h9 => ?_)
  · replace hf := (if_pos h9).symm.trans hf
    refine lv_iconst (v := (-1)) C.1.1 C.1.2.1 dX7_shift_17 (by decide) ?_
    exact ri hQ C hr hlk hW hf (rok_i _) dX7_shift_18
  · replace hf := (if_neg h9).symm.trans hf
    refine lv_iload_n C.1.1 C.1.2.1 dX7_shift_8 rfl (lv_at hl 2 rfl) ?_
    refine lv_iconst (v := 0) C.1.1 C.1.2.1 dX7_shift_9 (by decide) ?_
    refine lv_iconst (v := 1) C.1.1 C.1.2.1 dX7_shift_10 (by decide) ?_
    obtain ⟨⟨r8, σ7⟩, hc6, hf⟩ := bd hf
    try dsimp only at hf
    refine cSi C hW (mX7_in hc6) ksX7_in w_1351 ⟨(Nat.le_of_ble_eq_true rfl), (Nat.le_of_ble_eq_true rfl)⟩ ⟨Nat.zero_le _, Nat.zero_le _⟩ rfl hl.1 (rest := []) rfl (Nat.le_of_ble_eq_true rfl) dX7_shift_11 (fun H locs hn9 hW => ?_)
    refine lv_if_ne (tgt := 19) C.1.1 C.1.2.1 dX7_shift_14 (by decide) (fun h9 => ?_) (fun h9 => ?_)
    · replace hf := (if_neg h9).symm.trans hf
      refine lv_iconst (v := (-1)) C.1.1 C.1.2.1 dX7_shift_19 (by decide) ?_
      refine lv_istore_n (lv' := [(3, .int _), (0, .ref _), (1, .int _), (2, .int _)]) C.1.1 C.1.2.1 dX7_shift_20 rfl hl (by decide) rfl (fun ls hl => ?_)
      refine lv_iconst (v := 0) C.1.1 C.1.2.1 dX7_shift_21 (by decide) ?_
      refine lv_istore (lv' := [(4, .int _), (3, .int _), (0, .ref _), (1, .int _), (2, .int _)]) C.1.1 C.1.2.1 dX7_shift_22 hl (by decide) rfl (fun ls hl => ?_)
      refine lv_iconst (v := 0) C.1.1 C.1.2.1 dX7_shift_24 (by decide) ?_
      refine lv_istore (lv' := [(5, .int _), (4, .int _), (3, .int _), (0, .ref _), (1, .int _), (2, .int _)]) C.1.1 C.1.2.1 dX7_shift_25 hl (by decide) rfl (fun ls hl => ?_)
      obtain ⟨o38, ho, hf⟩ := bd hf
      obtain ⟨n, ho⟩ := lp_it ho
      refine L27 n _ _ _ _ _ _ _ o38 ho hW (lv_sub hl [3, 4, 5, 2, 1, 0] rfl) ?_
      intro y40 y41 σ39 H locs ls e9 hW hl
      subst e9
      try dsimp only at hf
      refine lv_iload_n C.1.1 C.1.2.1 dX7_shift_125 rfl (lv_at hl 0 rfl) ?_
      refine lv_if_ne (tgt := 133) C.1.1 C.1.2.1 dX7_shift_126 (by decide) (fun h9 => ?_) (fun h9 => ?_)
      · replace hf := (if_neg h9).symm.trans hf
        refine lv_iload C.1.1 C.1.2.1 dX7_shift_133 (lv_at hl 2 rfl) ?_
        exact ri hQ C hr hlk hW hf (rok_i _) dX7_shift_135
      · replace hf := (if_pos h9).symm.trans hf
        refine lv_iload_n C.1.1 C.1.2.1 dX7_shift_129 rfl (lv_at hl 1 rfl) ?_
        refine lv_goto (tgt := 135) C.1.1 C.1.2.1 dX7_shift_130 (by decide) ?_
        exact ri hQ C hr hlk hW hf (rok_i _) dX7_shift_135
    · replace hf := (if_pos h9).symm.trans hf
      refine lv_iconst (v := (-1)) C.1.1 C.1.2.1 dX7_shift_17 (by decide) ?_
      exact ri hQ C hr hlk hW hf (rok_i _) dX7_shift_18
theorem kvX7_changeBest : KV 7 "RightKeysModel" yX7_changeBest cX7_changeBest 6 (some .int) 1 := ⟨⟨w_1563, w_1564, w_116, w_1565⟩, ⟨rfl, by decide, by decide, by decide +kernel⟩, by decide, rfl⟩
noncomputable def jX7_changeBest_123 (a0 : Nat) (p1 : Int32) (x4 : Int32) (x2 : Int32) (x3 : Int32) (x5 : Int32) (σ : Sg) : Option ((Int32 × Int32 × Int32 × Sg) ⊕ (Int32 × Int32 × Sg)) := (let x5_44 := x5 + (1 : Int32); some (Sum.inl (x2, x3, x5_44, σ)))
noncomputable def bX7_changeBest_52 (a0 : Nat) (p1 : Int32) (x4 : Int32) (x2 : Int32) (x3 : Int32) (x5 : Int32) (σ : Sg) : Option ((Int32 × Int32 × Int32 × Sg) ⊕ (Int32 × Int32 × Sg)) := if vin (σ.1 a0 18) 2 then (if (σ.1 (a0 + 9) (((σ.1 a0 18)).toNatClampNeg)) ≤ x5 then (some (Sum.inr (x2, x3, σ))) else ((fX7_canChange a0 x4 x5 σ).bind (fun q26 => let r24 := q26.1; let σ23 := q26.2; if r24 = 0 then (jX7_changeBest_123 a0 p1 x4 x2 x3 x5 σ23) else ((fX7_copiesStill a0 σ23).bind (fun σ28 => (fX7_changes a0 x4 x5 σ28).bind (fun σ33 => (fX7_standsFor a0 (72 : Int32) σ33).bind (fun σ38 => if (σ38.1 a0 56) < x2 then ((let x3_42 := (((10 : Int32) * x4) + x5); let x2_43 := (σ38.1 a0 56); jX7_changeBest_123 a0 p1 x4 x2_43 x3_42 x5 σ38)) else (jX7_changeBest_123 a0 p1 x4 x2 x3 x5 σ38)))))))) else none
noncomputable def bX7_changeBest_32 (a0 : Nat) (p1 : Int32) (x2 : Int32) (x3 : Int32) (x4 : Int32) (σ : Sg) : Option ((Int32 × Int32 × Int32 × Sg) ⊕ (Int32 × Int32 × Sg)) := if vin (σ.1 a0 18) 2 then (if (σ.1 (a0 + 9) (((σ.1 a0 18)).toNatClampNeg)) ≤ x4 then (some (Sum.inr (x2, x3, σ))) else ((let x5_19 := (x4 + (1 : Int32)); (lp (fun st => bX7_changeBest_52 a0 p1 x4 st.1 st.2.1 st.2.2.1 st.2.2.2) (x2, x3, x5_19, σ)).bind (fun q50 => let y47 := q50.1; let y48 := q50.2.1; let σ46 := q50.2.2;  (let x4_49 := x4 + (1 : Int32); some (Sum.inl (y47, y48, x4_49, σ46))))))) else none
noncomputable def jX7_changeBest_143 (a0 : Nat) (p1 : Int32) (x3 : Int32) (σ : Sg) : Option (Int32 × Sg) := some (x3, σ)
noncomputable def fX7_changeBest (a0 : Nat) (p1 : Int32) (σ : Sg) : Option (Int32 × Sg) := (fX7_in p1 (0 : Int32) (1 : Int32) σ).bind (fun q5 => let r3 := q5.1; let σ2 := q5.2; if r3 = 0 then (some ((-1 : Int32), σ2)) else ((fX7_copiesStill a0 σ2).bind (fun σ7 => (fX7_standsFor a0 (72 : Int32) σ7).bind (fun σ12 => (let x2_16 := (σ12.1 a0 56); (lp (fun st => bX7_changeBest_32 a0 p1 st.1 st.2.1 st.2.2.1 st.2.2.2) (x2_16, (-2 : Int32), (0 : Int32), σ12)).bind (fun q55 => let y53 := q55.1; let y54 := q55.2.1; let σ52 := q55.2.2;  if y54 < 0 then (jX7_changeBest_143 a0 p1 y54 σ52) else (if p1 = 0 then (jX7_changeBest_143 a0 p1 y54 σ52) else (some (y53, σ52)))))))))
set_option maxRecDepth 100000 in
set_option maxHeartbeats 4000000 in
theorem mX7_changeBest {l : Launch} {G : Gm} {a0 : Nat} {p1 : Int32} {σ : Sg} {r : Int32} {σ' : Sg} (hk_a0 : gK G a0 = 8) (hf : fX7_changeBest a0 p1 σ = some (r, σ')) : Mi l G yX7_changeBest cX7_changeBest 6 .int 8 185 [.ref (gB G + a0), .int p1] σ r σ' := by
  refine of_W "RightKeysModel" rfl (by decide) (Nat.le_of_ble_eq_true rfl) ?_
  intro p e s m args below meth c Q hQ C hr hlk hW ls hl
  have h00 := hW.1
  have hl : lv_has ls 6 [(0, .ref (gB G + a0)), (1, .int p1)] := hl
  delta fX7_changeBest at hf
  have L32 : ∀ (n : Nat) (x2 : Int32) (x3 : Int32) (x4 : Int32) (σ : Sg) (H : Heap) (locs : List Loc) (ls : Array Slot) (out : (Int32 × Int32 × Sg)), iter (fun st => bX7_changeBest_32 a0 p1 st.1 st.2.1 st.2.2.1 st.2.2.2) n (x2, x3, x4, σ) = some out → Ws G σ s.heap H locs → lv_has ls 6 [(0, .ref (gB G + a0)), (1, .int p1), (2, .int x2), (3, .int x3), (4, .int x4)] → (∀ (y2 : Int32) (y3 : Int32) (σ : Sg) (H : Heap) (locs : List Loc) (ls : Array Slot), out = (y2, y3, σ) → Ws G σ s.heap H locs → lv_has ls 6 [(1, .int p1), (2, .int y2), (3, .int y3)] → W p l e (rmOf 8 185) s m args below meth c H locs 0 0 Q (F0 m 135 ls [])) → W p l e (rmOf 8 185) s m args below meth c H locs 0 0 Q (F0 m 32 ls []) := by
    intro n
    induction n with
    | zero =>
      intro x2 x3 x4 σ H locs ls out hf
      exact (it_0 hf).elim
    | succ n ih =>
      intro x2 x3 x4 σ H locs ls out hf hW hl K32_135
      obtain ⟨x, hf, hx⟩ := it_s hf
      have hf : bX7_changeBest_32 a0 p1 x2 x3 x4 σ = some x := hf
      delta bX7_changeBest_32 at hf
      have L52 : ∀ (x4 : Int32) (n : Nat) (x2 : Int32) (x3 : Int32) (x5 : Int32) (σ : Sg) (H : Heap) (locs : List Loc) (ls : Array Slot) (out : (Int32 × Int32 × Sg)), iter (fun st => bX7_changeBest_52 a0 p1 x4 st.1 st.2.1 st.2.2.1 st.2.2.2) n (x2, x3, x5, σ) = some out → Ws G σ s.heap H locs → lv_has ls 6 [(0, .ref (gB G + a0)), (1, .int p1), (2, .int x2), (3, .int x3), (4, .int x4), (5, .int x5)] → (∀ (y2 : Int32) (y3 : Int32) (σ : Sg) (H : Heap) (locs : List Loc) (ls : Array Slot), out = (y2, y3, σ) → Ws G σ s.heap H locs → lv_has ls 6 [(0, .ref (gB G + a0)), (1, .int p1), (2, .int y2), (3, .int y3), (4, .int x4)] → W p l e (rmOf 8 185) s m args below meth c H locs 0 0 Q (F0 m 129 ls [])) → W p l e (rmOf 8 185) s m args below meth c H locs 0 0 Q (F0 m 52 ls []) := by
        intro x4 n
        induction n with
        | zero =>
          intro x2 x3 x5 σ H locs ls out hf
          exact (it_0 hf).elim
        | succ n ih =>
          intro x2 x3 x5 σ H locs ls out hf hW hl K52_129
          obtain ⟨x, hf, hx⟩ := it_s hf
          have hf : bX7_changeBest_52 a0 p1 x4 x2 x3 x5 σ = some x := hf
          delta bX7_changeBest_52 at hf
          have J123 : ∀ (x2 : Int32) (x3 : Int32) (x5 : Int32) (σ : Sg) (H : Heap) (locs : List Loc) (ls : Array Slot), jX7_changeBest_123 a0 p1 x4 x2 x3 x5 σ = some x → Ws G σ s.heap H locs → lv_has ls 6 [(0, .ref (gB G + a0)), (1, .int p1), (2, .int x2), (3, .int x3), (4, .int x4), (5, .int x5)] → W p l e (rmOf 8 185) s m args below meth c H locs 0 0 Q (F0 m 123 ls []) := by
            intro x2 x3 x5 σ H locs ls hf hW hl
            delta jX7_changeBest_123 at hf
            refine lv_iinc (v := _) (lv' := [(5, .int _), (0, .ref _), (1, .int _), (2, .int _), (3, .int _), (4, .int _)]) C.1.1 C.1.2.1 dX7_changeBest_123 hl (k := 5) rfl (ii (k := 1) (by decide)) (by decide) rfl (fun ls hl => ?_)
            refine lv_goto (tgt := 52) C.1.1 C.1.2.1 dX7_changeBest_126 (by decide) ?_
            cases hf
            exact ih _ _ _ _ _ _ _ _ hx hW (lv_sub hl [1, 2, 3, 4, 5, 0] rfl) K52_129
          refine lv_iload C.1.1 C.1.2.1 dX7_changeBest_52 (lv_at hl 5 rfl) ?_
          refine lv_aload_n C.1.1 C.1.2.1 dX7_changeBest_54 rfl (lv_at hl 0 rfl) ?_
          have hk20 := sh7_22 hW hk_a0
          refine gf7_22 C hW hk_a0 w_1052 dX7_changeBest_55 ?_
          refine lv_aload_n C.1.1 C.1.2.1 dX7_changeBest_58 rfl (lv_at hl 0 rfl) ?_
          refine gf7_18 C hW hk_a0 w_1048 dX7_changeBest_59 ?_
          obtain ⟨hv21, hf⟩ := gd hf
          refine wai C hW hk20 (vin_p hv21) dX7_changeBest_62 ?_
          refine lv_icmp_ge (tgt := 129) C.1.1 C.1.2.1 dX7_changeBest_63 (by decide) (fun h9 => ?_) (fun h9 => ?_)
          · replace hf := (if_pos h9).symm.trans hf
            cases hf
            cases hx
            exact K52_129 _ _ _ _ _ _ rfl hW (lv_sub hl [0, 1, 2, 3, 4] rfl)
          · replace hf := (if_neg h9).symm.trans hf
            refine lv_aload_n C.1.1 C.1.2.1 dX7_changeBest_66 rfl (lv_at hl 0 rfl) ?_
            refine lv_iload C.1.1 C.1.2.1 dX7_changeBest_67 (lv_at hl 4 rfl) ?_
            refine lv_iload C.1.1 C.1.2.1 dX7_changeBest_69 (lv_at hl 5 rfl) ?_
            obtain ⟨⟨r24, σ23⟩, hc22, hf⟩ := bd hf
            try dsimp only at hf
            refine cVi C hW (mX7_canChange hk_a0 hc22) hk_a0 kvX7_canChange w_1420 ⟨(Nat.le_of_ble_eq_true rfl), (Nat.le_of_ble_eq_true rfl)⟩ ⟨Nat.zero_le _, Nat.zero_le _⟩ rfl hl.1 (rest := []) rfl (Nat.le_of_ble_eq_true rfl) dX7_changeBest_71 (fun H locs hn25 hW => ?_)
            refine lv_if_ne (tgt := 80) C.1.1 C.1.2.1 dX7_changeBest_74 (by decide) (fun h9 => ?_) (fun h9 => ?_)
            · replace hf := (if_neg h9).symm.trans hf
              refine lv_aload_n C.1.1 C.1.2.1 dX7_changeBest_80 rfl (lv_at hl 0 rfl) ?_
              obtain ⟨σ28, hc27, hf⟩ := bd hf
              try dsimp only at hf
              refine cVv C hW (mX7_copiesStill hk_a0 hc27) hk_a0 kvX7_copiesStill w_1531 ⟨(Nat.le_of_ble_eq_true rfl), (Nat.le_of_ble_eq_true rfl)⟩ ⟨Nat.zero_le _, Nat.zero_le _⟩ rfl hl.1 (rest := []) rfl (Nat.le_of_ble_eq_true rfl) dX7_changeBest_81 (fun H locs hW => ?_)
              refine lv_aload_n C.1.1 C.1.2.1 dX7_changeBest_84 rfl (lv_at hl 0 rfl) ?_
              refine lv_iload C.1.1 C.1.2.1 dX7_changeBest_85 (lv_at hl 4 rfl) ?_
              refine lv_iload C.1.1 C.1.2.1 dX7_changeBest_87 (lv_at hl 5 rfl) ?_
              obtain ⟨σ33, hc32, hf⟩ := bd hf
              try dsimp only at hf
              refine cVv C hW (mX7_changes hk_a0 hc32) hk_a0 kvX7_changes w_1424 ⟨(Nat.le_of_ble_eq_true rfl), (Nat.le_of_ble_eq_true rfl)⟩ ⟨Nat.zero_le _, Nat.zero_le _⟩ rfl hl.1 (rest := []) rfl (Nat.le_of_ble_eq_true rfl) dX7_changeBest_89 (fun H locs hW => ?_)
              refine lv_aload_n C.1.1 C.1.2.1 dX7_changeBest_92 rfl (lv_at hl 0 rfl) ?_
              refine lv_bipush (v := 72) C.1.1 C.1.2.1 dX7_changeBest_93 (by decide) ?_
              obtain ⟨σ38, hc37, hf⟩ := bd hf
              try dsimp only at hf
              refine cVv C hW (mX7_standsFor hk_a0 hc37) hk_a0 kvX7_standsFor w_1535 ⟨(Nat.le_of_ble_eq_true rfl), (Nat.le_of_ble_eq_true rfl)⟩ ⟨Nat.zero_le _, Nat.zero_le _⟩ rfl hl.1 (rest := []) rfl (Nat.le_of_ble_eq_true rfl) dX7_changeBest_95 (fun H locs hW => ?_)
              refine lv_aload_n C.1.1 C.1.2.1 dX7_changeBest_98 rfl (lv_at hl 0 rfl) ?_
              refine gf7_56 C hW hk_a0 w_1086 dX7_changeBest_99 ?_
              refine lv_iload_n C.1.1 C.1.2.1 dX7_changeBest_102 rfl (lv_at hl 2 rfl) ?_
              refine lv_icmp_lt (tgt := 109) C.1.1 C.1.2.1 dX7_changeBest_103 (by decide) (fun h9 => ?_) (fun h9 => ?_)
              · replace hf := (if_pos h9).symm.trans hf
                refine lv_bipush (v := 10) C.1.1 C.1.2.1 dX7_changeBest_109 (by decide) ?_
                refine lv_iload C.1.1 C.1.2.1 dX7_changeBest_111 (lv_at hl 4 rfl) ?_
                refine lv_imul C.1.1 C.1.2.1 dX7_changeBest_113 ?_
                refine lv_iload C.1.1 C.1.2.1 dX7_changeBest_114 (lv_at hl 5 rfl) ?_
                refine lv_iadd C.1.1 C.1.2.1 dX7_changeBest_116 ?_
                refine lv_istore_n (lv' := [(3, .int _), (0, .ref _), (1, .int _), (2, .int _), (4, .int _), (5, .int _)]) C.1.1 C.1.2.1 dX7_changeBest_117 rfl hl (by decide) rfl (fun ls hl => ?_)
                refine lv_aload_n C.1.1 C.1.2.1 dX7_changeBest_118 rfl (lv_at hl 1 rfl) ?_
                refine gf7_56 C hW hk_a0 w_1086 dX7_changeBest_119 ?_
                refine lv_istore_n (lv' := [(2, .int _), (3, .int _), (0, .ref _), (1, .int _), (4, .int _), (5, .int _)]) C.1.1 C.1.2.1 dX7_changeBest_122 rfl hl (by decide) rfl (fun ls hl => ?_)
                exact J123 _ _ _ _ _ _ _ hf hW (lv_sub hl [2, 3, 0, 1, 4, 5] rfl)
              · replace hf := (if_neg h9).symm.trans hf
                refine lv_goto (tgt := 123) C.1.1 C.1.2.1 dX7_changeBest_106 (by decide) ?_
                exact J123 _ _ _ _ _ _ _ hf hW (lv_sub hl [0, 1, 2, 3, 4, 5] rfl)
            · replace hf := (if_pos h9).symm.trans hf
              refine lv_goto (tgt := 123) C.1.1 C.1.2.1 dX7_changeBest_77 (by decide) ?_
              exact J123 _ _ _ _ _ _ _ hf hW (lv_sub hl [0, 1, 2, 3, 4, 5] rfl)
      refine lv_iload C.1.1 C.1.2.1 dX7_changeBest_32 (lv_at hl 4 rfl) ?_
      refine lv_aload_n C.1.1 C.1.2.1 dX7_changeBest_34 rfl (lv_at hl 0 rfl) ?_
      have hk17 := sh7_22 hW hk_a0
      refine gf7_22 C hW hk_a0 w_1052 dX7_changeBest_35 ?_
      refine lv_aload_n C.1.1 C.1.2.1 dX7_changeBest_38 rfl (lv_at hl 0 rfl) ?_
      refine gf7_18 C hW hk_a0 w_1048 dX7_changeBest_39 ?_
      obtain ⟨hv18, hf⟩ := gd hf
      refine wai C hW hk17 (vin_p hv18) dX7_changeBest_42 ?_
      refine lv_icmp_ge (tgt := 135) C.1.1 C.1.2.1 dX7_changeBest_43 (by decide) (fun h9 => ?_) (fun h9 => ?_)
      · replace hf := (if_pos h9).symm.trans hf
        cases hf
        cases hx
        exact K32_135 _ _ _ _ _ _ rfl hW (lv_sub hl [1, 2, 3] rfl)
      · replace hf := (if_neg h9).symm.trans hf
        refine lv_iload C.1.1 C.1.2.1 dX7_changeBest_46 (lv_at hl 4 rfl) ?_
        refine lv_iconst (v := 1) C.1.1 C.1.2.1 dX7_changeBest_48 (by decide) ?_
        refine lv_iadd C.1.1 C.1.2.1 dX7_changeBest_49 ?_
        refine lv_istore (lv' := [(5, .int _), (0, .ref _), (1, .int _), (2, .int _), (3, .int _), (4, .int _)]) C.1.1 C.1.2.1 dX7_changeBest_50 hl (by decide) rfl (fun ls hl => ?_)
        obtain ⟨o45, ho, hf⟩ := bd hf
        obtain ⟨n, ho⟩ := lp_it ho
        refine L52 _ n _ _ _ _ _ _ _ o45 ho hW (lv_sub hl [1, 2, 3, 4, 5, 0] rfl) ?_
        intro y47 y48 σ46 H locs ls e9 hW hl
        subst e9
        try dsimp only at hf
        refine lv_iinc (v := _) (lv' := [(4, .int _), (0, .ref _), (1, .int _), (2, .int _), (3, .int _)]) C.1.1 C.1.2.1 dX7_changeBest_129 hl (k := 4) rfl (ii (k := 1) (by decide)) (by decide) rfl (fun ls hl => ?_)
        refine lv_goto (tgt := 32) C.1.1 C.1.2.1 dX7_changeBest_132 (by decide) ?_
        cases hf
        exact ih _ _ _ _ _ _ _ _ hx hW (lv_sub hl [1, 2, 3, 4, 0] rfl) K32_135
  have J143 : ∀ (x3 : Int32) (σ : Sg) (H : Heap) (locs : List Loc) (ls : Array Slot), jX7_changeBest_143 a0 p1 x3 σ = some (r, σ') → Ws G σ s.heap H locs → lv_has ls 6 [(3, .int x3)] → W p l e (rmOf 8 185) s m args below meth c H locs 0 0 Q (F0 m 143 ls []) := by
    intro x3 σ H locs ls hf hW hl
    delta jX7_changeBest_143 at hf
    refine lv_iload_n C.1.1 C.1.2.1 dX7_changeBest_143 rfl (lv_at hl 0 rfl) ?_
    refine lv_goto (tgt := 148) C.1.1 C.1.2.1 dX7_changeBest_144 (by decide) ?_
    exact ri hQ C hr hlk hW hf (rok_i _) dX7_changeBest_148
  refine lv_iload_n C.1.1 C.1.2.1 dX7_changeBest_0 rfl (lv_at hl 1 rfl) ?_
  refine lv_iconst (v := 0) C.1.1 C.1.2.1 dX7_changeBest_1 (by decide) ?_
  refine lv_iconst (v := 1) C.1.1 C.1.2.1 dX7_changeBest_2 (by decide) ?_
  obtain ⟨⟨r3, σ2⟩, hc1, hf⟩ := bd hf
  try dsimp only at hf
  refine cSi C hW (mX7_in hc1) ksX7_in w_1351 ⟨(Nat.le_of_ble_eq_true rfl), (Nat.le_of_ble_eq_true rfl)⟩ ⟨Nat.zero_le _, Nat.zero_le _⟩ rfl hl.1 (rest := []) rfl (Nat.le_of_ble_eq_true rfl) dX7_changeBest_3 (fun H locs hn4 hW => ?_)
  refine lv_if_ne (tgt := 11) C.1.1 C.1.2.1 dX7_changeBest_6 (by decide) (fun h9 => ?_) (fun h9 => ?_)
  · replace hf := (if_neg h9).symm.trans hf
    refine lv_aload_n C.1.1 C.1.2.1 dX7_changeBest_11 rfl (lv_at hl 0 rfl) ?_
    obtain ⟨σ7, hc6, hf⟩ := bd hf
    try dsimp only at hf
    refine cVv C hW (mX7_copiesStill hk_a0 hc6) hk_a0 kvX7_copiesStill w_1531 ⟨(Nat.le_of_ble_eq_true rfl), (Nat.le_of_ble_eq_true rfl)⟩ ⟨Nat.zero_le _, Nat.zero_le _⟩ rfl hl.1 (rest := []) rfl (Nat.le_of_ble_eq_true rfl) dX7_changeBest_12 (fun H locs hW => ?_)
    refine lv_aload_n C.1.1 C.1.2.1 dX7_changeBest_15 rfl (lv_at hl 0 rfl) ?_
    refine lv_bipush (v := 72) C.1.1 C.1.2.1 dX7_changeBest_16 (by decide) ?_
    obtain ⟨σ12, hc11, hf⟩ := bd hf
    try dsimp only at hf
    refine cVv C hW (mX7_standsFor hk_a0 hc11) hk_a0 kvX7_standsFor w_1535 ⟨(Nat.le_of_ble_eq_true rfl), (Nat.le_of_ble_eq_true rfl)⟩ ⟨Nat.zero_le _, Nat.zero_le _⟩ rfl hl.1 (rest := []) rfl (Nat.le_of_ble_eq_true rfl) dX7_changeBest_18 (fun H locs hW => ?_)
    refine lv_aload_n C.1.1 C.1.2.1 dX7_changeBest_21 rfl (lv_at hl 0 rfl) ?_
    refine gf7_56 C hW hk_a0 w_1086 dX7_changeBest_22 ?_
    refine lv_istore_n (lv' := [(2, .int _), (0, .ref _), (1, .int _)]) C.1.1 C.1.2.1 dX7_changeBest_25 rfl hl (by decide) rfl (fun ls hl => ?_)
    refine lv_bipush (v := (-2)) C.1.1 C.1.2.1 dX7_changeBest_26 (by decide) ?_
    refine lv_istore_n (lv' := [(3, .int _), (2, .int _), (0, .ref _), (1, .int _)]) C.1.1 C.1.2.1 dX7_changeBest_28 rfl hl (by decide) rfl (fun ls hl => ?_)
    refine lv_iconst (v := 0) C.1.1 C.1.2.1 dX7_changeBest_29 (by decide) ?_
    refine lv_istore (lv' := [(4, .int _), (3, .int _), (2, .int _), (0, .ref _), (1, .int _)]) C.1.1 C.1.2.1 dX7_changeBest_30 hl (by decide) rfl (fun ls hl => ?_)
    obtain ⟨o51, ho, hf⟩ := bd hf
    obtain ⟨n, ho⟩ := lp_it ho
    refine L32 n _ _ _ _ _ _ _ o51 ho hW (lv_sub hl [3, 4, 2, 1, 0] rfl) ?_
    intro y53 y54 σ52 H locs ls e9 hW hl
    subst e9
    try dsimp only at hf
    refine lv_iload_n C.1.1 C.1.2.1 dX7_changeBest_135 rfl (lv_at hl 2 rfl) ?_
    refine lv_if_lt (tgt := 143) C.1.1 C.1.2.1 dX7_changeBest_136 (by decide) (fun h9 => ?_) (fun h9 => ?_)
    · replace hf := (if_pos h9).symm.trans hf
      exact J143 _ _ _ _ _ hf hW (lv_sub hl [2] rfl)
    · replace hf := (if_neg h9).symm.trans hf
      refine lv_iload_n C.1.1 C.1.2.1 dX7_changeBest_139 rfl (lv_at hl 0 rfl) ?_
      refine lv_if_ne (tgt := 147) C.1.1 C.1.2.1 dX7_changeBest_140 (by decide) (fun h9 => ?_) (fun h9 => ?_)
      · replace hf := (if_neg h9).symm.trans hf
        refine lv_iload_n C.1.1 C.1.2.1 dX7_changeBest_147 rfl (lv_at hl 1 rfl) ?_
        exact ri hQ C hr hlk hW hf (rok_i _) dX7_changeBest_148
      · replace hf := (if_pos h9).symm.trans hf
        exact J143 _ _ _ _ _ hf hW (lv_sub hl [2] rfl)
  · replace hf := (if_pos h9).symm.trans hf
    refine lv_iconst (v := (-1)) C.1.1 C.1.2.1 dX7_changeBest_9 (by decide) ?_
    exact ri hQ C hr hlk hW hf (rok_i _) dX7_changeBest_10
theorem kvX7_frees : KV 7 "RightKeysModel" yX7_frees cX7_frees 3 (some .int) 1 := ⟨⟨w_1567, w_1568, w_116, w_1569⟩, ⟨rfl, by decide, by decide, by decide +kernel⟩, by decide, rfl⟩
noncomputable def fX7_frees (a0 : Nat) (p1 : Int32) (σ : Sg) : Option (Int32 × Sg) := (fX7_isHouse a0 p1 σ).bind (fun q5 => let r3 := q5.1; let σ2 := q5.2; if r3 = 0 then (some ((-1 : Int32), σ2)) else ((fX7_copiesStill a0 σ2).bind (fun σ7 => if vin ((40 : Int32) + p1) 88 then (let σ13 := wI σ7 (a0 + 31) ((((40 : Int32) + p1)).toNatClampNeg) (0 : Int32); if vin ((48 : Int32) + p1) 88 then (let σ16 := wI σ13 (a0 + 31) ((((48 : Int32) + p1)).toNatClampNeg) (0 : Int32); (fX7_soBits a0 (2 : Int32) σ16).bind (fun q21 => let r19 := q21.1; let σ18 := q21.2; (fX7_bits r19 σ18).bind (fun q26 => let r24 := q26.1; let σ23 := q26.2; (fX7_lettersIn a0 σ23).bind (fun σ28 => (fX7_soBits a0 (2 : Int32) σ28).bind (fun q36 => let r34 := q36.1; let σ33 := q36.2; (fX7_bits r34 σ33).bind (fun q41 => let r39 := q41.1; let σ38 := q41.2; some ((r24 - r39), σ38))))))) else none) else none)))
set_option maxRecDepth 100000 in
set_option maxHeartbeats 4000000 in
theorem mX7_frees {l : Launch} {G : Gm} {a0 : Nat} {p1 : Int32} {σ : Sg} {r : Int32} {σ' : Sg} (hk_a0 : gK G a0 = 8) (hf : fX7_frees a0 p1 σ = some (r, σ')) : Mi l G yX7_frees cX7_frees 3 .int 6 140 [.ref (gB G + a0), .int p1] σ r σ' := by
  refine of_W "RightKeysModel" rfl (by decide) (Nat.le_of_ble_eq_true rfl) ?_
  intro p e s m args below meth c Q hQ C hr hlk hW ls hl
  have h00 := hW.1
  have hl : lv_has ls 3 [(0, .ref (gB G + a0)), (1, .int p1)] := hl
  delta fX7_frees at hf
  refine lv_aload_n C.1.1 C.1.2.1 dX7_frees_0 rfl (lv_at hl 0 rfl) ?_
  refine lv_iload_n C.1.1 C.1.2.1 dX7_frees_1 rfl (lv_at hl 1 rfl) ?_
  obtain ⟨⟨r3, σ2⟩, hc1, hf⟩ := bd hf
  try dsimp only at hf
  refine cVi C hW (mX7_isHouse hk_a0 hc1) hk_a0 kvX7_isHouse w_1347 ⟨(Nat.le_of_ble_eq_true rfl), (Nat.le_of_ble_eq_true rfl)⟩ ⟨Nat.zero_le _, Nat.zero_le _⟩ rfl hl.1 (rest := []) rfl (Nat.le_of_ble_eq_true rfl) dX7_frees_2 (fun H locs hn4 hW => ?_)
  refine lv_if_ne (tgt := 10) C.1.1 C.1.2.1 dX7_frees_5 (by decide) (fun h9 => ?_) (fun h9 => ?_)
  · replace hf := (if_neg h9).symm.trans hf
    refine lv_aload_n C.1.1 C.1.2.1 dX7_frees_10 rfl (lv_at hl 0 rfl) ?_
    obtain ⟨σ7, hc6, hf⟩ := bd hf
    try dsimp only at hf
    refine cVv C hW (mX7_copiesStill hk_a0 hc6) hk_a0 kvX7_copiesStill w_1531 ⟨(Nat.le_of_ble_eq_true rfl), (Nat.le_of_ble_eq_true rfl)⟩ ⟨Nat.zero_le _, Nat.zero_le _⟩ rfl hl.1 (rest := []) rfl (Nat.le_of_ble_eq_true rfl) dX7_frees_11 (fun H locs hW => ?_)
    refine lv_aload_n C.1.1 C.1.2.1 dX7_frees_14 rfl (lv_at hl 0 rfl) ?_
    have hk11 := sh7_48 hW hk_a0
    refine gf7_48 C hW hk_a0 w_1078 dX7_frees_15 ?_
    refine lv_bipush (v := 40) C.1.1 C.1.2.1 dX7_frees_18 (by decide) ?_
    refine lv_iload_n C.1.1 C.1.2.1 dX7_frees_20 rfl (lv_at hl 1 rfl) ?_
    refine lv_iadd C.1.1 C.1.2.1 dX7_frees_21 ?_
    refine lv_iconst (v := 0) C.1.1 C.1.2.1 dX7_frees_22 (by decide) ?_
    obtain ⟨hv12, hf⟩ := gd hf
    refine wsi C hW hk11 (vin_p hv12) dX7_frees_23 (fun H locs hW => ?_)
    refine lv_aload_n C.1.1 C.1.2.1 dX7_frees_24 rfl (lv_at hl 0 rfl) ?_
    have hk14 := sh7_48 hW hk_a0
    refine gf7_48 C hW hk_a0 w_1078 dX7_frees_25 ?_
    refine lv_bipush (v := 48) C.1.1 C.1.2.1 dX7_frees_28 (by decide) ?_
    refine lv_iload_n C.1.1 C.1.2.1 dX7_frees_30 rfl (lv_at hl 1 rfl) ?_
    refine lv_iadd C.1.1 C.1.2.1 dX7_frees_31 ?_
    refine lv_iconst (v := 0) C.1.1 C.1.2.1 dX7_frees_32 (by decide) ?_
    obtain ⟨hv15, hf⟩ := gd hf
    refine wsi C hW hk14 (vin_p hv15) dX7_frees_33 (fun H locs hW => ?_)
    refine lv_aload_n C.1.1 C.1.2.1 dX7_frees_34 rfl (lv_at hl 0 rfl) ?_
    refine lv_iconst (v := 2) C.1.1 C.1.2.1 dX7_frees_35 (by decide) ?_
    obtain ⟨⟨r19, σ18⟩, hc17, hf⟩ := bd hf
    try dsimp only at hf
    refine cVi C hW (mX7_soBits hk_a0 hc17) hk_a0 kvX7_soBits w_1366 ⟨(Nat.le_of_ble_eq_true rfl), (Nat.le_of_ble_eq_true rfl)⟩ ⟨Nat.zero_le _, Nat.zero_le _⟩ rfl hl.1 (rest := []) rfl (Nat.le_of_ble_eq_true rfl) dX7_frees_36 (fun H locs hn20 hW => ?_)
    obtain ⟨⟨r24, σ23⟩, hc22, hf⟩ := bd hf
    try dsimp only at hf
    refine cSi C hW (mX7_bits hc22) ksX7_bits w_1370 ⟨(Nat.le_of_ble_eq_true rfl), (Nat.le_of_ble_eq_true rfl)⟩ ⟨Nat.zero_le _, Nat.zero_le _⟩ rfl hl.1 (rest := []) rfl (Nat.le_of_ble_eq_true rfl) dX7_frees_39 (fun H locs hn25 hW => ?_)
    refine lv_istore_n (lv' := [(2, .int _), (0, .ref _), (1, .int _)]) C.1.1 C.1.2.1 dX7_frees_42 rfl hl (by decide) rfl (fun ls hl => ?_)
    refine lv_aload_n C.1.1 C.1.2.1 dX7_frees_43 rfl (lv_at hl 1 rfl) ?_
    obtain ⟨σ28, hc27, hf⟩ := bd hf
    try dsimp only at hf
    refine cVv C hW (mX7_lettersIn hk_a0 hc27) hk_a0 kvX7_lettersIn w_1471 ⟨(Nat.le_of_ble_eq_true rfl), (Nat.le_of_ble_eq_true rfl)⟩ ⟨Nat.zero_le _, Nat.zero_le _⟩ rfl hl.1 (rest := []) rfl (Nat.le_of_ble_eq_true rfl) dX7_frees_44 (fun H locs hW => ?_)
    refine lv_iload_n C.1.1 C.1.2.1 dX7_frees_47 rfl (lv_at hl 0 rfl) ?_
    refine lv_aload_n C.1.1 C.1.2.1 dX7_frees_48 rfl (lv_at hl 1 rfl) ?_
    refine lv_iconst (v := 2) C.1.1 C.1.2.1 dX7_frees_49 (by decide) ?_
    obtain ⟨⟨r34, σ33⟩, hc32, hf⟩ := bd hf
    try dsimp only at hf
    refine cVi C hW (mX7_soBits hk_a0 hc32) hk_a0 kvX7_soBits w_1366 ⟨(Nat.le_of_ble_eq_true rfl), (Nat.le_of_ble_eq_true rfl)⟩ ⟨Nat.zero_le _, Nat.zero_le _⟩ rfl hl.1 (rest := [.int _]) rfl (Nat.le_of_ble_eq_true rfl) dX7_frees_50 (fun H locs hn35 hW => ?_)
    obtain ⟨⟨r39, σ38⟩, hc37, hf⟩ := bd hf
    try dsimp only at hf
    refine cSi C hW (mX7_bits hc37) ksX7_bits w_1370 ⟨(Nat.le_of_ble_eq_true rfl), (Nat.le_of_ble_eq_true rfl)⟩ ⟨Nat.zero_le _, Nat.zero_le _⟩ rfl hl.1 (rest := [.int _]) rfl (Nat.le_of_ble_eq_true rfl) dX7_frees_53 (fun H locs hn40 hW => ?_)
    refine lv_isub C.1.1 C.1.2.1 dX7_frees_56 ?_
    exact ri hQ C hr hlk hW hf (rok_i _) dX7_frees_57
  · replace hf := (if_pos h9).symm.trans hf
    refine lv_iconst (v := (-1)) C.1.1 C.1.2.1 dX7_frees_8 (by decide) ?_
    exact ri hQ C hr hlk hW hf (rok_i _) dX7_frees_9
theorem kvX7_worst : KV 7 "RightKeysModel" yX7_worst cX7_worst 5 (some .int) 2 := ⟨⟨w_1571, w_1572, w_116, w_1573⟩, ⟨rfl, by decide, by decide, by decide +kernel⟩, by decide, rfl⟩
noncomputable def jX7_worst_80 (a0 : Nat) (p1 : Int32) (p2 : Int32) (x3 : Int32) (x4 : Int32) (σ : Sg) : Option ((Int32 × Int32 × Sg) ⊕ (Int32 × Sg)) := (let x4_29 := x4 + (1 : Int32); some (Sum.inl (x3, x4_29, σ)))
noncomputable def bX7_worst_47 (a0 : Nat) (p1 : Int32) (p2 : Int32) (x3 : Int32) (x4 : Int32) (σ : Sg) : Option ((Int32 × Int32 × Sg) ⊕ (Int32 × Sg)) := if vin (σ.1 a0 18) 2 then (if (σ.1 (a0 + 9) (((σ.1 a0 18)).toNatClampNeg)) ≤ x4 then (some (Sum.inr (x3, σ))) else (if vin x4 8 then (if vin x3 8 then (if (σ.1 (a0 + 34) ((x4).toNatClampNeg)) ≤ (σ.1 (a0 + 34) ((x3).toNatClampNeg)) then (jX7_worst_80 a0 p1 p2 x3 x4 σ) else (jX7_worst_80 a0 p1 p2 x4 x4 σ)) else none) else none)) else none
noncomputable def fX7_worst (a0 : Nat) (p1 : Int32) (p2 : Int32) (σ : Sg) : Option (Int32 × Sg) := (fX7_isSome p1 σ).bind (fun q5 => let r3 := q5.1; let σ2 := q5.2; if r3 = 0 then (some ((-1 : Int32), σ2)) else ((fX7_in p2 (0 : Int32) (1 : Int32) σ2).bind (fun q10 => let r8 := q10.1; let σ7 := q10.2; if r8 = 0 then (some ((-1 : Int32), σ7)) else (if vin (σ7.1 a0 18) 2 then (if (σ7.1 (a0 + 9) (((σ7.1 a0 18)).toNatClampNeg)) = 0 then (some ((-2 : Int32), σ7)) else ((fX7_copiesStill a0 σ7).bind (fun σ14 => (fX7_standsFor a0 p1 σ14).bind (fun σ19 => (lp (fun st => bX7_worst_47 a0 p1 p2 st.1 st.2.1 st.2.2) ((0 : Int32), (1 : Int32), σ19)).bind (fun q35 => let y32 := q35.1; let σ31 := q35.2;  if p2 = 0 then (some (y32, σ31)) else (if vin y32 8 then (some ((σ31.1 (a0 + 34) ((y32).toNatClampNeg)), σ31)) else none)))))) else none))))
set_option maxRecDepth 100000 in
set_option maxHeartbeats 4000000 in
theorem mX7_worst {l : Launch} {G : Gm} {a0 : Nat} {p1 : Int32} {p2 : Int32} {σ : Sg} {r : Int32} {σ' : Sg} (hk_a0 : gK G a0 = 8) (hf : fX7_worst a0 p1 p2 σ = some (r, σ')) : Mi l G yX7_worst cX7_worst 5 .int 8 185 [.ref (gB G + a0), .int p1, .int p2] σ r σ' := by
  refine of_W "RightKeysModel" rfl (by decide) (Nat.le_of_ble_eq_true rfl) ?_
  intro p e s m args below meth c Q hQ C hr hlk hW ls hl
  have h00 := hW.1
  have hl : lv_has ls 5 [(0, .ref (gB G + a0)), (1, .int p1), (2, .int p2)] := hl
  delta fX7_worst at hf
  have L47 : ∀ (n : Nat) (x3 : Int32) (x4 : Int32) (σ : Sg) (H : Heap) (locs : List Loc) (ls : Array Slot) (out : (Int32 × Sg)), iter (fun st => bX7_worst_47 a0 p1 p2 st.1 st.2.1 st.2.2) n (x3, x4, σ) = some out → Ws G σ s.heap H locs → lv_has ls 5 [(0, .ref (gB G + a0)), (2, .int p2), (3, .int x3), (4, .int x4)] → (∀ (y3 : Int32) (σ : Sg) (H : Heap) (locs : List Loc) (ls : Array Slot), out = (y3, σ) → Ws G σ s.heap H locs → lv_has ls 5 [(0, .ref (gB G + a0)), (2, .int p2), (3, .int y3)] → W p l e (rmOf 8 185) s m args below meth c H locs 0 0 Q (F0 m 86 ls [])) → W p l e (rmOf 8 185) s m args below meth c H locs 0 0 Q (F0 m 47 ls []) := by
    intro n
    induction n with
    | zero =>
      intro x3 x4 σ H locs ls out hf
      exact (it_0 hf).elim
    | succ n ih =>
      intro x3 x4 σ H locs ls out hf hW hl K47_86
      obtain ⟨x, hf, hx⟩ := it_s hf
      have hf : bX7_worst_47 a0 p1 p2 x3 x4 σ = some x := hf
      delta bX7_worst_47 at hf
      have J80 : ∀ (x3 : Int32) (x4 : Int32) (σ : Sg) (H : Heap) (locs : List Loc) (ls : Array Slot), jX7_worst_80 a0 p1 p2 x3 x4 σ = some x → Ws G σ s.heap H locs → lv_has ls 5 [(0, .ref (gB G + a0)), (2, .int p2), (3, .int x3), (4, .int x4)] → W p l e (rmOf 8 185) s m args below meth c H locs 0 0 Q (F0 m 80 ls []) := by
        intro x3 x4 σ H locs ls hf hW hl
        delta jX7_worst_80 at hf
        refine lv_iinc (v := _) (lv' := [(4, .int _), (0, .ref _), (2, .int _), (3, .int _)]) C.1.1 C.1.2.1 dX7_worst_80 hl (k := 3) rfl (ii (k := 1) (by decide)) (by decide) rfl (fun ls hl => ?_)
        refine lv_goto (tgt := 47) C.1.1 C.1.2.1 dX7_worst_83 (by decide) ?_
        cases hf
        exact ih _ _ _ _ _ _ _ hx hW (lv_sub hl [1, 2, 3, 0] rfl) K47_86
      refine lv_iload C.1.1 C.1.2.1 dX7_worst_47 (lv_at hl 3 rfl) ?_
      refine lv_aload_n C.1.1 C.1.2.1 dX7_worst_49 rfl (lv_at hl 0 rfl) ?_
      have hk23 := sh7_22 hW hk_a0
      refine gf7_22 C hW hk_a0 w_1052 dX7_worst_50 ?_
      refine lv_aload_n C.1.1 C.1.2.1 dX7_worst_53 rfl (lv_at hl 0 rfl) ?_
      refine gf7_18 C hW hk_a0 w_1048 dX7_worst_54 ?_
      obtain ⟨hv24, hf⟩ := gd hf
      refine wai C hW hk23 (vin_p hv24) dX7_worst_57 ?_
      refine lv_icmp_ge (tgt := 86) C.1.1 C.1.2.1 dX7_worst_58 (by decide) (fun h9 => ?_) (fun h9 => ?_)
      · replace hf := (if_pos h9).symm.trans hf
        cases hf
        cases hx
        exact K47_86 _ _ _ _ _ rfl hW (lv_sub hl [0, 1, 2] rfl)
      · replace hf := (if_neg h9).symm.trans hf
        refine lv_aload_n C.1.1 C.1.2.1 dX7_worst_61 rfl (lv_at hl 0 rfl) ?_
        have hk25 := sh7_55 hW hk_a0
        refine gf7_55 C hW hk_a0 w_1085 dX7_worst_62 ?_
        refine lv_iload C.1.1 C.1.2.1 dX7_worst_65 (lv_at hl 3 rfl) ?_
        obtain ⟨hv26, hf⟩ := gd hf
        refine wai C hW hk25 (vin_p hv26) dX7_worst_67 ?_
        refine lv_aload_n C.1.1 C.1.2.1 dX7_worst_68 rfl (lv_at hl 0 rfl) ?_
        have hk27 := sh7_55 hW hk_a0
        refine gf7_55 C hW hk_a0 w_1085 dX7_worst_69 ?_
        refine lv_iload_n C.1.1 C.1.2.1 dX7_worst_72 rfl (lv_at hl 2 rfl) ?_
        obtain ⟨hv28, hf⟩ := gd hf
        refine wai C hW hk27 (vin_p hv28) dX7_worst_73 ?_
        refine lv_icmp_le (tgt := 80) C.1.1 C.1.2.1 dX7_worst_74 (by decide) (fun h9 => ?_) (fun h9 => ?_)
        · replace hf := (if_pos h9).symm.trans hf
          exact J80 _ _ _ _ _ _ hf hW (lv_sub hl [0, 1, 2, 3] rfl)
        · replace hf := (if_neg h9).symm.trans hf
          refine lv_iload C.1.1 C.1.2.1 dX7_worst_77 (lv_at hl 3 rfl) ?_
          refine lv_istore_n (lv' := [(3, .int _), (0, .ref _), (2, .int _), (4, .int _)]) C.1.1 C.1.2.1 dX7_worst_79 rfl hl (by decide) rfl (fun ls hl => ?_)
          exact J80 _ _ _ _ _ _ hf hW (lv_sub hl [1, 2, 0, 3] rfl)
  refine lv_iload_n C.1.1 C.1.2.1 dX7_worst_0 rfl (lv_at hl 1 rfl) ?_
  obtain ⟨⟨r3, σ2⟩, hc1, hf⟩ := bd hf
  try dsimp only at hf
  refine cSi C hW (mX7_isSome hc1) ksX7_isSome w_1528 ⟨(Nat.le_of_ble_eq_true rfl), (Nat.le_of_ble_eq_true rfl)⟩ ⟨Nat.zero_le _, Nat.zero_le _⟩ rfl hl.1 (rest := []) rfl (Nat.le_of_ble_eq_true rfl) dX7_worst_1 (fun H locs hn4 hW => ?_)
  refine lv_if_eq (tgt := 16) C.1.1 C.1.2.1 dX7_worst_4 (by decide) (fun h9 => ?_) (fun h9 => ?_)
  · replace hf := (if_pos h9).symm.trans hf
    refine lv_iconst (v := (-1)) C.1.1 C.1.2.1 dX7_worst_16 (by decide) ?_
    exact ri hQ C hr hlk hW hf (rok_i _) dX7_worst_17
  · replace hf := (if_neg h9).symm.trans hf
    refine lv_iload_n C.1.1 C.1.2.1 dX7_worst_7 rfl (lv_at hl 2 rfl) ?_
    refine lv_iconst (v := 0) C.1.1 C.1.2.1 dX7_worst_8 (by decide) ?_
    refine lv_iconst (v := 1) C.1.1 C.1.2.1 dX7_worst_9 (by decide) ?_
    obtain ⟨⟨r8, σ7⟩, hc6, hf⟩ := bd hf
    try dsimp only at hf
    refine cSi C hW (mX7_in hc6) ksX7_in w_1351 ⟨(Nat.le_of_ble_eq_true rfl), (Nat.le_of_ble_eq_true rfl)⟩ ⟨Nat.zero_le _, Nat.zero_le _⟩ rfl hl.1 (rest := []) rfl (Nat.le_of_ble_eq_true rfl) dX7_worst_10 (fun H locs hn9 hW => ?_)
    refine lv_if_ne (tgt := 18) C.1.1 C.1.2.1 dX7_worst_13 (by decide) (fun h9 => ?_) (fun h9 => ?_)
    · replace hf := (if_neg h9).symm.trans hf
      refine lv_aload_n C.1.1 C.1.2.1 dX7_worst_18 rfl (lv_at hl 0 rfl) ?_
      have hk11 := sh7_22 hW hk_a0
      refine gf7_22 C hW hk_a0 w_1052 dX7_worst_19 ?_
      refine lv_aload_n C.1.1 C.1.2.1 dX7_worst_22 rfl (lv_at hl 0 rfl) ?_
      refine gf7_18 C hW hk_a0 w_1048 dX7_worst_23 ?_
      obtain ⟨hv12, hf⟩ := gd hf
      refine wai C hW hk11 (vin_p hv12) dX7_worst_26 ?_
      refine lv_if_ne (tgt := 33) C.1.1 C.1.2.1 dX7_worst_27 (by decide) (fun h9 => ?_) (fun h9 => ?_)
      · replace hf := (if_neg h9).symm.trans hf
        refine lv_aload_n C.1.1 C.1.2.1 dX7_worst_33 rfl (lv_at hl 0 rfl) ?_
        obtain ⟨σ14, hc13, hf⟩ := bd hf
        try dsimp only at hf
        refine cVv C hW (mX7_copiesStill hk_a0 hc13) hk_a0 kvX7_copiesStill w_1531 ⟨(Nat.le_of_ble_eq_true rfl), (Nat.le_of_ble_eq_true rfl)⟩ ⟨Nat.zero_le _, Nat.zero_le _⟩ rfl hl.1 (rest := []) rfl (Nat.le_of_ble_eq_true rfl) dX7_worst_34 (fun H locs hW => ?_)
        refine lv_aload_n C.1.1 C.1.2.1 dX7_worst_37 rfl (lv_at hl 0 rfl) ?_
        refine lv_iload_n C.1.1 C.1.2.1 dX7_worst_38 rfl (lv_at hl 1 rfl) ?_
        obtain ⟨σ19, hc18, hf⟩ := bd hf
        try dsimp only at hf
        refine cVv C hW (mX7_standsFor hk_a0 hc18) hk_a0 kvX7_standsFor w_1535 ⟨(Nat.le_of_ble_eq_true rfl), (Nat.le_of_ble_eq_true rfl)⟩ ⟨Nat.zero_le _, Nat.zero_le _⟩ rfl hl.1 (rest := []) rfl (Nat.le_of_ble_eq_true rfl) dX7_worst_39 (fun H locs hW => ?_)
        refine lv_iconst (v := 0) C.1.1 C.1.2.1 dX7_worst_42 (by decide) ?_
        refine lv_istore_n (lv' := [(3, .int _), (0, .ref _), (1, .int _), (2, .int _)]) C.1.1 C.1.2.1 dX7_worst_43 rfl hl (by decide) rfl (fun ls hl => ?_)
        refine lv_iconst (v := 1) C.1.1 C.1.2.1 dX7_worst_44 (by decide) ?_
        refine lv_istore (lv' := [(4, .int _), (3, .int _), (0, .ref _), (1, .int _), (2, .int _)]) C.1.1 C.1.2.1 dX7_worst_45 hl (by decide) rfl (fun ls hl => ?_)
        obtain ⟨o30, ho, hf⟩ := bd hf
        obtain ⟨n, ho⟩ := lp_it ho
        refine L47 n _ _ _ _ _ _ o30 ho hW (lv_sub hl [2, 4, 1, 0] rfl) ?_
        intro y32 σ31 H locs ls e9 hW hl
        subst e9
        try dsimp only at hf
        refine lv_iload_n C.1.1 C.1.2.1 dX7_worst_86 rfl (lv_at hl 1 rfl) ?_
        refine lv_if_ne (tgt := 94) C.1.1 C.1.2.1 dX7_worst_87 (by decide) (fun h9 => ?_) (fun h9 => ?_)
        · replace hf := (if_neg h9).symm.trans hf
          refine lv_aload_n C.1.1 C.1.2.1 dX7_worst_94 rfl (lv_at hl 0 rfl) ?_
          have hk33 := sh7_55 hW hk_a0
          refine gf7_55 C hW hk_a0 w_1085 dX7_worst_95 ?_
          refine lv_iload_n C.1.1 C.1.2.1 dX7_worst_98 rfl (lv_at hl 2 rfl) ?_
          obtain ⟨hv34, hf⟩ := gd hf
          refine wai C hW hk33 (vin_p hv34) dX7_worst_99 ?_
          exact ri hQ C hr hlk hW hf (rok_i _) dX7_worst_100
        · replace hf := (if_pos h9).symm.trans hf
          refine lv_iload_n C.1.1 C.1.2.1 dX7_worst_90 rfl (lv_at hl 2 rfl) ?_
          refine lv_goto (tgt := 100) C.1.1 C.1.2.1 dX7_worst_91 (by decide) ?_
          exact ri hQ C hr hlk hW hf (rok_i _) dX7_worst_100
      · replace hf := (if_pos h9).symm.trans hf
        refine lv_bipush (v := (-2)) C.1.1 C.1.2.1 dX7_worst_30 (by decide) ?_
        exact ri hQ C hr hlk hW hf (rok_i _) dX7_worst_32
    · replace hf := (if_pos h9).symm.trans hf
      refine lv_iconst (v := (-1)) C.1.1 C.1.2.1 dX7_worst_16 (by decide) ?_
      exact ri hQ C hr hlk hW hf (rok_i _) dX7_worst_17
theorem kvX7_peak : KV 7 "RightKeysModel" yX7_peak cX7_peak 3 (some .int) 2 := ⟨⟨w_1575, w_1576, w_116, w_1577⟩, ⟨rfl, by decide, by decide, by decide +kernel⟩, by decide, rfl⟩
noncomputable def fX7_peak (a0 : Nat) (p1 : Int32) (p2 : Int32) (σ : Sg) : Option (Int32 × Sg) := (fX7_isSome p1 σ).bind (fun q5 => let r3 := q5.1; let σ2 := q5.2; if r3 = 0 then (some ((-1 : Int32), σ2)) else ((fX7_in p2 (0 : Int32) (1 : Int32) σ2).bind (fun q10 => let r8 := q10.1; let σ7 := q10.2; if r8 = 0 then (some ((-1 : Int32), σ7)) else ((fX7_copiesStill a0 σ7).bind (fun σ12 => (fX7_standsFor a0 p1 σ12).bind (fun σ17 => if p2 = 0 then (some ((σ17.1 a0 59), σ17)) else (some ((σ17.1 a0 60), σ17))))))))
set_option maxRecDepth 100000 in
set_option maxHeartbeats 4000000 in
theorem mX7_peak {l : Launch} {G : Gm} {a0 : Nat} {p1 : Int32} {p2 : Int32} {σ : Sg} {r : Int32} {σ' : Sg} (hk_a0 : gK G a0 = 8) (hf : fX7_peak a0 p1 p2 σ = some (r, σ')) : Mi l G yX7_peak cX7_peak 3 .int 8 185 [.ref (gB G + a0), .int p1, .int p2] σ r σ' := by
  refine of_W "RightKeysModel" rfl (by decide) (Nat.le_of_ble_eq_true rfl) ?_
  intro p e s m args below meth c Q hQ C hr hlk hW ls hl
  have h00 := hW.1
  have hl : lv_has ls 3 [(0, .ref (gB G + a0)), (1, .int p1), (2, .int p2)] := hl
  delta fX7_peak at hf
  refine lv_iload_n C.1.1 C.1.2.1 dX7_peak_0 rfl (lv_at hl 1 rfl) ?_
  obtain ⟨⟨r3, σ2⟩, hc1, hf⟩ := bd hf
  try dsimp only at hf
  refine cSi C hW (mX7_isSome hc1) ksX7_isSome w_1528 ⟨(Nat.le_of_ble_eq_true rfl), (Nat.le_of_ble_eq_true rfl)⟩ ⟨Nat.zero_le _, Nat.zero_le _⟩ rfl hl.1 (rest := []) rfl (Nat.le_of_ble_eq_true rfl) dX7_peak_1 (fun H locs hn4 hW => ?_)
  refine lv_if_eq (tgt := 16) C.1.1 C.1.2.1 dX7_peak_4 (by decide) (fun h9 => ?_) (fun h9 => ?_)
  · replace hf := (if_pos h9).symm.trans hf
    refine lv_iconst (v := (-1)) C.1.1 C.1.2.1 dX7_peak_16 (by decide) ?_
    exact ri hQ C hr hlk hW hf (rok_i _) dX7_peak_17
  · replace hf := (if_neg h9).symm.trans hf
    refine lv_iload_n C.1.1 C.1.2.1 dX7_peak_7 rfl (lv_at hl 2 rfl) ?_
    refine lv_iconst (v := 0) C.1.1 C.1.2.1 dX7_peak_8 (by decide) ?_
    refine lv_iconst (v := 1) C.1.1 C.1.2.1 dX7_peak_9 (by decide) ?_
    obtain ⟨⟨r8, σ7⟩, hc6, hf⟩ := bd hf
    try dsimp only at hf
    refine cSi C hW (mX7_in hc6) ksX7_in w_1351 ⟨(Nat.le_of_ble_eq_true rfl), (Nat.le_of_ble_eq_true rfl)⟩ ⟨Nat.zero_le _, Nat.zero_le _⟩ rfl hl.1 (rest := []) rfl (Nat.le_of_ble_eq_true rfl) dX7_peak_10 (fun H locs hn9 hW => ?_)
    refine lv_if_ne (tgt := 18) C.1.1 C.1.2.1 dX7_peak_13 (by decide) (fun h9 => ?_) (fun h9 => ?_)
    · replace hf := (if_neg h9).symm.trans hf
      refine lv_aload_n C.1.1 C.1.2.1 dX7_peak_18 rfl (lv_at hl 0 rfl) ?_
      obtain ⟨σ12, hc11, hf⟩ := bd hf
      try dsimp only at hf
      refine cVv C hW (mX7_copiesStill hk_a0 hc11) hk_a0 kvX7_copiesStill w_1531 ⟨(Nat.le_of_ble_eq_true rfl), (Nat.le_of_ble_eq_true rfl)⟩ ⟨Nat.zero_le _, Nat.zero_le _⟩ rfl hl.1 (rest := []) rfl (Nat.le_of_ble_eq_true rfl) dX7_peak_19 (fun H locs hW => ?_)
      refine lv_aload_n C.1.1 C.1.2.1 dX7_peak_22 rfl (lv_at hl 0 rfl) ?_
      refine lv_iload_n C.1.1 C.1.2.1 dX7_peak_23 rfl (lv_at hl 1 rfl) ?_
      obtain ⟨σ17, hc16, hf⟩ := bd hf
      try dsimp only at hf
      refine cVv C hW (mX7_standsFor hk_a0 hc16) hk_a0 kvX7_standsFor w_1535 ⟨(Nat.le_of_ble_eq_true rfl), (Nat.le_of_ble_eq_true rfl)⟩ ⟨Nat.zero_le _, Nat.zero_le _⟩ rfl hl.1 (rest := []) rfl (Nat.le_of_ble_eq_true rfl) dX7_peak_24 (fun H locs hW => ?_)
      refine lv_iload_n C.1.1 C.1.2.1 dX7_peak_27 rfl (lv_at hl 2 rfl) ?_
      refine lv_if_ne (tgt := 38) C.1.1 C.1.2.1 dX7_peak_28 (by decide) (fun h9 => ?_) (fun h9 => ?_)
      · replace hf := (if_neg h9).symm.trans hf
        refine lv_aload_n C.1.1 C.1.2.1 dX7_peak_38 rfl (lv_at hl 0 rfl) ?_
        refine gf7_60 C hW hk_a0 w_1090 dX7_peak_39 ?_
        exact ri hQ C hr hlk hW hf (rok_i _) dX7_peak_42
      · replace hf := (if_pos h9).symm.trans hf
        refine lv_aload_n C.1.1 C.1.2.1 dX7_peak_31 rfl (lv_at hl 0 rfl) ?_
        refine gf7_59 C hW hk_a0 w_1089 dX7_peak_32 ?_
        refine lv_goto (tgt := 42) C.1.1 C.1.2.1 dX7_peak_35 (by decide) ?_
        exact ri hQ C hr hlk hW hf (rok_i _) dX7_peak_42
    · replace hf := (if_pos h9).symm.trans hf
      refine lv_iconst (v := (-1)) C.1.1 C.1.2.1 dX7_peak_16 (by decide) ?_
      exact ri hQ C hr hlk hW hf (rok_i _) dX7_peak_17
theorem kvX7_gain : KV 7 "RightKeysModel" yX7_gain cX7_gain 3 (some .int) 1 := ⟨⟨w_1579, w_1580, w_116, w_1581⟩, ⟨rfl, by decide, by decide, by decide +kernel⟩, by decide, rfl⟩
noncomputable def fX7_gain (a0 : Nat) (p1 : Int32) (σ : Sg) : Option (Int32 × Sg) := (fX7_isSpare a0 p1 σ).bind (fun q5 => let r3 := q5.1; let σ2 := q5.2; if r3 = 0 then (some ((-100000 : Int32), σ2)) else ((fX7_copiesStill a0 σ2).bind (fun σ7 => (fX7_standsFor a0 (72 : Int32) σ7).bind (fun σ12 => (let x2_16 := (σ12.1 a0 56); (fX7_copiesStill a0 σ12).bind (fun σ18 => if vin (((6 : Int32) * (σ18.1 a0 18)) + p1) 12 then (if vin ((72 : Int32) + p1) 88 then (let σ26 := wI σ18 (a0 + 31) ((((72 : Int32) + p1)).toNatClampNeg) (σ18.1 (a0 + 15) (((((6 : Int32) * (σ18.1 a0 18)) + p1)).toNatClampNeg)); (fX7_standsFor a0 (72 : Int32) σ26).bind (fun σ28 => some ((x2_16 - (σ28.1 a0 56)), σ28))) else none) else none))))))
set_option maxRecDepth 100000 in
set_option maxHeartbeats 4000000 in
theorem mX7_gain {l : Launch} {G : Gm} {a0 : Nat} {p1 : Int32} {σ : Sg} {r : Int32} {σ' : Sg} (hk_a0 : gK G a0 = 8) (hf : fX7_gain a0 p1 σ = some (r, σ')) : Mi l G yX7_gain cX7_gain 3 .int 8 185 [.ref (gB G + a0), .int p1] σ r σ' := by
  refine of_W "RightKeysModel" rfl (by decide) (Nat.le_of_ble_eq_true rfl) ?_
  intro p e s m args below meth c Q hQ C hr hlk hW ls hl
  have h00 := hW.1
  have hl : lv_has ls 3 [(0, .ref (gB G + a0)), (1, .int p1)] := hl
  delta fX7_gain at hf
  refine lv_aload_n C.1.1 C.1.2.1 dX7_gain_0 rfl (lv_at hl 0 rfl) ?_
  refine lv_iload_n C.1.1 C.1.2.1 dX7_gain_1 rfl (lv_at hl 1 rfl) ?_
  obtain ⟨⟨r3, σ2⟩, hc1, hf⟩ := bd hf
  try dsimp only at hf
  refine cVi C hW (mX7_isSpare hk_a0 hc1) hk_a0 kvX7_isSpare w_1392 ⟨(Nat.le_of_ble_eq_true rfl), (Nat.le_of_ble_eq_true rfl)⟩ ⟨Nat.zero_le _, Nat.zero_le _⟩ rfl hl.1 (rest := []) rfl (Nat.le_of_ble_eq_true rfl) dX7_gain_2 (fun H locs hn4 hW => ?_)
  refine lv_if_ne (tgt := 12) C.1.1 C.1.2.1 dX7_gain_5 (by decide) (fun h9 => ?_) (fun h9 => ?_)
  · replace hf := (if_neg h9).symm.trans hf
    refine lv_aload_n C.1.1 C.1.2.1 dX7_gain_12 rfl (lv_at hl 0 rfl) ?_
    obtain ⟨σ7, hc6, hf⟩ := bd hf
    try dsimp only at hf
    refine cVv C hW (mX7_copiesStill hk_a0 hc6) hk_a0 kvX7_copiesStill w_1531 ⟨(Nat.le_of_ble_eq_true rfl), (Nat.le_of_ble_eq_true rfl)⟩ ⟨Nat.zero_le _, Nat.zero_le _⟩ rfl hl.1 (rest := []) rfl (Nat.le_of_ble_eq_true rfl) dX7_gain_13 (fun H locs hW => ?_)
    refine lv_aload_n C.1.1 C.1.2.1 dX7_gain_16 rfl (lv_at hl 0 rfl) ?_
    refine lv_bipush (v := 72) C.1.1 C.1.2.1 dX7_gain_17 (by decide) ?_
    obtain ⟨σ12, hc11, hf⟩ := bd hf
    try dsimp only at hf
    refine cVv C hW (mX7_standsFor hk_a0 hc11) hk_a0 kvX7_standsFor w_1535 ⟨(Nat.le_of_ble_eq_true rfl), (Nat.le_of_ble_eq_true rfl)⟩ ⟨Nat.zero_le _, Nat.zero_le _⟩ rfl hl.1 (rest := []) rfl (Nat.le_of_ble_eq_true rfl) dX7_gain_19 (fun H locs hW => ?_)
    refine lv_aload_n C.1.1 C.1.2.1 dX7_gain_22 rfl (lv_at hl 0 rfl) ?_
    refine gf7_56 C hW hk_a0 w_1086 dX7_gain_23 ?_
    refine lv_istore_n (lv' := [(2, .int _), (0, .ref _), (1, .int _)]) C.1.1 C.1.2.1 dX7_gain_26 rfl hl (by decide) rfl (fun ls hl => ?_)
    refine lv_aload_n C.1.1 C.1.2.1 dX7_gain_27 rfl (lv_at hl 1 rfl) ?_
    obtain ⟨σ18, hc17, hf⟩ := bd hf
    try dsimp only at hf
    refine cVv C hW (mX7_copiesStill hk_a0 hc17) hk_a0 kvX7_copiesStill w_1531 ⟨(Nat.le_of_ble_eq_true rfl), (Nat.le_of_ble_eq_true rfl)⟩ ⟨Nat.zero_le _, Nat.zero_le _⟩ rfl hl.1 (rest := []) rfl (Nat.le_of_ble_eq_true rfl) dX7_gain_28 (fun H locs hW => ?_)
    refine lv_aload_n C.1.1 C.1.2.1 dX7_gain_31 rfl (lv_at hl 1 rfl) ?_
    have hk22 := sh7_48 hW hk_a0
    refine gf7_48 C hW hk_a0 w_1078 dX7_gain_32 ?_
    refine lv_bipush (v := 72) C.1.1 C.1.2.1 dX7_gain_35 (by decide) ?_
    refine lv_iload_n C.1.1 C.1.2.1 dX7_gain_37 rfl (lv_at hl 2 rfl) ?_
    refine lv_iadd C.1.1 C.1.2.1 dX7_gain_38 ?_
    refine lv_aload_n C.1.1 C.1.2.1 dX7_gain_39 rfl (lv_at hl 1 rfl) ?_
    have hk23 := sh7_28 hW hk_a0
    refine gf7_28 C hW hk_a0 w_1058 dX7_gain_40 ?_
    refine lv_bipush (v := 6) C.1.1 C.1.2.1 dX7_gain_43 (by decide) ?_
    refine lv_aload_n C.1.1 C.1.2.1 dX7_gain_45 rfl (lv_at hl 1 rfl) ?_
    refine gf7_18 C hW hk_a0 w_1048 dX7_gain_46 ?_
    refine lv_imul C.1.1 C.1.2.1 dX7_gain_49 ?_
    refine lv_iload_n C.1.1 C.1.2.1 dX7_gain_50 rfl (lv_at hl 2 rfl) ?_
    refine lv_iadd C.1.1 C.1.2.1 dX7_gain_51 ?_
    obtain ⟨hv24, hf⟩ := gd hf
    refine wai C hW hk23 (vin_p hv24) dX7_gain_52 ?_
    obtain ⟨hv25, hf⟩ := gd hf
    refine wsi C hW hk22 (vin_p hv25) dX7_gain_53 (fun H locs hW => ?_)
    refine lv_aload_n C.1.1 C.1.2.1 dX7_gain_54 rfl (lv_at hl 1 rfl) ?_
    refine lv_bipush (v := 72) C.1.1 C.1.2.1 dX7_gain_55 (by decide) ?_
    obtain ⟨σ28, hc27, hf⟩ := bd hf
    try dsimp only at hf
    refine cVv C hW (mX7_standsFor hk_a0 hc27) hk_a0 kvX7_standsFor w_1535 ⟨(Nat.le_of_ble_eq_true rfl), (Nat.le_of_ble_eq_true rfl)⟩ ⟨Nat.zero_le _, Nat.zero_le _⟩ rfl hl.1 (rest := []) rfl (Nat.le_of_ble_eq_true rfl) dX7_gain_57 (fun H locs hW => ?_)
    refine lv_iload_n C.1.1 C.1.2.1 dX7_gain_60 rfl (lv_at hl 0 rfl) ?_
    refine lv_aload_n C.1.1 C.1.2.1 dX7_gain_61 rfl (lv_at hl 1 rfl) ?_
    refine gf7_56 C hW hk_a0 w_1086 dX7_gain_62 ?_
    refine lv_isub C.1.1 C.1.2.1 dX7_gain_65 ?_
    exact ri hQ C hr hlk hW hf (rok_i _) dX7_gain_66
  · replace hf := (if_pos h9).symm.trans hf
    refine lv_ldcw (v := (-100000)) C.1.1 C.1.2.1 C.1.2.2.2.1 (C.w w_1582) dX7_gain_8 ?_
    exact ri hQ C hr hlk hW hf (rok_i _) dX7_gain_11
theorem kvX7_by : KV 7 "RightKeysModel" yX7_by cX7_by 2 (some .int) 1 := ⟨⟨w_1584, w_1585, w_116, w_1586⟩, ⟨rfl, by decide, by decide, by decide +kernel⟩, by decide, rfl⟩
noncomputable def fX7_by (a0 : Nat) (p1 : Int32) (σ : Sg) : Option (Int32 × Sg) := (fX7_isHouse a0 p1 σ).bind (fun q5 => let r3 := q5.1; let σ2 := q5.2; if r3 = 0 then (some ((-1 : Int32), σ2)) else (if vin ((64 : Int32) + p1) 88 then (some ((σ2.1 (a0 + 30) ((((64 : Int32) + p1)).toNatClampNeg)), σ2)) else none))
set_option maxRecDepth 100000 in
set_option maxHeartbeats 4000000 in
theorem mX7_by {l : Launch} {G : Gm} {a0 : Nat} {p1 : Int32} {σ : Sg} {r : Int32} {σ' : Sg} (hk_a0 : gK G a0 = 8) (hf : fX7_by a0 p1 σ = some (r, σ')) : Mi l G yX7_by cX7_by 2 .int 2 43 [.ref (gB G + a0), .int p1] σ r σ' := by
  refine of_W "RightKeysModel" rfl (by decide) (Nat.le_of_ble_eq_true rfl) ?_
  intro p e s m args below meth c Q hQ C hr hlk hW ls hl
  have h00 := hW.1
  have hl : lv_has ls 2 [(0, .ref (gB G + a0)), (1, .int p1)] := hl
  delta fX7_by at hf
  refine lv_aload_n C.1.1 C.1.2.1 dX7_by_0 rfl (lv_at hl 0 rfl) ?_
  refine lv_iload_n C.1.1 C.1.2.1 dX7_by_1 rfl (lv_at hl 1 rfl) ?_
  obtain ⟨⟨r3, σ2⟩, hc1, hf⟩ := bd hf
  try dsimp only at hf
  refine cVi C hW (mX7_isHouse hk_a0 hc1) hk_a0 kvX7_isHouse w_1347 ⟨(Nat.le_of_ble_eq_true rfl), (Nat.le_of_ble_eq_true rfl)⟩ ⟨Nat.zero_le _, Nat.zero_le _⟩ rfl hl.1 (rest := []) rfl (Nat.le_of_ble_eq_true rfl) dX7_by_2 (fun H locs hn4 hW => ?_)
  refine lv_if_eq (tgt := 20) C.1.1 C.1.2.1 dX7_by_5 (by decide) (fun h9 => ?_) (fun h9 => ?_)
  · replace hf := (if_pos h9).symm.trans hf
    refine lv_iconst (v := (-1)) C.1.1 C.1.2.1 dX7_by_20 (by decide) ?_
    exact ri hQ C hr hlk hW hf (rok_i _) dX7_by_21
  · replace hf := (if_neg h9).symm.trans hf
    refine lv_aload_n C.1.1 C.1.2.1 dX7_by_8 rfl (lv_at hl 0 rfl) ?_
    have hk6 := sh7_47 hW hk_a0
    refine gf7_47 C hW hk_a0 w_1077 dX7_by_9 ?_
    refine lv_bipush (v := 64) C.1.1 C.1.2.1 dX7_by_12 (by decide) ?_
    refine lv_iload_n C.1.1 C.1.2.1 dX7_by_14 rfl (lv_at hl 1 rfl) ?_
    refine lv_iadd C.1.1 C.1.2.1 dX7_by_15 ?_
    obtain ⟨hv7, hf⟩ := gd hf
    refine wai C hW hk6 (vin_p hv7) dX7_by_16 ?_
    refine lv_goto (tgt := 21) C.1.1 C.1.2.1 dX7_by_17 (by decide) ?_
    exact ri hQ C hr hlk hW hf (rok_i _) dX7_by_21
theorem kvX7_daysTo : KV 7 "RightKeysModel" yX7_daysTo cX7_daysTo 3 (some .int) 2 := ⟨⟨w_1593, w_104, w_116, w_1594⟩, ⟨rfl, by decide, by decide, by decide +kernel⟩, by decide, rfl⟩
noncomputable def fX7_daysTo (a0 : Nat) (p1 : Int32) (p2 : Int32) (σ : Sg) : Option (Int32 × Sg) := if vin (σ.1 a0 18) 2 then (if vin ((72 : Int32) + p1) 88 then ((if ¬ (σ.1 (a0 + 9) (((σ.1 a0 18)).toNatClampNeg)) = 0 then (some ((irem ((p2 + (σ.1 (a0 + 9) (((σ.1 a0 18)).toNatClampNeg))) - (σ.1 (a0 + 30) ((((72 : Int32) + p1)).toNatClampNeg))) (σ.1 (a0 + 9) (((σ.1 a0 18)).toNatClampNeg))), σ)) else none)) else none) else none
set_option maxRecDepth 100000 in
set_option maxHeartbeats 4000000 in
theorem mX7_daysTo {l : Launch} {G : Gm} {a0 : Nat} {p1 : Int32} {p2 : Int32} {σ : Sg} {r : Int32} {σ' : Sg} (hk_a0 : gK G a0 = 8) (hf : fX7_daysTo a0 p1 p2 σ = some (r, σ')) : Mi l G yX7_daysTo cX7_daysTo 3 .int 0 0 [.ref (gB G + a0), .int p1, .int p2] σ r σ' := by
  refine of_W "RightKeysModel" rfl (by decide) (Nat.le_of_ble_eq_true rfl) ?_
  intro p e s m args below meth c Q hQ C hr hlk hW ls hl
  have h00 := hW.1
  have hl : lv_has ls 3 [(0, .ref (gB G + a0)), (1, .int p1), (2, .int p2)] := hl
  delta fX7_daysTo at hf
  refine lv_iload_n C.1.1 C.1.2.1 dX7_daysTo_0 rfl (lv_at hl 2 rfl) ?_
  refine lv_aload_n C.1.1 C.1.2.1 dX7_daysTo_1 rfl (lv_at hl 0 rfl) ?_
  have hk1 := sh7_22 hW hk_a0
  refine gf7_22 C hW hk_a0 w_1052 dX7_daysTo_2 ?_
  refine lv_aload_n C.1.1 C.1.2.1 dX7_daysTo_5 rfl (lv_at hl 0 rfl) ?_
  refine gf7_18 C hW hk_a0 w_1048 dX7_daysTo_6 ?_
  obtain ⟨hv2, hf⟩ := gd hf
  refine wai C hW hk1 (vin_p hv2) dX7_daysTo_9 ?_
  refine lv_iadd C.1.1 C.1.2.1 dX7_daysTo_10 ?_
  refine lv_aload_n C.1.1 C.1.2.1 dX7_daysTo_11 rfl (lv_at hl 0 rfl) ?_
  have hk3 := sh7_47 hW hk_a0
  refine gf7_47 C hW hk_a0 w_1077 dX7_daysTo_12 ?_
  refine lv_bipush (v := 72) C.1.1 C.1.2.1 dX7_daysTo_15 (by decide) ?_
  refine lv_iload_n C.1.1 C.1.2.1 dX7_daysTo_17 rfl (lv_at hl 1 rfl) ?_
  refine lv_iadd C.1.1 C.1.2.1 dX7_daysTo_18 ?_
  obtain ⟨hv4, hf⟩ := gd hf
  refine wai C hW hk3 (vin_p hv4) dX7_daysTo_19 ?_
  refine lv_isub C.1.1 C.1.2.1 dX7_daysTo_20 ?_
  refine lv_aload_n C.1.1 C.1.2.1 dX7_daysTo_21 rfl (lv_at hl 0 rfl) ?_
  have hk5 := sh7_22 hW hk_a0
  refine gf7_22 C hW hk_a0 w_1052 dX7_daysTo_22 ?_
  refine lv_aload_n C.1.1 C.1.2.1 dX7_daysTo_25 rfl (lv_at hl 0 rfl) ?_
  refine gf7_18 C hW hk_a0 w_1048 dX7_daysTo_26 ?_
  refine wai C hW hk5 (vin_p hv2) dX7_daysTo_29 ?_
  obtain ⟨hz6, hf⟩ := gd hf
  refine lv_irem C.1.1 C.1.2.1 dX7_daysTo_30 hz6 ?_
  exact ri hQ C hr hlk hW hf (rok_i _) dX7_daysTo_31
theorem kvX7_days : KV 7 "RightKeysModel" yX7_days cX7_days 3 (some .int) 2 := ⟨⟨w_1588, w_1589, w_116, w_1590⟩, ⟨rfl, by decide, by decide, by decide +kernel⟩, by decide, rfl⟩
noncomputable def fX7_days (a0 : Nat) (p1 : Int32) (p2 : Int32) (σ : Sg) : Option (Int32 × Sg) := (fX7_isSpare a0 p1 σ).bind (fun q5 => let r3 := q5.1; let σ2 := q5.2; if r3 = 0 then (some ((-1 : Int32), σ2)) else ((fX7_isHouse a0 p2 σ2).bind (fun q10 => let r8 := q10.1; let σ7 := q10.2; if r8 = 0 then (some ((-1 : Int32), σ7)) else ((fX7_daysTo a0 p1 p2 σ7).bind (fun q15 => let r13 := q15.1; let σ12 := q15.2; some (r13, σ12))))))
set_option maxRecDepth 100000 in
set_option maxHeartbeats 4000000 in
theorem mX7_days {l : Launch} {G : Gm} {a0 : Nat} {p1 : Int32} {p2 : Int32} {σ : Sg} {r : Int32} {σ' : Sg} (hk_a0 : gK G a0 = 8) (hf : fX7_days a0 p1 p2 σ = some (r, σ')) : Mi l G yX7_days cX7_days 3 .int 2 43 [.ref (gB G + a0), .int p1, .int p2] σ r σ' := by
  refine of_W "RightKeysModel" rfl (by decide) (Nat.le_of_ble_eq_true rfl) ?_
  intro p e s m args below meth c Q hQ C hr hlk hW ls hl
  have h00 := hW.1
  have hl : lv_has ls 3 [(0, .ref (gB G + a0)), (1, .int p1), (2, .int p2)] := hl
  delta fX7_days at hf
  refine lv_aload_n C.1.1 C.1.2.1 dX7_days_0 rfl (lv_at hl 0 rfl) ?_
  refine lv_iload_n C.1.1 C.1.2.1 dX7_days_1 rfl (lv_at hl 1 rfl) ?_
  obtain ⟨⟨r3, σ2⟩, hc1, hf⟩ := bd hf
  try dsimp only at hf
  refine cVi C hW (mX7_isSpare hk_a0 hc1) hk_a0 kvX7_isSpare w_1392 ⟨(Nat.le_of_ble_eq_true rfl), (Nat.le_of_ble_eq_true rfl)⟩ ⟨Nat.zero_le _, Nat.zero_le _⟩ rfl hl.1 (rest := []) rfl (Nat.le_of_ble_eq_true rfl) dX7_days_2 (fun H locs hn4 hW => ?_)
  refine lv_if_eq (tgt := 25) C.1.1 C.1.2.1 dX7_days_5 (by decide) (fun h9 => ?_) (fun h9 => ?_)
  · replace hf := (if_pos h9).symm.trans hf
    refine lv_iconst (v := (-1)) C.1.1 C.1.2.1 dX7_days_25 (by decide) ?_
    exact ri hQ C hr hlk hW hf (rok_i _) dX7_days_26
  · replace hf := (if_neg h9).symm.trans hf
    refine lv_aload_n C.1.1 C.1.2.1 dX7_days_8 rfl (lv_at hl 0 rfl) ?_
    refine lv_iload_n C.1.1 C.1.2.1 dX7_days_9 rfl (lv_at hl 2 rfl) ?_
    obtain ⟨⟨r8, σ7⟩, hc6, hf⟩ := bd hf
    try dsimp only at hf
    refine cVi C hW (mX7_isHouse hk_a0 hc6) hk_a0 kvX7_isHouse w_1347 ⟨(Nat.le_of_ble_eq_true rfl), (Nat.le_of_ble_eq_true rfl)⟩ ⟨Nat.zero_le _, Nat.zero_le _⟩ rfl hl.1 (rest := []) rfl (Nat.le_of_ble_eq_true rfl) dX7_days_10 (fun H locs hn9 hW => ?_)
    refine lv_if_eq (tgt := 25) C.1.1 C.1.2.1 dX7_days_13 (by decide) (fun h9 => ?_) (fun h9 => ?_)
    · replace hf := (if_pos h9).symm.trans hf
      refine lv_iconst (v := (-1)) C.1.1 C.1.2.1 dX7_days_25 (by decide) ?_
      exact ri hQ C hr hlk hW hf (rok_i _) dX7_days_26
    · replace hf := (if_neg h9).symm.trans hf
      refine lv_aload_n C.1.1 C.1.2.1 dX7_days_16 rfl (lv_at hl 0 rfl) ?_
      refine lv_iload_n C.1.1 C.1.2.1 dX7_days_17 rfl (lv_at hl 1 rfl) ?_
      refine lv_iload_n C.1.1 C.1.2.1 dX7_days_18 rfl (lv_at hl 2 rfl) ?_
      obtain ⟨⟨r13, σ12⟩, hc11, hf⟩ := bd hf
      try dsimp only at hf
      refine cVi C hW (mX7_daysTo hk_a0 hc11) hk_a0 kvX7_daysTo w_1591 ⟨(Nat.le_of_ble_eq_true rfl), (Nat.le_of_ble_eq_true rfl)⟩ ⟨Nat.zero_le _, Nat.zero_le _⟩ rfl hl.1 (rest := []) rfl (Nat.le_of_ble_eq_true rfl) dX7_days_19 (fun H locs hn14 hW => ?_)
      refine lv_goto (tgt := 26) C.1.1 C.1.2.1 dX7_days_22 (by decide) ?_
      exact ri hQ C hr hlk hW hf (rok_i _) dX7_days_26
theorem kvX7_soonest : KV 7 "RightKeysModel" yX7_soonest cX7_soonest 5 (some .int) 2 := ⟨⟨w_1596, w_1597, w_116, w_1598⟩, ⟨rfl, by decide, by decide, by decide +kernel⟩, by decide, rfl⟩
noncomputable def jX7_soonest_81 (a0 : Nat) (p1 : Int32) (p2 : Int32) (x3 : Int32) (x4 : Int32) (σ : Sg) : Option ((Int32 × Int32 × Sg) ⊕ (Int32 × Sg)) := (let x4_15 := x4 + (1 : Int32); some (Sum.inl (x3, x4_15, σ)))
noncomputable def jX7_soonest_78 (a0 : Nat) (p1 : Int32) (p2 : Int32) (x4 : Int32) (σ : Sg) : Option ((Int32 × Int32 × Sg) ⊕ (Int32 × Sg)) := jX7_soonest_81 a0 p1 p2 x4 x4 σ
noncomputable def bX7_soonest_25 (a0 : Nat) (p1 : Int32) (p2 : Int32) (x3 : Int32) (x4 : Int32) (σ : Sg) : Option ((Int32 × Int32 × Sg) ⊕ (Int32 × Sg)) := if vin (σ.1 a0 18) 2 then (if (σ.1 (a0 + 14) (((σ.1 a0 18)).toNatClampNeg)) ≤ x4 then (some (Sum.inr (x3, σ))) else (if vin (((6 : Int32) * (σ.1 a0 18)) + x4) 12 then (if (σ.1 (a0 + 15) (((((6 : Int32) * (σ.1 a0 18)) + x4)).toNatClampNeg)) = p1 then (if x3 < 0 then (jX7_soonest_78 a0 p1 p2 x4 σ) else ((fX7_daysTo a0 x4 p1 σ).bind (fun q20 => let r18 := q20.1; let σ17 := q20.2; (fX7_daysTo a0 x3 p1 σ17).bind (fun q25 => let r23 := q25.1; let σ22 := q25.2; if r23 ≤ r18 then (jX7_soonest_81 a0 p1 p2 x3 x4 σ22) else (jX7_soonest_78 a0 p1 p2 x4 σ22))))) else (jX7_soonest_81 a0 p1 p2 x3 x4 σ)) else none)) else none
noncomputable def jX7_soonest_95 (a0 : Nat) (p1 : Int32) (p2 : Int32) (x3 : Int32) (σ : Sg) : Option (Int32 × Sg) := some (x3, σ)
noncomputable def fX7_soonest (a0 : Nat) (p1 : Int32) (p2 : Int32) (σ : Sg) : Option (Int32 × Sg) := (fX7_isHouse a0 p1 σ).bind (fun q5 => let r3 := q5.1; let σ2 := q5.2; if r3 = 0 then (some ((-1 : Int32), σ2)) else ((fX7_in p2 (0 : Int32) (1 : Int32) σ2).bind (fun q10 => let r8 := q10.1; let σ7 := q10.2; if r8 = 0 then (some ((-1 : Int32), σ7)) else ((lp (fun st => bX7_soonest_25 a0 p1 p2 st.1 st.2.1 st.2.2) ((-2 : Int32), (0 : Int32), σ7)).bind (fun q34 => let y28 := q34.1; let σ27 := q34.2;  if y28 < 0 then (jX7_soonest_95 a0 p1 p2 y28 σ27) else (if p2 = 0 then (jX7_soonest_95 a0 p1 p2 y28 σ27) else ((fX7_daysTo a0 y28 p1 σ27).bind (fun q33 => let r31 := q33.1; let σ30 := q33.2; some (r31, σ30)))))))))
set_option maxRecDepth 100000 in
set_option maxHeartbeats 4000000 in
theorem mX7_soonest {l : Launch} {G : Gm} {a0 : Nat} {p1 : Int32} {p2 : Int32} {σ : Sg} {r : Int32} {σ' : Sg} (hk_a0 : gK G a0 = 8) (hf : fX7_soonest a0 p1 p2 σ = some (r, σ')) : Mi l G yX7_soonest cX7_soonest 5 .int 2 43 [.ref (gB G + a0), .int p1, .int p2] σ r σ' := by
  refine of_W "RightKeysModel" rfl (by decide) (Nat.le_of_ble_eq_true rfl) ?_
  intro p e s m args below meth c Q hQ C hr hlk hW ls hl
  have h00 := hW.1
  have hl : lv_has ls 5 [(0, .ref (gB G + a0)), (1, .int p1), (2, .int p2)] := hl
  delta fX7_soonest at hf
  have L25 : ∀ (n : Nat) (x3 : Int32) (x4 : Int32) (σ : Sg) (H : Heap) (locs : List Loc) (ls : Array Slot) (out : (Int32 × Sg)), iter (fun st => bX7_soonest_25 a0 p1 p2 st.1 st.2.1 st.2.2) n (x3, x4, σ) = some out → Ws G σ s.heap H locs → lv_has ls 5 [(0, .ref (gB G + a0)), (1, .int p1), (2, .int p2), (3, .int x3), (4, .int x4)] → (∀ (y3 : Int32) (σ : Sg) (H : Heap) (locs : List Loc) (ls : Array Slot), out = (y3, σ) → Ws G σ s.heap H locs → lv_has ls 5 [(0, .ref (gB G + a0)), (1, .int p1), (2, .int p2), (3, .int y3)] → W p l e (rmOf 2 43) s m args below meth c H locs 0 0 Q (F0 m 87 ls [])) → W p l e (rmOf 2 43) s m args below meth c H locs 0 0 Q (F0 m 25 ls []) := by
    intro n
    induction n with
    | zero =>
      intro x3 x4 σ H locs ls out hf
      exact (it_0 hf).elim
    | succ n ih =>
      intro x3 x4 σ H locs ls out hf hW hl K25_87
      obtain ⟨x, hf, hx⟩ := it_s hf
      have hf : bX7_soonest_25 a0 p1 p2 x3 x4 σ = some x := hf
      delta bX7_soonest_25 at hf
      have J81 : ∀ (x3 : Int32) (x4 : Int32) (σ : Sg) (H : Heap) (locs : List Loc) (ls : Array Slot), jX7_soonest_81 a0 p1 p2 x3 x4 σ = some x → Ws G σ s.heap H locs → lv_has ls 5 [(0, .ref (gB G + a0)), (1, .int p1), (2, .int p2), (3, .int x3), (4, .int x4)] → W p l e (rmOf 2 43) s m args below meth c H locs 0 0 Q (F0 m 81 ls []) := by
        intro x3 x4 σ H locs ls hf hW hl
        delta jX7_soonest_81 at hf
        refine lv_iinc (v := _) (lv' := [(4, .int _), (0, .ref _), (1, .int _), (2, .int _), (3, .int _)]) C.1.1 C.1.2.1 dX7_soonest_81 hl (k := 4) rfl (ii (k := 1) (by decide)) (by decide) rfl (fun ls hl => ?_)
        refine lv_goto (tgt := 25) C.1.1 C.1.2.1 dX7_soonest_84 (by decide) ?_
        cases hf
        exact ih _ _ _ _ _ _ _ hx hW (lv_sub hl [1, 2, 3, 4, 0] rfl) K25_87
      have J78 : ∀ (x4 : Int32) (σ : Sg) (H : Heap) (locs : List Loc) (ls : Array Slot), jX7_soonest_78 a0 p1 p2 x4 σ = some x → Ws G σ s.heap H locs → lv_has ls 5 [(0, .ref (gB G + a0)), (1, .int p1), (2, .int p2), (4, .int x4)] → W p l e (rmOf 2 43) s m args below meth c H locs 0 0 Q (F0 m 78 ls []) := by
        intro x4 σ H locs ls hf hW hl
        delta jX7_soonest_78 at hf
        refine lv_iload C.1.1 C.1.2.1 dX7_soonest_78 (lv_at hl 3 rfl) ?_
        refine lv_istore_n (lv' := [(3, .int _), (0, .ref _), (1, .int _), (2, .int _), (4, .int _)]) C.1.1 C.1.2.1 dX7_soonest_80 rfl hl (by decide) rfl (fun ls hl => ?_)
        exact J81 _ _ _ _ _ _ hf hW (lv_sub hl [1, 2, 3, 0, 4] rfl)
      refine lv_iload C.1.1 C.1.2.1 dX7_soonest_25 (lv_at hl 4 rfl) ?_
      refine lv_aload_n C.1.1 C.1.2.1 dX7_soonest_27 rfl (lv_at hl 0 rfl) ?_
      have hk11 := sh7_27 hW hk_a0
      refine gf7_27 C hW hk_a0 w_1057 dX7_soonest_28 ?_
      refine lv_aload_n C.1.1 C.1.2.1 dX7_soonest_31 rfl (lv_at hl 0 rfl) ?_
      refine gf7_18 C hW hk_a0 w_1048 dX7_soonest_32 ?_
      obtain ⟨hv12, hf⟩ := gd hf
      refine wai C hW hk11 (vin_p hv12) dX7_soonest_35 ?_
      refine lv_icmp_ge (tgt := 87) C.1.1 C.1.2.1 dX7_soonest_36 (by decide) (fun h9 => ?_) (fun h9 => ?_)
      · replace hf := (if_pos h9).symm.trans hf
        cases hf
        cases hx
        exact K25_87 _ _ _ _ _ rfl hW (lv_sub hl [0, 1, 2, 3] rfl)
      · replace hf := (if_neg h9).symm.trans hf
        refine lv_aload_n C.1.1 C.1.2.1 dX7_soonest_39 rfl (lv_at hl 0 rfl) ?_
        have hk13 := sh7_28 hW hk_a0
        refine gf7_28 C hW hk_a0 w_1058 dX7_soonest_40 ?_
        refine lv_bipush (v := 6) C.1.1 C.1.2.1 dX7_soonest_43 (by decide) ?_
        refine lv_aload_n C.1.1 C.1.2.1 dX7_soonest_45 rfl (lv_at hl 0 rfl) ?_
        refine gf7_18 C hW hk_a0 w_1048 dX7_soonest_46 ?_
        refine lv_imul C.1.1 C.1.2.1 dX7_soonest_49 ?_
        refine lv_iload C.1.1 C.1.2.1 dX7_soonest_50 (lv_at hl 4 rfl) ?_
        refine lv_iadd C.1.1 C.1.2.1 dX7_soonest_52 ?_
        obtain ⟨hv14, hf⟩ := gd hf
        refine wai C hW hk13 (vin_p hv14) dX7_soonest_53 ?_
        refine lv_iload_n C.1.1 C.1.2.1 dX7_soonest_54 rfl (lv_at hl 1 rfl) ?_
        refine lv_icmp_ne (tgt := 81) C.1.1 C.1.2.1 dX7_soonest_55 (by decide) (fun h9 => ?_) (fun h9 => ?_)
        · replace hf := (if_neg h9).symm.trans hf
          exact J81 _ _ _ _ _ _ hf hW (lv_sub hl [0, 1, 2, 3, 4] rfl)
        · replace hf := (if_pos h9).symm.trans hf
          refine lv_iload_n C.1.1 C.1.2.1 dX7_soonest_58 rfl (lv_at hl 3 rfl) ?_
          refine lv_if_lt (tgt := 78) C.1.1 C.1.2.1 dX7_soonest_59 (by decide) (fun h9 => ?_) (fun h9 => ?_)
          · replace hf := (if_pos h9).symm.trans hf
            exact J78 _ _ _ _ _ hf hW (lv_sub hl [0, 1, 2, 4] rfl)
          · replace hf := (if_neg h9).symm.trans hf
            refine lv_aload_n C.1.1 C.1.2.1 dX7_soonest_62 rfl (lv_at hl 0 rfl) ?_
            refine lv_iload C.1.1 C.1.2.1 dX7_soonest_63 (lv_at hl 4 rfl) ?_
            refine lv_iload_n C.1.1 C.1.2.1 dX7_soonest_65 rfl (lv_at hl 1 rfl) ?_
            obtain ⟨⟨r18, σ17⟩, hc16, hf⟩ := bd hf
            try dsimp only at hf
            refine cVi C hW (mX7_daysTo hk_a0 hc16) hk_a0 kvX7_daysTo w_1591 ⟨(Nat.le_of_ble_eq_true rfl), (Nat.le_of_ble_eq_true rfl)⟩ ⟨Nat.zero_le _, Nat.zero_le _⟩ rfl hl.1 (rest := []) rfl (Nat.le_of_ble_eq_true rfl) dX7_soonest_66 (fun H locs hn19 hW => ?_)
            refine lv_aload_n C.1.1 C.1.2.1 dX7_soonest_69 rfl (lv_at hl 0 rfl) ?_
            refine lv_iload_n C.1.1 C.1.2.1 dX7_soonest_70 rfl (lv_at hl 3 rfl) ?_
            refine lv_iload_n C.1.1 C.1.2.1 dX7_soonest_71 rfl (lv_at hl 1 rfl) ?_
            obtain ⟨⟨r23, σ22⟩, hc21, hf⟩ := bd hf
            try dsimp only at hf
            refine cVi C hW (mX7_daysTo hk_a0 hc21) hk_a0 kvX7_daysTo w_1591 ⟨(Nat.le_of_ble_eq_true rfl), (Nat.le_of_ble_eq_true rfl)⟩ ⟨Nat.zero_le _, Nat.zero_le _⟩ rfl hl.1 (rest := [.int _]) rfl (Nat.le_of_ble_eq_true rfl) dX7_soonest_72 (fun H locs hn24 hW => ?_)
            refine lv_icmp_ge (tgt := 81) C.1.1 C.1.2.1 dX7_soonest_75 (by decide) (fun h9 => ?_) (fun h9 => ?_)
            · replace hf := (if_pos h9).symm.trans hf
              exact J81 _ _ _ _ _ _ hf hW (lv_sub hl [0, 1, 2, 3, 4] rfl)
            · replace hf := (if_neg h9).symm.trans hf
              exact J78 _ _ _ _ _ hf hW (lv_sub hl [0, 1, 2, 4] rfl)
  have J95 : ∀ (x3 : Int32) (σ : Sg) (H : Heap) (locs : List Loc) (ls : Array Slot), jX7_soonest_95 a0 p1 p2 x3 σ = some (r, σ') → Ws G σ s.heap H locs → lv_has ls 5 [(3, .int x3)] → W p l e (rmOf 2 43) s m args below meth c H locs 0 0 Q (F0 m 95 ls []) := by
    intro x3 σ H locs ls hf hW hl
    delta jX7_soonest_95 at hf
    refine lv_iload_n C.1.1 C.1.2.1 dX7_soonest_95 rfl (lv_at hl 0 rfl) ?_
    refine lv_goto (tgt := 105) C.1.1 C.1.2.1 dX7_soonest_96 (by decide) ?_
    exact ri hQ C hr hlk hW hf (rok_i _) dX7_soonest_105
  refine lv_aload_n C.1.1 C.1.2.1 dX7_soonest_0 rfl (lv_at hl 0 rfl) ?_
  refine lv_iload_n C.1.1 C.1.2.1 dX7_soonest_1 rfl (lv_at hl 1 rfl) ?_
  obtain ⟨⟨r3, σ2⟩, hc1, hf⟩ := bd hf
  try dsimp only at hf
  refine cVi C hW (mX7_isHouse hk_a0 hc1) hk_a0 kvX7_isHouse w_1347 ⟨(Nat.le_of_ble_eq_true rfl), (Nat.le_of_ble_eq_true rfl)⟩ ⟨Nat.zero_le _, Nat.zero_le _⟩ rfl hl.1 (rest := []) rfl (Nat.le_of_ble_eq_true rfl) dX7_soonest_2 (fun H locs hn4 hW => ?_)
  refine lv_if_eq (tgt := 17) C.1.1 C.1.2.1 dX7_soonest_5 (by decide) (fun h9 => ?_) (fun h9 => ?_)
  · replace hf := (if_pos h9).symm.trans hf
    refine lv_iconst (v := (-1)) C.1.1 C.1.2.1 dX7_soonest_17 (by decide) ?_
    exact ri hQ C hr hlk hW hf (rok_i _) dX7_soonest_18
  · replace hf := (if_neg h9).symm.trans hf
    refine lv_iload_n C.1.1 C.1.2.1 dX7_soonest_8 rfl (lv_at hl 2 rfl) ?_
    refine lv_iconst (v := 0) C.1.1 C.1.2.1 dX7_soonest_9 (by decide) ?_
    refine lv_iconst (v := 1) C.1.1 C.1.2.1 dX7_soonest_10 (by decide) ?_
    obtain ⟨⟨r8, σ7⟩, hc6, hf⟩ := bd hf
    try dsimp only at hf
    refine cSi C hW (mX7_in hc6) ksX7_in w_1351 ⟨(Nat.le_of_ble_eq_true rfl), (Nat.le_of_ble_eq_true rfl)⟩ ⟨Nat.zero_le _, Nat.zero_le _⟩ rfl hl.1 (rest := []) rfl (Nat.le_of_ble_eq_true rfl) dX7_soonest_11 (fun H locs hn9 hW => ?_)
    refine lv_if_ne (tgt := 19) C.1.1 C.1.2.1 dX7_soonest_14 (by decide) (fun h9 => ?_) (fun h9 => ?_)
    · replace hf := (if_neg h9).symm.trans hf
      refine lv_bipush (v := (-2)) C.1.1 C.1.2.1 dX7_soonest_19 (by decide) ?_
      refine lv_istore_n (lv' := [(3, .int _), (0, .ref _), (1, .int _), (2, .int _)]) C.1.1 C.1.2.1 dX7_soonest_21 rfl hl (by decide) rfl (fun ls hl => ?_)
      refine lv_iconst (v := 0) C.1.1 C.1.2.1 dX7_soonest_22 (by decide) ?_
      refine lv_istore (lv' := [(4, .int _), (3, .int _), (0, .ref _), (1, .int _), (2, .int _)]) C.1.1 C.1.2.1 dX7_soonest_23 hl (by decide) rfl (fun ls hl => ?_)
      obtain ⟨o26, ho, hf⟩ := bd hf
      obtain ⟨n, ho⟩ := lp_it ho
      refine L25 n _ _ _ _ _ _ o26 ho hW (lv_sub hl [2, 3, 4, 1, 0] rfl) ?_
      intro y28 σ27 H locs ls e9 hW hl
      subst e9
      try dsimp only at hf
      refine lv_iload_n C.1.1 C.1.2.1 dX7_soonest_87 rfl (lv_at hl 3 rfl) ?_
      refine lv_if_lt (tgt := 95) C.1.1 C.1.2.1 dX7_soonest_88 (by decide) (fun h9 => ?_) (fun h9 => ?_)
      · replace hf := (if_pos h9).symm.trans hf
        exact J95 _ _ _ _ _ hf hW (lv_sub hl [3] rfl)
      · replace hf := (if_neg h9).symm.trans hf
        refine lv_iload_n C.1.1 C.1.2.1 dX7_soonest_91 rfl (lv_at hl 2 rfl) ?_
        refine lv_if_ne (tgt := 99) C.1.1 C.1.2.1 dX7_soonest_92 (by decide) (fun h9 => ?_) (fun h9 => ?_)
        · replace hf := (if_neg h9).symm.trans hf
          refine lv_aload_n C.1.1 C.1.2.1 dX7_soonest_99 rfl (lv_at hl 0 rfl) ?_
          refine lv_iload_n C.1.1 C.1.2.1 dX7_soonest_100 rfl (lv_at hl 3 rfl) ?_
          refine lv_iload_n C.1.1 C.1.2.1 dX7_soonest_101 rfl (lv_at hl 1 rfl) ?_
          obtain ⟨⟨r31, σ30⟩, hc29, hf⟩ := bd hf
          try dsimp only at hf
          refine cVi C hW (mX7_daysTo hk_a0 hc29) hk_a0 kvX7_daysTo w_1591 ⟨(Nat.le_of_ble_eq_true rfl), (Nat.le_of_ble_eq_true rfl)⟩ ⟨Nat.zero_le _, Nat.zero_le _⟩ rfl hl.1 (rest := []) rfl (Nat.le_of_ble_eq_true rfl) dX7_soonest_102 (fun H locs hn32 hW => ?_)
          exact ri hQ C hr hlk hW hf (rok_i _) dX7_soonest_105
        · replace hf := (if_pos h9).symm.trans hf
          exact J95 _ _ _ _ _ hf hW (lv_sub hl [3] rfl)
    · replace hf := (if_pos h9).symm.trans hf
      refine lv_iconst (v := (-1)) C.1.1 C.1.2.1 dX7_soonest_17 (by decide) ?_
      exact ri hQ C hr hlk hW hf (rok_i _) dX7_soonest_18
theorem kvX7_rentsAll : KV 7 "RightKeysModel" yX7_rentsAll cX7_rentsAll 3 (some .int) 0 := ⟨⟨w_1605, w_105, w_116, w_1606⟩, ⟨rfl, by decide, by decide, by decide +kernel⟩, by decide, rfl⟩
noncomputable def bX7_rentsAll_4 (a0 : Nat) (x1 : Int32) (x2 : Int32) (σ : Sg) : Option ((Int32 × Int32 × Sg) ⊕ (Int32 × Sg)) := if vin (σ.1 a0 18) 2 then (if (σ.1 (a0 + 9) (((σ.1 a0 18)).toNatClampNeg)) ≤ x2 then (some (Sum.inr (x1, σ))) else ((fX7_rentOf a0 x2 σ).bind (fun q7 => let r5 := q7.1; let σ4 := q7.2; (let x1_8 := (x1 + r5); let x2_9 := x2 + (1 : Int32); some (Sum.inl (x1_8, x2_9, σ4)))))) else none
noncomputable def fX7_rentsAll (a0 : Nat) (σ : Sg) : Option (Int32 × Sg) := (lp (fun st => bX7_rentsAll_4 a0 st.1 st.2.1 st.2.2) ((0 : Int32), (0 : Int32), σ)).bind (fun q13 => let y12 := q13.1; let σ11 := q13.2;  some (y12, σ11))
set_option maxRecDepth 100000 in
set_option maxHeartbeats 4000000 in
theorem mX7_rentsAll {l : Launch} {G : Gm} {a0 : Nat} {σ : Sg} {r : Int32} {σ' : Sg} (hk_a0 : gK G a0 = 8) (hf : fX7_rentsAll a0 σ = some (r, σ')) : Mi l G yX7_rentsAll cX7_rentsAll 3 .int 3 74 [.ref (gB G + a0)] σ r σ' := by
  refine of_W "RightKeysModel" rfl (by decide) (Nat.le_of_ble_eq_true rfl) ?_
  intro p e s m args below meth c Q hQ C hr hlk hW ls hl
  have h00 := hW.1
  have hl : lv_has ls 3 [(0, .ref (gB G + a0))] := hl
  delta fX7_rentsAll at hf
  have L4 : ∀ (n : Nat) (x1 : Int32) (x2 : Int32) (σ : Sg) (H : Heap) (locs : List Loc) (ls : Array Slot) (out : (Int32 × Sg)), iter (fun st => bX7_rentsAll_4 a0 st.1 st.2.1 st.2.2) n (x1, x2, σ) = some out → Ws G σ s.heap H locs → lv_has ls 3 [(0, .ref (gB G + a0)), (1, .int x1), (2, .int x2)] → (∀ (y1 : Int32) (σ : Sg) (H : Heap) (locs : List Loc) (ls : Array Slot), out = (y1, σ) → Ws G σ s.heap H locs → lv_has ls 3 [(1, .int y1)] → W p l e (rmOf 3 74) s m args below meth c H locs 0 0 Q (F0 m 31 ls [])) → W p l e (rmOf 3 74) s m args below meth c H locs 0 0 Q (F0 m 4 ls []) := by
    intro n
    induction n with
    | zero =>
      intro x1 x2 σ H locs ls out hf
      exact (it_0 hf).elim
    | succ n ih =>
      intro x1 x2 σ H locs ls out hf hW hl K4_31
      obtain ⟨x, hf, hx⟩ := it_s hf
      have hf : bX7_rentsAll_4 a0 x1 x2 σ = some x := hf
      delta bX7_rentsAll_4 at hf
      refine lv_iload_n C.1.1 C.1.2.1 dX7_rentsAll_4 rfl (lv_at hl 2 rfl) ?_
      refine lv_aload_n C.1.1 C.1.2.1 dX7_rentsAll_5 rfl (lv_at hl 0 rfl) ?_
      have hk1 := sh7_22 hW hk_a0
      refine gf7_22 C hW hk_a0 w_1052 dX7_rentsAll_6 ?_
      refine lv_aload_n C.1.1 C.1.2.1 dX7_rentsAll_9 rfl (lv_at hl 0 rfl) ?_
      refine gf7_18 C hW hk_a0 w_1048 dX7_rentsAll_10 ?_
      obtain ⟨hv2, hf⟩ := gd hf
      refine wai C hW hk1 (vin_p hv2) dX7_rentsAll_13 ?_
      refine lv_icmp_ge (tgt := 31) C.1.1 C.1.2.1 dX7_rentsAll_14 (by decide) (fun h9 => ?_) (fun h9 => ?_)
      · replace hf := (if_pos h9).symm.trans hf
        cases hf
        cases hx
        exact K4_31 _ _ _ _ _ rfl hW (lv_sub hl [1] rfl)
      · replace hf := (if_neg h9).symm.trans hf
        refine lv_iload_n C.1.1 C.1.2.1 dX7_rentsAll_17 rfl (lv_at hl 1 rfl) ?_
        refine lv_aload_n C.1.1 C.1.2.1 dX7_rentsAll_18 rfl (lv_at hl 0 rfl) ?_
        refine lv_iload_n C.1.1 C.1.2.1 dX7_rentsAll_19 rfl (lv_at hl 2 rfl) ?_
        obtain ⟨⟨r5, σ4⟩, hc3, hf⟩ := bd hf
        try dsimp only at hf
        refine cVi C hW (mX7_rentOf hk_a0 hc3) hk_a0 kvX7_rentOf w_1358 ⟨(Nat.le_of_ble_eq_true rfl), (Nat.le_of_ble_eq_true rfl)⟩ ⟨Nat.zero_le _, Nat.zero_le _⟩ rfl hl.1 (rest := [.int _]) rfl (Nat.le_of_ble_eq_true rfl) dX7_rentsAll_20 (fun H locs hn6 hW => ?_)
        refine lv_iadd C.1.1 C.1.2.1 dX7_rentsAll_23 ?_
        refine lv_istore_n (lv' := [(1, .int _), (0, .ref _), (2, .int _)]) C.1.1 C.1.2.1 dX7_rentsAll_24 rfl hl (by decide) rfl (fun ls hl => ?_)
        refine lv_iinc (v := _) (lv' := [(2, .int _), (1, .int _), (0, .ref _)]) C.1.1 C.1.2.1 dX7_rentsAll_25 hl (k := 2) rfl (ii (k := 1) (by decide)) (by decide) rfl (fun ls hl => ?_)
        refine lv_goto (tgt := 4) C.1.1 C.1.2.1 dX7_rentsAll_28 (by decide) ?_
        cases hf
        exact ih _ _ _ _ _ _ _ hx hW (lv_sub hl [2, 1, 0] rfl) K4_31
  refine lv_iconst (v := 0) C.1.1 C.1.2.1 dX7_rentsAll_0 (by decide) ?_
  refine lv_istore_n (lv' := [(1, .int _), (0, .ref _)]) C.1.1 C.1.2.1 dX7_rentsAll_1 rfl hl (by decide) rfl (fun ls hl => ?_)
  refine lv_iconst (v := 0) C.1.1 C.1.2.1 dX7_rentsAll_2 (by decide) ?_
  refine lv_istore_n (lv' := [(2, .int _), (1, .int _), (0, .ref _)]) C.1.1 C.1.2.1 dX7_rentsAll_3 rfl hl (by decide) rfl (fun ls hl => ?_)
  obtain ⟨o10, ho, hf⟩ := bd hf
  obtain ⟨n, ho⟩ := lp_it ho
  refine L4 n _ _ _ _ _ _ o10 ho hW (lv_sub hl [2, 1, 0] rfl) ?_
  intro y12 σ11 H locs ls e9 hW hl
  subst e9
  try dsimp only at hf
  refine lv_iload_n C.1.1 C.1.2.1 dX7_rentsAll_31 rfl (lv_at hl 0 rfl) ?_
  exact ri hQ C hr hlk hW hf (rok_i _) dX7_rentsAll_32
theorem kvX7_rents : KV 7 "RightKeysModel" yX7_rents cX7_rents 2 (some .int) 1 := ⟨⟨w_1600, w_1601, w_116, w_1602⟩, ⟨rfl, by decide, by decide, by decide +kernel⟩, by decide, rfl⟩
noncomputable def fX7_rents (a0 : Nat) (p1 : Int32) (σ : Sg) : Option (Int32 × Sg) := (fX7_isLong p1 σ).bind (fun q5 => let r3 := q5.1; let σ2 := q5.2; if r3 = 0 then (some ((-1 : Int32), σ2)) else ((fX7_copies a0 σ2).bind (fun σ7 => (fX7_goes a0 p1 σ7).bind (fun σ12 => (fX7_rentsAll a0 σ12).bind (fun q20 => let r18 := q20.1; let σ17 := q20.2; some (r18, σ17))))))
set_option maxRecDepth 100000 in
set_option maxHeartbeats 4000000 in
theorem mX7_rents {l : Launch} {G : Gm} {a0 : Nat} {p1 : Int32} {σ : Sg} {r : Int32} {σ' : Sg} (hk_a0 : gK G a0 = 8) (hf : fX7_rents a0 p1 σ = some (r, σ')) : Mi l G yX7_rents cX7_rents 2 .int 8 183 [.ref (gB G + a0), .int p1] σ r σ' := by
  refine of_W "RightKeysModel" rfl (by decide) (Nat.le_of_ble_eq_true rfl) ?_
  intro p e s m args below meth c Q hQ C hr hlk hW ls hl
  have h00 := hW.1
  have hl : lv_has ls 2 [(0, .ref (gB G + a0)), (1, .int p1)] := hl
  delta fX7_rents at hf
  refine lv_iload_n C.1.1 C.1.2.1 dX7_rents_0 rfl (lv_at hl 1 rfl) ?_
  obtain ⟨⟨r3, σ2⟩, hc1, hf⟩ := bd hf
  try dsimp only at hf
  refine cSi C hW (mX7_isLong hc1) ksX7_isLong w_1432 ⟨(Nat.le_of_ble_eq_true rfl), (Nat.le_of_ble_eq_true rfl)⟩ ⟨Nat.zero_le _, Nat.zero_le _⟩ rfl hl.1 (rest := []) rfl (Nat.le_of_ble_eq_true rfl) dX7_rents_1 (fun H locs hn4 hW => ?_)
  refine lv_if_ne (tgt := 9) C.1.1 C.1.2.1 dX7_rents_4 (by decide) (fun h9 => ?_) (fun h9 => ?_)
  · replace hf := (if_neg h9).symm.trans hf
    refine lv_aload_n C.1.1 C.1.2.1 dX7_rents_9 rfl (lv_at hl 0 rfl) ?_
    obtain ⟨σ7, hc6, hf⟩ := bd hf
    try dsimp only at hf
    refine cVv C hW (mX7_copies hk_a0 hc6) hk_a0 kvX7_copies w_1354 ⟨(Nat.le_of_ble_eq_true rfl), (Nat.le_of_ble_eq_true rfl)⟩ ⟨Nat.zero_le _, Nat.zero_le _⟩ rfl hl.1 (rest := []) rfl (Nat.le_of_ble_eq_true rfl) dX7_rents_10 (fun H locs hW => ?_)
    refine lv_aload_n C.1.1 C.1.2.1 dX7_rents_13 rfl (lv_at hl 0 rfl) ?_
    refine lv_iload_n C.1.1 C.1.2.1 dX7_rents_14 rfl (lv_at hl 1 rfl) ?_
    obtain ⟨σ12, hc11, hf⟩ := bd hf
    try dsimp only at hf
    refine cVv C hW (mX7_goes hk_a0 hc11) hk_a0 kvX7_goes w_1435 ⟨(Nat.le_of_ble_eq_true rfl), (Nat.le_of_ble_eq_true rfl)⟩ ⟨Nat.zero_le _, Nat.zero_le _⟩ rfl hl.1 (rest := []) rfl (Nat.le_of_ble_eq_true rfl) dX7_rents_15 (fun H locs hW => ?_)
    refine lv_aload_n C.1.1 C.1.2.1 dX7_rents_18 rfl (lv_at hl 0 rfl) ?_
    obtain ⟨⟨r18, σ17⟩, hc16, hf⟩ := bd hf
    try dsimp only at hf
    refine cVi C hW (mX7_rentsAll hk_a0 hc16) hk_a0 kvX7_rentsAll w_1603 ⟨(Nat.le_of_ble_eq_true rfl), (Nat.le_of_ble_eq_true rfl)⟩ ⟨Nat.zero_le _, Nat.zero_le _⟩ rfl hl.1 (rest := []) rfl (Nat.le_of_ble_eq_true rfl) dX7_rents_19 (fun H locs hn19 hW => ?_)
    exact ri hQ C hr hlk hW hf (rok_i _) dX7_rents_22
  · replace hf := (if_pos h9).symm.trans hf
    refine lv_iconst (v := (-1)) C.1.1 C.1.2.1 dX7_rents_7 (by decide) ?_
    exact ri hQ C hr hlk hW hf (rok_i _) dX7_rents_8
theorem kvX7_stoodWithout : KV 7 "RightKeysModel" yX7_stoodWithout cX7_stoodWithout 2 (some .int) 1 := ⟨⟨w_1613, w_106, w_116, w_1614⟩, ⟨rfl, by decide, by decide, by decide +kernel⟩, by decide, rfl⟩
noncomputable def fX7_stoodWithout (a0 : Nat) (p1 : Int32) (σ : Sg) : Option (Int32 × Sg) := (fX7_copiesStill a0 σ).bind (fun σ2 => (let σ6 := wI σ2 a0 51 p1; if vin ((40 : Int32) + p1) 88 then (let σ9 := wI σ6 (a0 + 31) ((((40 : Int32) + p1)).toNatClampNeg) (1 : Int32); if vin ((48 : Int32) + p1) 88 then (let σ12 := wI σ9 (a0 + 31) ((((48 : Int32) + p1)).toNatClampNeg) (0 : Int32); (fX7_standsFor a0 (24 : Int32) σ12).bind (fun σ14 => some ((σ14.1 a0 58), σ14))) else none) else none))
set_option maxRecDepth 100000 in
set_option maxHeartbeats 4000000 in
theorem mX7_stoodWithout {l : Launch} {G : Gm} {a0 : Nat} {p1 : Int32} {σ : Sg} {r : Int32} {σ' : Sg} (hk_a0 : gK G a0 = 8) (hf : fX7_stoodWithout a0 p1 σ = some (r, σ')) : Mi l G yX7_stoodWithout cX7_stoodWithout 2 .int 8 185 [.ref (gB G + a0), .int p1] σ r σ' := by
  refine of_W "RightKeysModel" rfl (by decide) (Nat.le_of_ble_eq_true rfl) ?_
  intro p e s m args below meth c Q hQ C hr hlk hW ls hl
  have h00 := hW.1
  have hl : lv_has ls 2 [(0, .ref (gB G + a0)), (1, .int p1)] := hl
  delta fX7_stoodWithout at hf
  refine lv_aload_n C.1.1 C.1.2.1 dX7_stoodWithout_0 rfl (lv_at hl 0 rfl) ?_
  obtain ⟨σ2, hc1, hf⟩ := bd hf
  try dsimp only at hf
  refine cVv C hW (mX7_copiesStill hk_a0 hc1) hk_a0 kvX7_copiesStill w_1531 ⟨(Nat.le_of_ble_eq_true rfl), (Nat.le_of_ble_eq_true rfl)⟩ ⟨Nat.zero_le _, Nat.zero_le _⟩ rfl hl.1 (rest := []) rfl (Nat.le_of_ble_eq_true rfl) dX7_stoodWithout_1 (fun H locs hW => ?_)
  refine lv_aload_n C.1.1 C.1.2.1 dX7_stoodWithout_4 rfl (lv_at hl 0 rfl) ?_
  refine lv_iload_n C.1.1 C.1.2.1 dX7_stoodWithout_5 rfl (lv_at hl 1 rfl) ?_
  refine pf7_51 C hW hk_a0 w_1081 dX7_stoodWithout_6 (fun H locs hW => ?_)
  refine lv_aload_n C.1.1 C.1.2.1 dX7_stoodWithout_9 rfl (lv_at hl 0 rfl) ?_
  have hk7 := sh7_48 hW hk_a0
  refine gf7_48 C hW hk_a0 w_1078 dX7_stoodWithout_10 ?_
  refine lv_bipush (v := 40) C.1.1 C.1.2.1 dX7_stoodWithout_13 (by decide) ?_
  refine lv_iload_n C.1.1 C.1.2.1 dX7_stoodWithout_15 rfl (lv_at hl 1 rfl) ?_
  refine lv_iadd C.1.1 C.1.2.1 dX7_stoodWithout_16 ?_
  refine lv_iconst (v := 1) C.1.1 C.1.2.1 dX7_stoodWithout_17 (by decide) ?_
  obtain ⟨hv8, hf⟩ := gd hf
  refine wsi C hW hk7 (vin_p hv8) dX7_stoodWithout_18 (fun H locs hW => ?_)
  refine lv_aload_n C.1.1 C.1.2.1 dX7_stoodWithout_19 rfl (lv_at hl 0 rfl) ?_
  have hk10 := sh7_48 hW hk_a0
  refine gf7_48 C hW hk_a0 w_1078 dX7_stoodWithout_20 ?_
  refine lv_bipush (v := 48) C.1.1 C.1.2.1 dX7_stoodWithout_23 (by decide) ?_
  refine lv_iload_n C.1.1 C.1.2.1 dX7_stoodWithout_25 rfl (lv_at hl 1 rfl) ?_
  refine lv_iadd C.1.1 C.1.2.1 dX7_stoodWithout_26 ?_
  refine lv_iconst (v := 0) C.1.1 C.1.2.1 dX7_stoodWithout_27 (by decide) ?_
  obtain ⟨hv11, hf⟩ := gd hf
  refine wsi C hW hk10 (vin_p hv11) dX7_stoodWithout_28 (fun H locs hW => ?_)
  refine lv_aload_n C.1.1 C.1.2.1 dX7_stoodWithout_29 rfl (lv_at hl 0 rfl) ?_
  refine lv_bipush (v := 24) C.1.1 C.1.2.1 dX7_stoodWithout_30 (by decide) ?_
  obtain ⟨σ14, hc13, hf⟩ := bd hf
  try dsimp only at hf
  refine cVv C hW (mX7_standsFor hk_a0 hc13) hk_a0 kvX7_standsFor w_1535 ⟨(Nat.le_of_ble_eq_true rfl), (Nat.le_of_ble_eq_true rfl)⟩ ⟨Nat.zero_le _, Nat.zero_le _⟩ rfl hl.1 (rest := []) rfl (Nat.le_of_ble_eq_true rfl) dX7_stoodWithout_32 (fun H locs hW => ?_)
  refine lv_aload_n C.1.1 C.1.2.1 dX7_stoodWithout_35 rfl (lv_at hl 0 rfl) ?_
  refine gf7_58 C hW hk_a0 w_1088 dX7_stoodWithout_36 ?_
  exact ri hQ C hr hlk hW hf (rok_i _) dX7_stoodWithout_39
theorem kvX7_shut : KV 7 "RightKeysModel" yX7_shut cX7_shut 3 (some .int) 1 := ⟨⟨w_1608, w_1609, w_116, w_1610⟩, ⟨rfl, by decide, by decide, by decide +kernel⟩, by decide, rfl⟩
noncomputable def fX7_shut (a0 : Nat) (p1 : Int32) (σ : Sg) : Option (Int32 × Sg) := (fX7_isHouse a0 p1 σ).bind (fun q5 => let r3 := q5.1; let σ2 := q5.2; if r3 = 0 then (some ((-1 : Int32), σ2)) else ((fX7_copiesStill a0 σ2).bind (fun σ7 => (fX7_standsFor a0 (24 : Int32) σ7).bind (fun σ12 => (let x2_16 := (σ12.1 a0 58); (fX7_stoodWithout a0 p1 σ12).bind (fun q21 => let r19 := q21.1; let σ18 := q21.2; some ((r19 &&& (x2_16 ^^^ (-1 : Int32))), σ18)))))))
set_option maxRecDepth 100000 in
set_option maxHeartbeats 4000000 in
theorem mX7_shut {l : Launch} {G : Gm} {a0 : Nat} {p1 : Int32} {σ : Sg} {r : Int32} {σ' : Sg} (hk_a0 : gK G a0 = 8) (hf : fX7_shut a0 p1 σ = some (r, σ')) : Mi l G yX7_shut cX7_shut 3 .int 9 206 [.ref (gB G + a0), .int p1] σ r σ' := by
  refine of_W "RightKeysModel" rfl (by decide) (Nat.le_of_ble_eq_true rfl) ?_
  intro p e s m args below meth c Q hQ C hr hlk hW ls hl
  have h00 := hW.1
  have hl : lv_has ls 3 [(0, .ref (gB G + a0)), (1, .int p1)] := hl
  delta fX7_shut at hf
  refine lv_aload_n C.1.1 C.1.2.1 dX7_shut_0 rfl (lv_at hl 0 rfl) ?_
  refine lv_iload_n C.1.1 C.1.2.1 dX7_shut_1 rfl (lv_at hl 1 rfl) ?_
  obtain ⟨⟨r3, σ2⟩, hc1, hf⟩ := bd hf
  try dsimp only at hf
  refine cVi C hW (mX7_isHouse hk_a0 hc1) hk_a0 kvX7_isHouse w_1347 ⟨(Nat.le_of_ble_eq_true rfl), (Nat.le_of_ble_eq_true rfl)⟩ ⟨Nat.zero_le _, Nat.zero_le _⟩ rfl hl.1 (rest := []) rfl (Nat.le_of_ble_eq_true rfl) dX7_shut_2 (fun H locs hn4 hW => ?_)
  refine lv_if_ne (tgt := 10) C.1.1 C.1.2.1 dX7_shut_5 (by decide) (fun h9 => ?_) (fun h9 => ?_)
  · replace hf := (if_neg h9).symm.trans hf
    refine lv_aload_n C.1.1 C.1.2.1 dX7_shut_10 rfl (lv_at hl 0 rfl) ?_
    obtain ⟨σ7, hc6, hf⟩ := bd hf
    try dsimp only at hf
    refine cVv C hW (mX7_copiesStill hk_a0 hc6) hk_a0 kvX7_copiesStill w_1531 ⟨(Nat.le_of_ble_eq_true rfl), (Nat.le_of_ble_eq_true rfl)⟩ ⟨Nat.zero_le _, Nat.zero_le _⟩ rfl hl.1 (rest := []) rfl (Nat.le_of_ble_eq_true rfl) dX7_shut_11 (fun H locs hW => ?_)
    refine lv_aload_n C.1.1 C.1.2.1 dX7_shut_14 rfl (lv_at hl 0 rfl) ?_
    refine lv_bipush (v := 24) C.1.1 C.1.2.1 dX7_shut_15 (by decide) ?_
    obtain ⟨σ12, hc11, hf⟩ := bd hf
    try dsimp only at hf
    refine cVv C hW (mX7_standsFor hk_a0 hc11) hk_a0 kvX7_standsFor w_1535 ⟨(Nat.le_of_ble_eq_true rfl), (Nat.le_of_ble_eq_true rfl)⟩ ⟨Nat.zero_le _, Nat.zero_le _⟩ rfl hl.1 (rest := []) rfl (Nat.le_of_ble_eq_true rfl) dX7_shut_17 (fun H locs hW => ?_)
    refine lv_aload_n C.1.1 C.1.2.1 dX7_shut_20 rfl (lv_at hl 0 rfl) ?_
    refine gf7_58 C hW hk_a0 w_1088 dX7_shut_21 ?_
    refine lv_istore_n (lv' := [(2, .int _), (0, .ref _), (1, .int _)]) C.1.1 C.1.2.1 dX7_shut_24 rfl hl (by decide) rfl (fun ls hl => ?_)
    refine lv_aload_n C.1.1 C.1.2.1 dX7_shut_25 rfl (lv_at hl 1 rfl) ?_
    refine lv_iload_n C.1.1 C.1.2.1 dX7_shut_26 rfl (lv_at hl 2 rfl) ?_
    obtain ⟨⟨r19, σ18⟩, hc17, hf⟩ := bd hf
    try dsimp only at hf
    refine cVi C hW (mX7_stoodWithout hk_a0 hc17) hk_a0 kvX7_stoodWithout w_1611 ⟨(Nat.le_of_ble_eq_true rfl), (Nat.le_of_ble_eq_true rfl)⟩ ⟨Nat.zero_le _, Nat.zero_le _⟩ rfl hl.1 (rest := []) rfl (Nat.le_of_ble_eq_true rfl) dX7_shut_27 (fun H locs hn20 hW => ?_)
    refine lv_iload_n C.1.1 C.1.2.1 dX7_shut_30 rfl (lv_at hl 0 rfl) ?_
    refine lv_iconst (v := (-1)) C.1.1 C.1.2.1 dX7_shut_31 (by decide) ?_
    refine lv_ixor C.1.1 C.1.2.1 dX7_shut_32 ?_
    refine lv_iand C.1.1 C.1.2.1 dX7_shut_33 ?_
    exact ri hQ C hr hlk hW hf (rok_i _) dX7_shut_34
  · replace hf := (if_pos h9).symm.trans hf
    refine lv_iconst (v := (-1)) C.1.1 C.1.2.1 dX7_shut_8 (by decide) ?_
    exact ri hQ C hr hlk hW hf (rok_i _) dX7_shut_9
theorem kvX7_then : KV 7 "RightKeysModel" yX7_then cX7_then 4 (some .int) 3 := ⟨⟨w_1616, w_1617, w_116, w_1618⟩, ⟨rfl, by decide, by decide, by decide +kernel⟩, by decide, rfl⟩
noncomputable def jX7_then_31 (a0 : Nat) (p1 : Int32) (p2 : Int32) (p3 : Int32) (σ : Sg) : Option (Int32 × Sg) := (fX7_copies a0 σ).bind (fun σ12 => (fX7_goes a0 p2 σ12).bind (fun σ17 => if p3 = 0 then (if vin ((40 : Int32) + p1) 88 then (some ((σ17.1 (a0 + 31) ((((40 : Int32) + p1)).toNatClampNeg)), σ17)) else none) else (if p3 = (1 : Int32) then (if vin ((48 : Int32) + p1) 88 then (some ((σ17.1 (a0 + 31) ((((48 : Int32) + p1)).toNatClampNeg)), σ17)) else none) else (some (((σ17.1 (a0 + 31) 85) - (σ17.1 (a0 + 30) 85)), σ17)))))
noncomputable def fX7_then (a0 : Nat) (p1 : Int32) (p2 : Int32) (p3 : Int32) (σ : Sg) : Option (Int32 × Sg) := (fX7_isLong p2 σ).bind (fun q5 => let r3 := q5.1; let σ2 := q5.2; if r3 = 0 then (some ((-1 : Int32), σ2)) else ((fX7_in p3 (0 : Int32) (2 : Int32) σ2).bind (fun q10 => let r8 := q10.1; let σ7 := q10.2; if r8 = 0 then (some ((-1 : Int32), σ7)) else (if (2 : Int32) ≤ p3 then (jX7_then_31 a0 p1 p2 p3 σ7) else ((fX7_isHouse a0 p1 σ7).bind (fun q31 => let r29 := q31.1; let σ28 := q31.2; if r29 = 0 then (some ((-1 : Int32), σ28)) else (jX7_then_31 a0 p1 p2 p3 σ28)))))))
set_option maxRecDepth 100000 in
set_option maxHeartbeats 4000000 in
theorem mX7_then {l : Launch} {G : Gm} {a0 : Nat} {p1 : Int32} {p2 : Int32} {p3 : Int32} {σ : Sg} {r : Int32} {σ' : Sg} (hk_a0 : gK G a0 = 8) (hf : fX7_then a0 p1 p2 p3 σ = some (r, σ')) : Mi l G yX7_then cX7_then 4 .int 8 183 [.ref (gB G + a0), .int p1, .int p2, .int p3] σ r σ' := by
  refine of_W "RightKeysModel" rfl (by decide) (Nat.le_of_ble_eq_true rfl) ?_
  intro p e s m args below meth c Q hQ C hr hlk hW ls hl
  have h00 := hW.1
  have hl : lv_has ls 4 [(0, .ref (gB G + a0)), (1, .int p1), (2, .int p2), (3, .int p3)] := hl
  delta fX7_then at hf
  have J31 : ∀ (σ : Sg) (H : Heap) (locs : List Loc) (ls : Array Slot), jX7_then_31 a0 p1 p2 p3 σ = some (r, σ') → Ws G σ s.heap H locs → lv_has ls 4 [(0, .ref (gB G + a0)), (1, .int p1), (2, .int p2), (3, .int p3)] → W p l e (rmOf 8 183) s m args below meth c H locs 0 0 Q (F0 m 31 ls []) := by
    intro σ H locs ls hf hW hl
    delta jX7_then_31 at hf
    refine lv_aload_n C.1.1 C.1.2.1 dX7_then_31 rfl (lv_at hl 0 rfl) ?_
    obtain ⟨σ12, hc11, hf⟩ := bd hf
    try dsimp only at hf
    refine cVv C hW (mX7_copies hk_a0 hc11) hk_a0 kvX7_copies w_1354 ⟨(Nat.le_of_ble_eq_true rfl), (Nat.le_of_ble_eq_true rfl)⟩ ⟨Nat.zero_le _, Nat.zero_le _⟩ rfl hl.1 (rest := []) rfl (Nat.le_of_ble_eq_true rfl) dX7_then_32 (fun H locs hW => ?_)
    refine lv_aload_n C.1.1 C.1.2.1 dX7_then_35 rfl (lv_at hl 0 rfl) ?_
    refine lv_iload_n C.1.1 C.1.2.1 dX7_then_36 rfl (lv_at hl 2 rfl) ?_
    obtain ⟨σ17, hc16, hf⟩ := bd hf
    try dsimp only at hf
    refine cVv C hW (mX7_goes hk_a0 hc16) hk_a0 kvX7_goes w_1435 ⟨(Nat.le_of_ble_eq_true rfl), (Nat.le_of_ble_eq_true rfl)⟩ ⟨Nat.zero_le _, Nat.zero_le _⟩ rfl hl.1 (rest := []) rfl (Nat.le_of_ble_eq_true rfl) dX7_then_37 (fun H locs hW => ?_)
    refine lv_iload_n C.1.1 C.1.2.1 dX7_then_40 rfl (lv_at hl 3 rfl) ?_
    refine lv_if_ne (tgt := 56) C.1.1 C.1.2.1 dX7_then_41 (by decide) (fun h9 => ?_) (fun h9 => ?_)
    · replace hf := (if_neg h9).symm.trans hf
      refine lv_iload_n C.1.1 C.1.2.1 dX7_then_56 rfl (lv_at hl 3 rfl) ?_
      refine lv_iconst (v := 1) C.1.1 C.1.2.1 dX7_then_57 (by decide) ?_
      refine lv_icmp_ne (tgt := 73) C.1.1 C.1.2.1 dX7_then_58 (by decide) (fun h9 => ?_) (fun h9 => ?_)
      · replace hf := (if_neg h9).symm.trans hf
        refine lv_aload_n C.1.1 C.1.2.1 dX7_then_73 rfl (lv_at hl 0 rfl) ?_
        have hk21 := sh7_48 hW hk_a0
        refine gf7_48 C hW hk_a0 w_1078 dX7_then_74 ?_
        refine lv_bipush (v := 85) C.1.1 C.1.2.1 dX7_then_77 (by decide) ?_
        refine wai C hW hk21 (vin_p ⟨by decide, by decide⟩) dX7_then_79 ?_
        refine lv_aload_n C.1.1 C.1.2.1 dX7_then_80 rfl (lv_at hl 0 rfl) ?_
        have hk22 := sh7_47 hW hk_a0
        refine gf7_47 C hW hk_a0 w_1077 dX7_then_81 ?_
        refine lv_bipush (v := 85) C.1.1 C.1.2.1 dX7_then_84 (by decide) ?_
        refine wai C hW hk22 (vin_p ⟨by decide, by decide⟩) dX7_then_86 ?_
        refine lv_isub C.1.1 C.1.2.1 dX7_then_87 ?_
        exact ri hQ C hr hlk hW hf (rok_i _) dX7_then_88
      · replace hf := (if_pos h9).symm.trans hf
        refine lv_aload_n C.1.1 C.1.2.1 dX7_then_61 rfl (lv_at hl 0 rfl) ?_
        have hk23 := sh7_48 hW hk_a0
        refine gf7_48 C hW hk_a0 w_1078 dX7_then_62 ?_
        refine lv_bipush (v := 48) C.1.1 C.1.2.1 dX7_then_65 (by decide) ?_
        refine lv_iload_n C.1.1 C.1.2.1 dX7_then_67 rfl (lv_at hl 1 rfl) ?_
        refine lv_iadd C.1.1 C.1.2.1 dX7_then_68 ?_
        obtain ⟨hv24, hf⟩ := gd hf
        refine wai C hW hk23 (vin_p hv24) dX7_then_69 ?_
        refine lv_goto (tgt := 88) C.1.1 C.1.2.1 dX7_then_70 (by decide) ?_
        exact ri hQ C hr hlk hW hf (rok_i _) dX7_then_88
    · replace hf := (if_pos h9).symm.trans hf
      refine lv_aload_n C.1.1 C.1.2.1 dX7_then_44 rfl (lv_at hl 0 rfl) ?_
      have hk25 := sh7_48 hW hk_a0
      refine gf7_48 C hW hk_a0 w_1078 dX7_then_45 ?_
      refine lv_bipush (v := 40) C.1.1 C.1.2.1 dX7_then_48 (by decide) ?_
      refine lv_iload_n C.1.1 C.1.2.1 dX7_then_50 rfl (lv_at hl 1 rfl) ?_
      refine lv_iadd C.1.1 C.1.2.1 dX7_then_51 ?_
      obtain ⟨hv26, hf⟩ := gd hf
      refine wai C hW hk25 (vin_p hv26) dX7_then_52 ?_
      refine lv_goto (tgt := 88) C.1.1 C.1.2.1 dX7_then_53 (by decide) ?_
      exact ri hQ C hr hlk hW hf (rok_i _) dX7_then_88
  refine lv_iload_n C.1.1 C.1.2.1 dX7_then_0 rfl (lv_at hl 2 rfl) ?_
  obtain ⟨⟨r3, σ2⟩, hc1, hf⟩ := bd hf
  try dsimp only at hf
  refine cSi C hW (mX7_isLong hc1) ksX7_isLong w_1432 ⟨(Nat.le_of_ble_eq_true rfl), (Nat.le_of_ble_eq_true rfl)⟩ ⟨Nat.zero_le _, Nat.zero_le _⟩ rfl hl.1 (rest := []) rfl (Nat.le_of_ble_eq_true rfl) dX7_then_1 (fun H locs hn4 hW => ?_)
  refine lv_if_eq (tgt := 29) C.1.1 C.1.2.1 dX7_then_4 (by decide) (fun h9 => ?_) (fun h9 => ?_)
  · replace hf := (if_pos h9).symm.trans hf
    refine lv_iconst (v := (-1)) C.1.1 C.1.2.1 dX7_then_29 (by decide) ?_
    exact ri hQ C hr hlk hW hf (rok_i _) dX7_then_30
  · replace hf := (if_neg h9).symm.trans hf
    refine lv_iload_n C.1.1 C.1.2.1 dX7_then_7 rfl (lv_at hl 3 rfl) ?_
    refine lv_iconst (v := 0) C.1.1 C.1.2.1 dX7_then_8 (by decide) ?_
    refine lv_iconst (v := 2) C.1.1 C.1.2.1 dX7_then_9 (by decide) ?_
    obtain ⟨⟨r8, σ7⟩, hc6, hf⟩ := bd hf
    try dsimp only at hf
    refine cSi C hW (mX7_in hc6) ksX7_in w_1351 ⟨(Nat.le_of_ble_eq_true rfl), (Nat.le_of_ble_eq_true rfl)⟩ ⟨Nat.zero_le _, Nat.zero_le _⟩ rfl hl.1 (rest := []) rfl (Nat.le_of_ble_eq_true rfl) dX7_then_10 (fun H locs hn9 hW => ?_)
    refine lv_if_eq (tgt := 29) C.1.1 C.1.2.1 dX7_then_13 (by decide) (fun h9 => ?_) (fun h9 => ?_)
    · replace hf := (if_pos h9).symm.trans hf
      refine lv_iconst (v := (-1)) C.1.1 C.1.2.1 dX7_then_29 (by decide) ?_
      exact ri hQ C hr hlk hW hf (rok_i _) dX7_then_30
    · replace hf := (if_neg h9).symm.trans hf
      refine lv_iload_n C.1.1 C.1.2.1 dX7_then_16 rfl (lv_at hl 3 rfl) ?_
      refine lv_iconst (v := 2) C.1.1 C.1.2.1 dX7_then_17 (by decide) ?_
      refine lv_icmp_ge (tgt := 31) C.1.1 C.1.2.1 dX7_then_18 (by decide) (fun h9 => ?_) (fun h9 => ?_)
      · replace hf := (if_pos h9).symm.trans hf
        exact J31 _ _ _ _ hf hW (lv_sub hl [0, 1, 2, 3] rfl)
      · replace hf := (if_neg h9).symm.trans hf
        refine lv_aload_n C.1.1 C.1.2.1 dX7_then_21 rfl (lv_at hl 0 rfl) ?_
        refine lv_iload_n C.1.1 C.1.2.1 dX7_then_22 rfl (lv_at hl 1 rfl) ?_
        obtain ⟨⟨r29, σ28⟩, hc27, hf⟩ := bd hf
        try dsimp only at hf
        refine cVi C hW (mX7_isHouse hk_a0 hc27) hk_a0 kvX7_isHouse w_1347 ⟨(Nat.le_of_ble_eq_true rfl), (Nat.le_of_ble_eq_true rfl)⟩ ⟨Nat.zero_le _, Nat.zero_le _⟩ rfl hl.1 (rest := []) rfl (Nat.le_of_ble_eq_true rfl) dX7_then_23 (fun H locs hn30 hW => ?_)
        refine lv_if_ne (tgt := 31) C.1.1 C.1.2.1 dX7_then_26 (by decide) (fun h9 => ?_) (fun h9 => ?_)
        · replace hf := (if_neg h9).symm.trans hf
          exact J31 _ _ _ _ hf hW (lv_sub hl [0, 1, 2, 3] rfl)
        · replace hf := (if_pos h9).symm.trans hf
          refine lv_iconst (v := (-1)) C.1.1 C.1.2.1 dX7_then_29 (by decide) ?_
          exact ri hQ C hr hlk hW hf (rok_i _) dX7_then_30
theorem kvX7_year : KV 7 "RightKeysModel" yX7_year cX7_year 5 (some .int) 2 := ⟨⟨w_1620, w_1621, w_116, w_1622⟩, ⟨rfl, by decide, by decide, by decide +kernel⟩, by decide, rfl⟩
noncomputable def jX7_year_61 (a0 : Nat) (p1 : Int32) (p2 : Int32) (x3 : Int32) (x4 : Int32) (σ : Sg) : Option ((Int32 × Int32 × Sg) ⊕ (Int32 × Sg)) := (let x4_27 := x4 + (1 : Int32); some (Sum.inl (x3, x4_27, σ)))
noncomputable def bX7_year_24 (a0 : Nat) (p1 : Int32) (p2 : Int32) (x3 : Int32) (x4 : Int32) (σ : Sg) : Option ((Int32 × Int32 × Sg) ⊕ (Int32 × Sg)) := if p2 ≤ x4 then (some (Sum.inr (x3, σ))) else ((fX7_copies a0 σ).bind (fun σ12 => (let σ16 := wI σ12 a0 49 ((σ12.1 a0 49) + x4); (fX7_goes a0 p1 σ16).bind (fun σ18 => (fX7_soBits a0 (2 : Int32) σ18).bind (fun q26 => let r24 := q26.1; let σ23 := q26.2; if r24 = 0 then ((let x3_28 := x3 + (1 : Int32); jX7_year_61 a0 p1 p2 x3_28 x4 σ23)) else (jX7_year_61 a0 p1 p2 x3 x4 σ23))))))
noncomputable def fX7_year (a0 : Nat) (p1 : Int32) (p2 : Int32) (σ : Sg) : Option (Int32 × Sg) := (fX7_isLong p1 σ).bind (fun q5 => let r3 := q5.1; let σ2 := q5.2; if r3 = 0 then (some ((-1 : Int32), σ2)) else ((fX7_in p2 (1 : Int32) (20 : Int32) σ2).bind (fun q10 => let r8 := q10.1; let σ7 := q10.2; if r8 = 0 then (some ((-1 : Int32), σ7)) else ((lp (fun st => bX7_year_24 a0 p1 p2 st.1 st.2.1 st.2.2) ((0 : Int32), (0 : Int32), σ7)).bind (fun q32 => let y31 := q32.1; let σ30 := q32.2;  some (y31, σ30))))))
set_option maxRecDepth 100000 in
set_option maxHeartbeats 4000000 in
theorem mX7_year {l : Launch} {G : Gm} {a0 : Nat} {p1 : Int32} {p2 : Int32} {σ : Sg} {r : Int32} {σ' : Sg} (hk_a0 : gK G a0 = 8) (hf : fX7_year a0 p1 p2 σ = some (r, σ')) : Mi l G yX7_year cX7_year 5 .int 8 183 [.ref (gB G + a0), .int p1, .int p2] σ r σ' := by
  refine of_W "RightKeysModel" rfl (by decide) (Nat.le_of_ble_eq_true rfl) ?_
  intro p e s m args below meth c Q hQ C hr hlk hW ls hl
  have h00 := hW.1
  have hl : lv_has ls 5 [(0, .ref (gB G + a0)), (1, .int p1), (2, .int p2)] := hl
  delta fX7_year at hf
  have L24 : ∀ (n : Nat) (x3 : Int32) (x4 : Int32) (σ : Sg) (H : Heap) (locs : List Loc) (ls : Array Slot) (out : (Int32 × Sg)), iter (fun st => bX7_year_24 a0 p1 p2 st.1 st.2.1 st.2.2) n (x3, x4, σ) = some out → Ws G σ s.heap H locs → lv_has ls 5 [(0, .ref (gB G + a0)), (1, .int p1), (2, .int p2), (3, .int x3), (4, .int x4)] → (∀ (y3 : Int32) (σ : Sg) (H : Heap) (locs : List Loc) (ls : Array Slot), out = (y3, σ) → Ws G σ s.heap H locs → lv_has ls 5 [(3, .int y3)] → W p l e (rmOf 8 183) s m args below meth c H locs 0 0 Q (F0 m 67 ls [])) → W p l e (rmOf 8 183) s m args below meth c H locs 0 0 Q (F0 m 24 ls []) := by
    intro n
    induction n with
    | zero =>
      intro x3 x4 σ H locs ls out hf
      exact (it_0 hf).elim
    | succ n ih =>
      intro x3 x4 σ H locs ls out hf hW hl K24_67
      obtain ⟨x, hf, hx⟩ := it_s hf
      have hf : bX7_year_24 a0 p1 p2 x3 x4 σ = some x := hf
      delta bX7_year_24 at hf
      have J61 : ∀ (x3 : Int32) (x4 : Int32) (σ : Sg) (H : Heap) (locs : List Loc) (ls : Array Slot), jX7_year_61 a0 p1 p2 x3 x4 σ = some x → Ws G σ s.heap H locs → lv_has ls 5 [(0, .ref (gB G + a0)), (1, .int p1), (2, .int p2), (3, .int x3), (4, .int x4)] → W p l e (rmOf 8 183) s m args below meth c H locs 0 0 Q (F0 m 61 ls []) := by
        intro x3 x4 σ H locs ls hf hW hl
        delta jX7_year_61 at hf
        refine lv_iinc (v := _) (lv' := [(4, .int _), (0, .ref _), (1, .int _), (2, .int _), (3, .int _)]) C.1.1 C.1.2.1 dX7_year_61 hl (k := 4) rfl (ii (k := 1) (by decide)) (by decide) rfl (fun ls hl => ?_)
        refine lv_goto (tgt := 24) C.1.1 C.1.2.1 dX7_year_64 (by decide) ?_
        cases hf
        exact ih _ _ _ _ _ _ _ hx hW (lv_sub hl [1, 2, 3, 4, 0] rfl) K24_67
      refine lv_iload C.1.1 C.1.2.1 dX7_year_24 (lv_at hl 4 rfl) ?_
      refine lv_iload_n C.1.1 C.1.2.1 dX7_year_26 rfl (lv_at hl 2 rfl) ?_
      refine lv_icmp_ge (tgt := 67) C.1.1 C.1.2.1 dX7_year_27 (by decide) (fun h9 => ?_) (fun h9 => ?_)
      · replace hf := (if_pos h9).symm.trans hf
        cases hf
        cases hx
        exact K24_67 _ _ _ _ _ rfl hW (lv_sub hl [3] rfl)
      · replace hf := (if_neg h9).symm.trans hf
        refine lv_aload_n C.1.1 C.1.2.1 dX7_year_30 rfl (lv_at hl 0 rfl) ?_
        obtain ⟨σ12, hc11, hf⟩ := bd hf
        try dsimp only at hf
        refine cVv C hW (mX7_copies hk_a0 hc11) hk_a0 kvX7_copies w_1354 ⟨(Nat.le_of_ble_eq_true rfl), (Nat.le_of_ble_eq_true rfl)⟩ ⟨Nat.zero_le _, Nat.zero_le _⟩ rfl hl.1 (rest := []) rfl (Nat.le_of_ble_eq_true rfl) dX7_year_31 (fun H locs hW => ?_)
        refine lv_aload_n C.1.1 C.1.2.1 dX7_year_34 rfl (lv_at hl 0 rfl) ?_
        refine lv_dup C.1.1 C.1.2.1 dX7_year_35 rfl ?_
        refine gf7_49 C hW hk_a0 w_1079 dX7_year_36 ?_
        refine lv_iload C.1.1 C.1.2.1 dX7_year_39 (lv_at hl 4 rfl) ?_
        refine lv_iadd C.1.1 C.1.2.1 dX7_year_41 ?_
        refine pf7_49 C hW hk_a0 w_1079 dX7_year_42 (fun H locs hW => ?_)
        refine lv_aload_n C.1.1 C.1.2.1 dX7_year_45 rfl (lv_at hl 0 rfl) ?_
        refine lv_iload_n C.1.1 C.1.2.1 dX7_year_46 rfl (lv_at hl 1 rfl) ?_
        obtain ⟨σ18, hc17, hf⟩ := bd hf
        try dsimp only at hf
        refine cVv C hW (mX7_goes hk_a0 hc17) hk_a0 kvX7_goes w_1435 ⟨(Nat.le_of_ble_eq_true rfl), (Nat.le_of_ble_eq_true rfl)⟩ ⟨Nat.zero_le _, Nat.zero_le _⟩ rfl hl.1 (rest := []) rfl (Nat.le_of_ble_eq_true rfl) dX7_year_47 (fun H locs hW => ?_)
        refine lv_aload_n C.1.1 C.1.2.1 dX7_year_50 rfl (lv_at hl 0 rfl) ?_
        refine lv_iconst (v := 2) C.1.1 C.1.2.1 dX7_year_51 (by decide) ?_
        obtain ⟨⟨r24, σ23⟩, hc22, hf⟩ := bd hf
        try dsimp only at hf
        refine cVi C hW (mX7_soBits hk_a0 hc22) hk_a0 kvX7_soBits w_1366 ⟨(Nat.le_of_ble_eq_true rfl), (Nat.le_of_ble_eq_true rfl)⟩ ⟨Nat.zero_le _, Nat.zero_le _⟩ rfl hl.1 (rest := []) rfl (Nat.le_of_ble_eq_true rfl) dX7_year_52 (fun H locs hn25 hW => ?_)
        refine lv_if_ne (tgt := 61) C.1.1 C.1.2.1 dX7_year_55 (by decide) (fun h9 => ?_) (fun h9 => ?_)
        · replace hf := (if_neg h9).symm.trans hf
          exact J61 _ _ _ _ _ _ hf hW (lv_sub hl [0, 1, 2, 3, 4] rfl)
        · replace hf := (if_pos h9).symm.trans hf
          refine lv_iinc (v := _) (lv' := [(3, .int _), (0, .ref _), (1, .int _), (2, .int _), (4, .int _)]) C.1.1 C.1.2.1 dX7_year_58 hl (k := 3) rfl (ii (k := 1) (by decide)) (by decide) rfl (fun ls hl => ?_)
          exact J61 _ _ _ _ _ _ hf hW (lv_sub hl [1, 2, 3, 0, 4] rfl)
  refine lv_iload_n C.1.1 C.1.2.1 dX7_year_0 rfl (lv_at hl 1 rfl) ?_
  obtain ⟨⟨r3, σ2⟩, hc1, hf⟩ := bd hf
  try dsimp only at hf
  refine cSi C hW (mX7_isLong hc1) ksX7_isLong w_1432 ⟨(Nat.le_of_ble_eq_true rfl), (Nat.le_of_ble_eq_true rfl)⟩ ⟨Nat.zero_le _, Nat.zero_le _⟩ rfl hl.1 (rest := []) rfl (Nat.le_of_ble_eq_true rfl) dX7_year_1 (fun H locs hn4 hW => ?_)
  refine lv_if_eq (tgt := 17) C.1.1 C.1.2.1 dX7_year_4 (by decide) (fun h9 => ?_) (fun h9 => ?_)
  · replace hf := (if_pos h9).symm.trans hf
    refine lv_iconst (v := (-1)) C.1.1 C.1.2.1 dX7_year_17 (by decide) ?_
    exact ri hQ C hr hlk hW hf (rok_i _) dX7_year_18
  · replace hf := (if_neg h9).symm.trans hf
    refine lv_iload_n C.1.1 C.1.2.1 dX7_year_7 rfl (lv_at hl 2 rfl) ?_
    refine lv_iconst (v := 1) C.1.1 C.1.2.1 dX7_year_8 (by decide) ?_
    refine lv_bipush (v := 20) C.1.1 C.1.2.1 dX7_year_9 (by decide) ?_
    obtain ⟨⟨r8, σ7⟩, hc6, hf⟩ := bd hf
    try dsimp only at hf
    refine cSi C hW (mX7_in hc6) ksX7_in w_1351 ⟨(Nat.le_of_ble_eq_true rfl), (Nat.le_of_ble_eq_true rfl)⟩ ⟨Nat.zero_le _, Nat.zero_le _⟩ rfl hl.1 (rest := []) rfl (Nat.le_of_ble_eq_true rfl) dX7_year_11 (fun H locs hn9 hW => ?_)
    refine lv_if_ne (tgt := 19) C.1.1 C.1.2.1 dX7_year_14 (by decide) (fun h9 => ?_) (fun h9 => ?_)
    · replace hf := (if_neg h9).symm.trans hf
      refine lv_iconst (v := 0) C.1.1 C.1.2.1 dX7_year_19 (by decide) ?_
      refine lv_istore_n (lv' := [(3, .int _), (0, .ref _), (1, .int _), (2, .int _)]) C.1.1 C.1.2.1 dX7_year_20 rfl hl (by decide) rfl (fun ls hl => ?_)
      refine lv_iconst (v := 0) C.1.1 C.1.2.1 dX7_year_21 (by decide) ?_
      refine lv_istore (lv' := [(4, .int _), (3, .int _), (0, .ref _), (1, .int _), (2, .int _)]) C.1.1 C.1.2.1 dX7_year_22 hl (by decide) rfl (fun ls hl => ?_)
      obtain ⟨o29, ho, hf⟩ := bd hf
      obtain ⟨n, ho⟩ := lp_it ho
      refine L24 n _ _ _ _ _ _ o29 ho hW (lv_sub hl [2, 3, 4, 1, 0] rfl) ?_
      intro y31 σ30 H locs ls e9 hW hl
      subst e9
      try dsimp only at hf
      refine lv_iload_n C.1.1 C.1.2.1 dX7_year_67 rfl (lv_at hl 0 rfl) ?_
      exact ri hQ C hr hlk hW hf (rok_i _) dX7_year_68
    · replace hf := (if_pos h9).symm.trans hf
      refine lv_iconst (v := (-1)) C.1.1 C.1.2.1 dX7_year_17 (by decide) ?_
      exact ri hQ C hr hlk hW hf (rok_i _) dX7_year_18
theorem kvX7_tell : KV 7 "RightKeysModel" yX7_tell cX7_tell 3 (some .int) 2 := ⟨⟨w_1624, w_1625, w_116, w_1626⟩, ⟨rfl, by decide, by decide, by decide +kernel⟩, by decide, rfl⟩
noncomputable def jX7_tell_46 (a0 : Nat) (p1 : Int32) (p2 : Int32) (s0 : Nat) (s1 : Int32) (s2 : Int32) (σ : Sg) : Option (Int32 × Sg) := if vin s1 20 then (let σ11 := wI σ s0 ((s1).toNatClampNeg) s2; (let σ12 := wI σ11 a0 61 ((σ11.1 a0 61) + (1 : Int32)); some (((σ12.1 a0 61) - (1 : Int32)), σ12))) else none
noncomputable def fX7_tell (a0 : Nat) (p1 : Int32) (p2 : Int32) (σ : Sg) : Option (Int32 × Sg) := if (σ.1 a0 61) = (20 : Int32) then (some ((-1 : Int32), σ)) else ((fX7_isHouse a0 p1 σ).bind (fun q5 => let r3 := q5.1; let σ2 := q5.2; if r3 = 0 then (some ((-1 : Int32), σ2)) else (if vin (σ2.1 a0 61) 20 then (let σ8 := wI σ2 (a0 + 35) (((σ2.1 a0 61)).toNatClampNeg) p1; if p2 = 0 then (jX7_tell_46 a0 p1 p2 (a0 + 36) (σ8.1 a0 61) (0 : Int32) σ8) else (jX7_tell_46 a0 p1 p2 (a0 + 36) (σ8.1 a0 61) (1 : Int32) σ8)) else none)))
set_option maxRecDepth 100000 in
set_option maxHeartbeats 4000000 in
theorem mX7_tell {l : Launch} {G : Gm} {a0 : Nat} {p1 : Int32} {p2 : Int32} {σ : Sg} {r : Int32} {σ' : Sg} (hk_a0 : gK G a0 = 8) (hf : fX7_tell a0 p1 p2 σ = some (r, σ')) : Mi l G yX7_tell cX7_tell 3 .int 2 43 [.ref (gB G + a0), .int p1, .int p2] σ r σ' := by
  refine of_W "RightKeysModel" rfl (by decide) (Nat.le_of_ble_eq_true rfl) ?_
  intro p e s m args below meth c Q hQ C hr hlk hW ls hl
  have h00 := hW.1
  have hl : lv_has ls 3 [(0, .ref (gB G + a0)), (1, .int p1), (2, .int p2)] := hl
  delta fX7_tell at hf
  have J46 : ∀ (s0 : Nat) (s1 : Int32) (s2 : Int32) (σ : Sg) (H : Heap) (locs : List Loc) (ls : Array Slot) (hk_s0 : gK G s0 = kA 1 20), jX7_tell_46 a0 p1 p2 s0 s1 s2 σ = some (r, σ') → Ws G σ s.heap H locs → lv_has ls 3 [(0, .ref (gB G + a0))] → W p l e (rmOf 2 43) s m args below meth c H locs 0 0 Q (F0 m 46 ls [.int s2, .int s1, .ref (gB G + s0)]) := by
    intro s0 s1 s2 σ H locs ls hk_s0 hf hW hl
    delta jX7_tell_46 at hf
    obtain ⟨hv10, hf⟩ := gd hf
    refine wsi C hW hk_s0 (vin_p hv10) dX7_tell_46 (fun H locs hW => ?_)
    refine lv_aload_n C.1.1 C.1.2.1 dX7_tell_47 rfl (lv_at hl 0 rfl) ?_
    refine lv_dup C.1.1 C.1.2.1 dX7_tell_48 rfl ?_
    refine gf7_61 C hW hk_a0 w_1091 dX7_tell_49 ?_
    refine lv_iconst (v := 1) C.1.1 C.1.2.1 dX7_tell_52 (by decide) ?_
    refine lv_iadd C.1.1 C.1.2.1 dX7_tell_53 ?_
    refine pf7_61 C hW hk_a0 w_1091 dX7_tell_54 (fun H locs hW => ?_)
    refine lv_aload_n C.1.1 C.1.2.1 dX7_tell_57 rfl (lv_at hl 0 rfl) ?_
    refine gf7_61 C hW hk_a0 w_1091 dX7_tell_58 ?_
    refine lv_iconst (v := 1) C.1.1 C.1.2.1 dX7_tell_61 (by decide) ?_
    refine lv_isub C.1.1 C.1.2.1 dX7_tell_62 ?_
    exact ri hQ C hr hlk hW hf (rok_i _) dX7_tell_63
  refine lv_aload_n C.1.1 C.1.2.1 dX7_tell_0 rfl (lv_at hl 0 rfl) ?_
  refine gf7_61 C hW hk_a0 w_1091 dX7_tell_1 ?_
  refine lv_bipush (v := 20) C.1.1 C.1.2.1 dX7_tell_4 (by decide) ?_
  refine lv_icmp_eq (tgt := 17) C.1.1 C.1.2.1 dX7_tell_6 (by decide) (fun h9 => ?_) (fun h9 => ?_)
  · replace hf := (if_pos h9).symm.trans hf
    refine lv_iconst (v := (-1)) C.1.1 C.1.2.1 dX7_tell_17 (by decide) ?_
    exact ri hQ C hr hlk hW hf (rok_i _) dX7_tell_18
  · replace hf := (if_neg h9).symm.trans hf
    refine lv_aload_n C.1.1 C.1.2.1 dX7_tell_9 rfl (lv_at hl 0 rfl) ?_
    refine lv_iload_n C.1.1 C.1.2.1 dX7_tell_10 rfl (lv_at hl 1 rfl) ?_
    obtain ⟨⟨r3, σ2⟩, hc1, hf⟩ := bd hf
    try dsimp only at hf
    refine cVi C hW (mX7_isHouse hk_a0 hc1) hk_a0 kvX7_isHouse w_1347 ⟨(Nat.le_of_ble_eq_true rfl), (Nat.le_of_ble_eq_true rfl)⟩ ⟨Nat.zero_le _, Nat.zero_le _⟩ rfl hl.1 (rest := []) rfl (Nat.le_of_ble_eq_true rfl) dX7_tell_11 (fun H locs hn4 hW => ?_)
    refine lv_if_ne (tgt := 19) C.1.1 C.1.2.1 dX7_tell_14 (by decide) (fun h9 => ?_) (fun h9 => ?_)
    · replace hf := (if_neg h9).symm.trans hf
      refine lv_aload_n C.1.1 C.1.2.1 dX7_tell_19 rfl (lv_at hl 0 rfl) ?_
      have hk6 := sh7_62 hW hk_a0
      refine gf7_62 C hW hk_a0 w_1092 dX7_tell_20 ?_
      refine lv_aload_n C.1.1 C.1.2.1 dX7_tell_23 rfl (lv_at hl 0 rfl) ?_
      refine gf7_61 C hW hk_a0 w_1091 dX7_tell_24 ?_
      refine lv_iload_n C.1.1 C.1.2.1 dX7_tell_27 rfl (lv_at hl 1 rfl) ?_
      obtain ⟨hv7, hf⟩ := gd hf
      refine wsi C hW hk6 (vin_p hv7) dX7_tell_28 (fun H locs hW => ?_)
      refine lv_aload_n C.1.1 C.1.2.1 dX7_tell_29 rfl (lv_at hl 0 rfl) ?_
      have hk9 := sh7_63 hW hk_a0
      refine gf7_63 C hW hk_a0 w_1093 dX7_tell_30 ?_
      refine lv_aload_n C.1.1 C.1.2.1 dX7_tell_33 rfl (lv_at hl 0 rfl) ?_
      refine gf7_61 C hW hk_a0 w_1091 dX7_tell_34 ?_
      refine lv_iload_n C.1.1 C.1.2.1 dX7_tell_37 rfl (lv_at hl 2 rfl) ?_
      refine lv_if_eq (tgt := 45) C.1.1 C.1.2.1 dX7_tell_38 (by decide) (fun h9 => ?_) (fun h9 => ?_)
      · replace hf := (if_pos h9).symm.trans hf
        refine lv_iconst (v := 0) C.1.1 C.1.2.1 dX7_tell_45 (by decide) ?_
        exact J46 _ _ _ _ _ _ _ hk9 hf hW (lv_sub hl [0] rfl)
      · replace hf := (if_neg h9).symm.trans hf
        refine lv_iconst (v := 1) C.1.1 C.1.2.1 dX7_tell_41 (by decide) ?_
        refine lv_goto (tgt := 46) C.1.1 C.1.2.1 dX7_tell_42 (by decide) ?_
        exact J46 _ _ _ _ _ _ _ hk9 hf hW (lv_sub hl [0] rfl)
    · replace hf := (if_pos h9).symm.trans hf
      refine lv_iconst (v := (-1)) C.1.1 C.1.2.1 dX7_tell_17 (by decide) ?_
      exact ri hQ C hr hlk hW hf (rok_i _) dX7_tell_18
theorem kvX7_forget : KV 7 "RightKeysModel" yX7_forget cX7_forget 2 (some .int) 0 := ⟨⟨w_1628, w_1629, w_116, w_1630⟩, ⟨rfl, by decide, by decide, by decide +kernel⟩, by decide, rfl⟩
noncomputable def fX7_forget (a0 : Nat) (σ : Sg) : Option (Int32 × Sg) := (let x1_1 := (σ.1 a0 61); let σ2 := wI σ a0 61 (0 : Int32); some (x1_1, σ2))
set_option maxRecDepth 100000 in
set_option maxHeartbeats 4000000 in
theorem mX7_forget {l : Launch} {G : Gm} {a0 : Nat} {σ : Sg} {r : Int32} {σ' : Sg} (hk_a0 : gK G a0 = 8) (hf : fX7_forget a0 σ = some (r, σ')) : Mi l G yX7_forget cX7_forget 2 .int 0 0 [.ref (gB G + a0)] σ r σ' := by
  refine of_W "RightKeysModel" rfl (by decide) (Nat.le_of_ble_eq_true rfl) ?_
  intro p e s m args below meth c Q hQ C hr hlk hW ls hl
  have h00 := hW.1
  have hl : lv_has ls 2 [(0, .ref (gB G + a0))] := hl
  delta fX7_forget at hf
  refine lv_aload_n C.1.1 C.1.2.1 dX7_forget_0 rfl (lv_at hl 0 rfl) ?_
  refine gf7_61 C hW hk_a0 w_1091 dX7_forget_1 ?_
  refine lv_istore_n (lv' := [(1, .int _), (0, .ref _)]) C.1.1 C.1.2.1 dX7_forget_4 rfl hl (by decide) rfl (fun ls hl => ?_)
  refine lv_aload_n C.1.1 C.1.2.1 dX7_forget_5 rfl (lv_at hl 1 rfl) ?_
  refine lv_iconst (v := 0) C.1.1 C.1.2.1 dX7_forget_6 (by decide) ?_
  refine pf7_61 C hW hk_a0 w_1091 dX7_forget_7 (fun H locs hW => ?_)
  refine lv_iload_n C.1.1 C.1.2.1 dX7_forget_10 rfl (lv_at hl 0 rfl) ?_
  exact ri hQ C hr hlk hW hf (rok_i _) dX7_forget_11
theorem kvX7_oversleptBits : KV 7 "RightKeysModel" yX7_oversleptBits cX7_oversleptBits 6 (some .int) 1 := ⟨⟨w_1637, w_107, w_116, w_1638⟩, ⟨rfl, by decide, by decide, by decide +kernel⟩, by decide, rfl⟩
noncomputable def jX7_oversleptBits_69 (a0 : Nat) (p1 : Int32) (x2 : Int32) (x3 : Int32) (x4 : Int32) (x5 : Int32) (σ : Sg) : Option ((Int32 × Int32 × Sg) ⊕ (Int32 × Sg)) := (let x5_16 := x5 + (1 : Int32); some (Sum.inl (x4, x5_16, σ)))
noncomputable def bX7_oversleptBits_34 (a0 : Nat) (p1 : Int32) (x2 : Int32) (x3 : Int32) (x4 : Int32) (x5 : Int32) (σ : Sg) : Option ((Int32 × Int32 × Sg) ⊕ (Int32 × Sg)) := if p1 ≤ x5 then (some (Sum.inr (x4, σ))) else (if vin x3 8 then (if vin x5 20 then (if (((σ.1 (a0 + 37) ((x3).toNatClampNeg)) >>> ((σ.1 (a0 + 35) ((x5).toNatClampNeg)) &&& 31)) &&& (1 : Int32)) = (σ.1 (a0 + 36) ((x5).toNatClampNeg)) then (jX7_oversleptBits_69 a0 p1 x2 x3 x4 x5 σ) else (jX7_oversleptBits_69 a0 p1 x2 x3 (0 : Int32) x5 σ)) else none) else none)
noncomputable def jX7_oversleptBits_86 (a0 : Nat) (p1 : Int32) (x2 : Int32) (x3 : Int32) (σ : Sg) : Option ((Int32 × Int32 × Sg) ⊕ (Int32 × Sg)) := (let x3_20 := x3 + (1 : Int32); some (Sum.inl (x2, x3_20, σ)))
noncomputable def bX7_oversleptBits_4 (a0 : Nat) (p1 : Int32) (x2 : Int32) (x3 : Int32) (σ : Sg) : Option ((Int32 × Int32 × Sg) ⊕ (Int32 × Sg)) := if vin (σ.1 a0 18) 2 then (if (σ.1 (a0 + 9) (((σ.1 a0 18)).toNatClampNeg)) ≤ x3 then (some (Sum.inr (x2, σ))) else ((fX7_stoodWithout a0 x3 σ).bind (fun q8 => let r6 := q8.1; let σ5 := q8.2; if vin x3 8 then (let σ10 := wI σ5 (a0 + 37) ((x3).toNatClampNeg) r6; (lp (fun st => bX7_oversleptBits_34 a0 p1 x2 x3 st.1 st.2.1 st.2.2) ((1 : Int32), (0 : Int32), σ10)).bind (fun q22 => let y19 := q22.1; let σ18 := q22.2;  if y19 = 0 then (jX7_oversleptBits_86 a0 p1 x2 x3 σ18) else ((let x2_21 := (x2 ||| ((1 : Int32) <<< (x3 &&& 31))); jX7_oversleptBits_86 a0 p1 x2_21 x3 σ18)))) else none))) else none
noncomputable def fX7_oversleptBits (a0 : Nat) (p1 : Int32) (σ : Sg) : Option (Int32 × Sg) := (lp (fun st => bX7_oversleptBits_4 a0 p1 st.1 st.2.1 st.2.2) ((0 : Int32), (0 : Int32), σ)).bind (fun q26 => let y25 := q26.1; let σ24 := q26.2;  some (y25, σ24))
set_option maxRecDepth 100000 in
set_option maxHeartbeats 4000000 in
theorem mX7_oversleptBits {l : Launch} {G : Gm} {a0 : Nat} {p1 : Int32} {σ : Sg} {r : Int32} {σ' : Sg} (hk_a0 : gK G a0 = 8) (hf : fX7_oversleptBits a0 p1 σ = some (r, σ')) : Mi l G yX7_oversleptBits cX7_oversleptBits 6 .int 9 206 [.ref (gB G + a0), .int p1] σ r σ' := by
  refine of_W "RightKeysModel" rfl (by decide) (Nat.le_of_ble_eq_true rfl) ?_
  intro p e s m args below meth c Q hQ C hr hlk hW ls hl
  have h00 := hW.1
  have hl : lv_has ls 6 [(0, .ref (gB G + a0)), (1, .int p1)] := hl
  delta fX7_oversleptBits at hf
  have L4 : ∀ (n : Nat) (x2 : Int32) (x3 : Int32) (σ : Sg) (H : Heap) (locs : List Loc) (ls : Array Slot) (out : (Int32 × Sg)), iter (fun st => bX7_oversleptBits_4 a0 p1 st.1 st.2.1 st.2.2) n (x2, x3, σ) = some out → Ws G σ s.heap H locs → lv_has ls 6 [(0, .ref (gB G + a0)), (1, .int p1), (2, .int x2), (3, .int x3)] → (∀ (y2 : Int32) (σ : Sg) (H : Heap) (locs : List Loc) (ls : Array Slot), out = (y2, σ) → Ws G σ s.heap H locs → lv_has ls 6 [(2, .int y2)] → W p l e (rmOf 9 206) s m args below meth c H locs 0 0 Q (F0 m 92 ls [])) → W p l e (rmOf 9 206) s m args below meth c H locs 0 0 Q (F0 m 4 ls []) := by
    intro n
    induction n with
    | zero =>
      intro x2 x3 σ H locs ls out hf
      exact (it_0 hf).elim
    | succ n ih =>
      intro x2 x3 σ H locs ls out hf hW hl K4_92
      obtain ⟨x, hf, hx⟩ := it_s hf
      have hf : bX7_oversleptBits_4 a0 p1 x2 x3 σ = some x := hf
      delta bX7_oversleptBits_4 at hf
      have L34 : ∀ (x2 : Int32) (x3 : Int32) (n : Nat) (x4 : Int32) (x5 : Int32) (σ : Sg) (H : Heap) (locs : List Loc) (ls : Array Slot) (out : (Int32 × Sg)), iter (fun st => bX7_oversleptBits_34 a0 p1 x2 x3 st.1 st.2.1 st.2.2) n (x4, x5, σ) = some out → Ws G σ s.heap H locs → lv_has ls 6 [(0, .ref (gB G + a0)), (1, .int p1), (2, .int x2), (3, .int x3), (4, .int x4), (5, .int x5)] → (∀ (y4 : Int32) (σ : Sg) (H : Heap) (locs : List Loc) (ls : Array Slot), out = (y4, σ) → Ws G σ s.heap H locs → lv_has ls 6 [(0, .ref (gB G + a0)), (1, .int p1), (2, .int x2), (3, .int x3), (4, .int y4)] → W p l e (rmOf 9 206) s m args below meth c H locs 0 0 Q (F0 m 75 ls [])) → W p l e (rmOf 9 206) s m args below meth c H locs 0 0 Q (F0 m 34 ls []) := by
        intro x2 x3 n
        induction n with
        | zero =>
          intro x4 x5 σ H locs ls out hf
          exact (it_0 hf).elim
        | succ n ih =>
          intro x4 x5 σ H locs ls out hf hW hl K34_75
          obtain ⟨x, hf, hx⟩ := it_s hf
          have hf : bX7_oversleptBits_34 a0 p1 x2 x3 x4 x5 σ = some x := hf
          delta bX7_oversleptBits_34 at hf
          have J69 : ∀ (x4 : Int32) (x5 : Int32) (σ : Sg) (H : Heap) (locs : List Loc) (ls : Array Slot), jX7_oversleptBits_69 a0 p1 x2 x3 x4 x5 σ = some x → Ws G σ s.heap H locs → lv_has ls 6 [(0, .ref (gB G + a0)), (1, .int p1), (2, .int x2), (3, .int x3), (4, .int x4), (5, .int x5)] → W p l e (rmOf 9 206) s m args below meth c H locs 0 0 Q (F0 m 69 ls []) := by
            intro x4 x5 σ H locs ls hf hW hl
            delta jX7_oversleptBits_69 at hf
            refine lv_iinc (v := _) (lv' := [(5, .int _), (0, .ref _), (1, .int _), (2, .int _), (3, .int _), (4, .int _)]) C.1.1 C.1.2.1 dX7_oversleptBits_69 hl (k := 5) rfl (ii (k := 1) (by decide)) (by decide) rfl (fun ls hl => ?_)
            refine lv_goto (tgt := 34) C.1.1 C.1.2.1 dX7_oversleptBits_72 (by decide) ?_
            cases hf
            exact ih _ _ _ _ _ _ _ hx hW (lv_sub hl [1, 2, 3, 4, 5, 0] rfl) K34_75
          refine lv_iload C.1.1 C.1.2.1 dX7_oversleptBits_34 (lv_at hl 5 rfl) ?_
          refine lv_iload_n C.1.1 C.1.2.1 dX7_oversleptBits_36 rfl (lv_at hl 1 rfl) ?_
          refine lv_icmp_ge (tgt := 75) C.1.1 C.1.2.1 dX7_oversleptBits_37 (by decide) (fun h9 => ?_) (fun h9 => ?_)
          · replace hf := (if_pos h9).symm.trans hf
            cases hf
            cases hx
            exact K34_75 _ _ _ _ _ rfl hW (lv_sub hl [0, 1, 2, 3, 4] rfl)
          · replace hf := (if_neg h9).symm.trans hf
            refine lv_aload_n C.1.1 C.1.2.1 dX7_oversleptBits_40 rfl (lv_at hl 0 rfl) ?_
            have hk11 := sh7_64 hW hk_a0
            refine gf7_64 C hW hk_a0 w_1094 dX7_oversleptBits_41 ?_
            refine lv_iload_n C.1.1 C.1.2.1 dX7_oversleptBits_44 rfl (lv_at hl 3 rfl) ?_
            obtain ⟨hv12, hf⟩ := gd hf
            refine wai C hW hk11 (vin_p hv12) dX7_oversleptBits_45 ?_
            refine lv_aload_n C.1.1 C.1.2.1 dX7_oversleptBits_46 rfl (lv_at hl 0 rfl) ?_
            have hk13 := sh7_62 hW hk_a0
            refine gf7_62 C hW hk_a0 w_1092 dX7_oversleptBits_47 ?_
            refine lv_iload C.1.1 C.1.2.1 dX7_oversleptBits_50 (lv_at hl 5 rfl) ?_
            obtain ⟨hv14, hf⟩ := gd hf
            refine wai C hW hk13 (vin_p hv14) dX7_oversleptBits_52 ?_
            refine lv_ishr C.1.1 C.1.2.1 dX7_oversleptBits_53 ?_
            refine lv_iconst (v := 1) C.1.1 C.1.2.1 dX7_oversleptBits_54 (by decide) ?_
            refine lv_iand C.1.1 C.1.2.1 dX7_oversleptBits_55 ?_
            refine lv_aload_n C.1.1 C.1.2.1 dX7_oversleptBits_56 rfl (lv_at hl 0 rfl) ?_
            have hk15 := sh7_63 hW hk_a0
            refine gf7_63 C hW hk_a0 w_1093 dX7_oversleptBits_57 ?_
            refine lv_iload C.1.1 C.1.2.1 dX7_oversleptBits_60 (lv_at hl 5 rfl) ?_
            refine wai C hW hk15 (vin_p hv14) dX7_oversleptBits_62 ?_
            refine lv_icmp_eq (tgt := 69) C.1.1 C.1.2.1 dX7_oversleptBits_63 (by decide) (fun h9 => ?_) (fun h9 => ?_)
            · replace hf := (if_pos h9).symm.trans hf
              exact J69 _ _ _ _ _ _ hf hW (lv_sub hl [0, 1, 2, 3, 4, 5] rfl)
            · replace hf := (if_neg h9).symm.trans hf
              refine lv_iconst (v := 0) C.1.1 C.1.2.1 dX7_oversleptBits_66 (by decide) ?_
              refine lv_istore (lv' := [(4, .int _), (0, .ref _), (1, .int _), (2, .int _), (3, .int _), (5, .int _)]) C.1.1 C.1.2.1 dX7_oversleptBits_67 hl (by decide) rfl (fun ls hl => ?_)
              exact J69 _ _ _ _ _ _ hf hW (lv_sub hl [1, 2, 3, 4, 0, 5] rfl)
      have J86 : ∀ (x2 : Int32) (x3 : Int32) (σ : Sg) (H : Heap) (locs : List Loc) (ls : Array Slot), jX7_oversleptBits_86 a0 p1 x2 x3 σ = some x → Ws G σ s.heap H locs → lv_has ls 6 [(0, .ref (gB G + a0)), (1, .int p1), (2, .int x2), (3, .int x3)] → W p l e (rmOf 9 206) s m args below meth c H locs 0 0 Q (F0 m 86 ls []) := by
        intro x2 x3 σ H locs ls hf hW hl
        delta jX7_oversleptBits_86 at hf
        refine lv_iinc (v := _) (lv' := [(3, .int _), (0, .ref _), (1, .int _), (2, .int _)]) C.1.1 C.1.2.1 dX7_oversleptBits_86 hl (k := 3) rfl (ii (k := 1) (by decide)) (by decide) rfl (fun ls hl => ?_)
        refine lv_goto (tgt := 4) C.1.1 C.1.2.1 dX7_oversleptBits_89 (by decide) ?_
        cases hf
        exact ih _ _ _ _ _ _ _ hx hW (lv_sub hl [1, 2, 3, 0] rfl) K4_92
      refine lv_iload_n C.1.1 C.1.2.1 dX7_oversleptBits_4 rfl (lv_at hl 3 rfl) ?_
      refine lv_aload_n C.1.1 C.1.2.1 dX7_oversleptBits_5 rfl (lv_at hl 0 rfl) ?_
      have hk1 := sh7_22 hW hk_a0
      refine gf7_22 C hW hk_a0 w_1052 dX7_oversleptBits_6 ?_
      refine lv_aload_n C.1.1 C.1.2.1 dX7_oversleptBits_9 rfl (lv_at hl 0 rfl) ?_
      refine gf7_18 C hW hk_a0 w_1048 dX7_oversleptBits_10 ?_
      obtain ⟨hv2, hf⟩ := gd hf
      refine wai C hW hk1 (vin_p hv2) dX7_oversleptBits_13 ?_
      refine lv_icmp_ge (tgt := 92) C.1.1 C.1.2.1 dX7_oversleptBits_14 (by decide) (fun h9 => ?_) (fun h9 => ?_)
      · replace hf := (if_pos h9).symm.trans hf
        cases hf
        cases hx
        exact K4_92 _ _ _ _ _ rfl hW (lv_sub hl [2] rfl)
      · replace hf := (if_neg h9).symm.trans hf
        refine lv_aload_n C.1.1 C.1.2.1 dX7_oversleptBits_17 rfl (lv_at hl 0 rfl) ?_
        have hk3 := sh7_64 hW hk_a0
        refine gf7_64 C hW hk_a0 w_1094 dX7_oversleptBits_18 ?_
        refine lv_iload_n C.1.1 C.1.2.1 dX7_oversleptBits_21 rfl (lv_at hl 3 rfl) ?_
        refine lv_aload_n C.1.1 C.1.2.1 dX7_oversleptBits_22 rfl (lv_at hl 0 rfl) ?_
        refine lv_iload_n C.1.1 C.1.2.1 dX7_oversleptBits_23 rfl (lv_at hl 3 rfl) ?_
        obtain ⟨⟨r6, σ5⟩, hc4, hf⟩ := bd hf
        try dsimp only at hf
        refine cVi C hW (mX7_stoodWithout hk_a0 hc4) hk_a0 kvX7_stoodWithout w_1611 ⟨(Nat.le_of_ble_eq_true rfl), (Nat.le_of_ble_eq_true rfl)⟩ ⟨Nat.zero_le _, Nat.zero_le _⟩ rfl hl.1 (rest := [.int _, .ref _]) rfl (Nat.le_of_ble_eq_true rfl) dX7_oversleptBits_24 (fun H locs hn7 hW => ?_)
        obtain ⟨hv9, hf⟩ := gd hf
        refine wsi C hW hk3 (vin_p hv9) dX7_oversleptBits_27 (fun H locs hW => ?_)
        refine lv_iconst (v := 1) C.1.1 C.1.2.1 dX7_oversleptBits_28 (by decide) ?_
        refine lv_istore (lv' := [(4, .int _), (0, .ref _), (1, .int _), (2, .int _), (3, .int _)]) C.1.1 C.1.2.1 dX7_oversleptBits_29 hl (by decide) rfl (fun ls hl => ?_)
        refine lv_iconst (v := 0) C.1.1 C.1.2.1 dX7_oversleptBits_31 (by decide) ?_
        refine lv_istore (lv' := [(5, .int _), (4, .int _), (0, .ref _), (1, .int _), (2, .int _), (3, .int _)]) C.1.1 C.1.2.1 dX7_oversleptBits_32 hl (by decide) rfl (fun ls hl => ?_)
        obtain ⟨o17, ho, hf⟩ := bd hf
        obtain ⟨n, ho⟩ := lp_it ho
        refine L34 _ _ n _ _ _ _ _ _ o17 ho hW (lv_sub hl [2, 3, 4, 5, 1, 0] rfl) ?_
        intro y19 σ18 H locs ls e9 hW hl
        subst e9
        try dsimp only at hf
        refine lv_iload C.1.1 C.1.2.1 dX7_oversleptBits_75 (lv_at hl 4 rfl) ?_
        refine lv_if_eq (tgt := 86) C.1.1 C.1.2.1 dX7_oversleptBits_77 (by decide) (fun h9 => ?_) (fun h9 => ?_)
        · replace hf := (if_pos h9).symm.trans hf
          exact J86 _ _ _ _ _ _ hf hW (lv_sub hl [0, 1, 2, 3] rfl)
        · replace hf := (if_neg h9).symm.trans hf
          refine lv_iload_n C.1.1 C.1.2.1 dX7_oversleptBits_80 rfl (lv_at hl 2 rfl) ?_
          refine lv_iconst (v := 1) C.1.1 C.1.2.1 dX7_oversleptBits_81 (by decide) ?_
          refine lv_iload_n C.1.1 C.1.2.1 dX7_oversleptBits_82 rfl (lv_at hl 3 rfl) ?_
          refine lv_ishl C.1.1 C.1.2.1 dX7_oversleptBits_83 ?_
          refine lv_ior C.1.1 C.1.2.1 dX7_oversleptBits_84 ?_
          refine lv_istore_n (lv' := [(2, .int _), (0, .ref _), (1, .int _), (3, .int _), (4, .int _)]) C.1.1 C.1.2.1 dX7_oversleptBits_85 rfl hl (by decide) rfl (fun ls hl => ?_)
          exact J86 _ _ _ _ _ _ hf hW (lv_sub hl [1, 2, 0, 3] rfl)
  refine lv_iconst (v := 0) C.1.1 C.1.2.1 dX7_oversleptBits_0 (by decide) ?_
  refine lv_istore_n (lv' := [(2, .int _), (0, .ref _), (1, .int _)]) C.1.1 C.1.2.1 dX7_oversleptBits_1 rfl hl (by decide) rfl (fun ls hl => ?_)
  refine lv_iconst (v := 0) C.1.1 C.1.2.1 dX7_oversleptBits_2 (by decide) ?_
  refine lv_istore_n (lv' := [(3, .int _), (2, .int _), (0, .ref _), (1, .int _)]) C.1.1 C.1.2.1 dX7_oversleptBits_3 rfl hl (by decide) rfl (fun ls hl => ?_)
  obtain ⟨o23, ho, hf⟩ := bd hf
  obtain ⟨n, ho⟩ := lp_it ho
  refine L4 n _ _ _ _ _ _ o23 ho hW (lv_sub hl [2, 3, 1, 0] rfl) ?_
  intro y25 σ24 H locs ls e9 hW hl
  subst e9
  try dsimp only at hf
  refine lv_iload_n C.1.1 C.1.2.1 dX7_oversleptBits_92 rfl (lv_at hl 0 rfl) ?_
  exact ri hQ C hr hlk hW hf (rok_i _) dX7_oversleptBits_93
theorem kvX7_overslept : KV 7 "RightKeysModel" yX7_overslept cX7_overslept 4 (some .int) 2 := ⟨⟨w_1632, w_1633, w_116, w_1634⟩, ⟨rfl, by decide, by decide, by decide +kernel⟩, by decide, rfl⟩
noncomputable def fX7_overslept (a0 : Nat) (p1 : Int32) (p2 : Int32) (σ : Sg) : Option (Int32 × Sg) := (fX7_in p1 (0 : Int32) (σ.1 a0 61) σ).bind (fun q5 => let r3 := q5.1; let σ2 := q5.2; if r3 = 0 then (some ((-1 : Int32), σ2)) else ((fX7_in p2 (0 : Int32) (1 : Int32) σ2).bind (fun q10 => let r8 := q10.1; let σ7 := q10.2; if r8 = 0 then (some ((-1 : Int32), σ7)) else ((fX7_oversleptBits a0 p1 σ7).bind (fun q15 => let r13 := q15.1; let σ12 := q15.2; if p2 = 0 then ((fX7_bits r13 σ12).bind (fun q20 => let r18 := q20.1; let σ17 := q20.2; some (r18, σ17))) else (some (r13, σ12)))))))
set_option maxRecDepth 100000 in
set_option maxHeartbeats 4000000 in
theorem mX7_overslept {l : Launch} {G : Gm} {a0 : Nat} {p1 : Int32} {p2 : Int32} {σ : Sg} {r : Int32} {σ' : Sg} (hk_a0 : gK G a0 = 8) (hf : fX7_overslept a0 p1 p2 σ = some (r, σ')) : Mi l G yX7_overslept cX7_overslept 4 .int 10 231 [.ref (gB G + a0), .int p1, .int p2] σ r σ' := by
  refine of_W "RightKeysModel" rfl (by decide) (Nat.le_of_ble_eq_true rfl) ?_
  intro p e s m args below meth c Q hQ C hr hlk hW ls hl
  have h00 := hW.1
  have hl : lv_has ls 4 [(0, .ref (gB G + a0)), (1, .int p1), (2, .int p2)] := hl
  delta fX7_overslept at hf
  refine lv_iload_n C.1.1 C.1.2.1 dX7_overslept_0 rfl (lv_at hl 1 rfl) ?_
  refine lv_iconst (v := 0) C.1.1 C.1.2.1 dX7_overslept_1 (by decide) ?_
  refine lv_aload_n C.1.1 C.1.2.1 dX7_overslept_2 rfl (lv_at hl 0 rfl) ?_
  refine gf7_61 C hW hk_a0 w_1091 dX7_overslept_3 ?_
  obtain ⟨⟨r3, σ2⟩, hc1, hf⟩ := bd hf
  try dsimp only at hf
  refine cSi C hW (mX7_in hc1) ksX7_in w_1351 ⟨(Nat.le_of_ble_eq_true rfl), (Nat.le_of_ble_eq_true rfl)⟩ ⟨Nat.zero_le _, Nat.zero_le _⟩ rfl hl.1 (rest := []) rfl (Nat.le_of_ble_eq_true rfl) dX7_overslept_6 (fun H locs hn4 hW => ?_)
  refine lv_if_eq (tgt := 21) C.1.1 C.1.2.1 dX7_overslept_9 (by decide) (fun h9 => ?_) (fun h9 => ?_)
  · replace hf := (if_pos h9).symm.trans hf
    refine lv_iconst (v := (-1)) C.1.1 C.1.2.1 dX7_overslept_21 (by decide) ?_
    exact ri hQ C hr hlk hW hf (rok_i _) dX7_overslept_22
  · replace hf := (if_neg h9).symm.trans hf
    refine lv_iload_n C.1.1 C.1.2.1 dX7_overslept_12 rfl (lv_at hl 2 rfl) ?_
    refine lv_iconst (v := 0) C.1.1 C.1.2.1 dX7_overslept_13 (by decide) ?_
    refine lv_iconst (v := 1) C.1.1 C.1.2.1 dX7_overslept_14 (by decide) ?_
    obtain ⟨⟨r8, σ7⟩, hc6, hf⟩ := bd hf
    try dsimp only at hf
    refine cSi C hW (mX7_in hc6) ksX7_in w_1351 ⟨(Nat.le_of_ble_eq_true rfl), (Nat.le_of_ble_eq_true rfl)⟩ ⟨Nat.zero_le _, Nat.zero_le _⟩ rfl hl.1 (rest := []) rfl (Nat.le_of_ble_eq_true rfl) dX7_overslept_15 (fun H locs hn9 hW => ?_)
    refine lv_if_ne (tgt := 23) C.1.1 C.1.2.1 dX7_overslept_18 (by decide) (fun h9 => ?_) (fun h9 => ?_)
    · replace hf := (if_neg h9).symm.trans hf
      refine lv_aload_n C.1.1 C.1.2.1 dX7_overslept_23 rfl (lv_at hl 0 rfl) ?_
      refine lv_iload_n C.1.1 C.1.2.1 dX7_overslept_24 rfl (lv_at hl 1 rfl) ?_
      obtain ⟨⟨r13, σ12⟩, hc11, hf⟩ := bd hf
      try dsimp only at hf
      refine cVi C hW (mX7_oversleptBits hk_a0 hc11) hk_a0 kvX7_oversleptBits w_1635 ⟨(Nat.le_of_ble_eq_true rfl), (Nat.le_of_ble_eq_true rfl)⟩ ⟨Nat.zero_le _, Nat.zero_le _⟩ rfl hl.1 (rest := []) rfl (Nat.le_of_ble_eq_true rfl) dX7_overslept_25 (fun H locs hn14 hW => ?_)
      refine lv_istore_n (lv' := [(3, .int _), (0, .ref _), (1, .int _), (2, .int _)]) C.1.1 C.1.2.1 dX7_overslept_28 rfl hl (by decide) rfl (fun ls hl => ?_)
      refine lv_iload_n C.1.1 C.1.2.1 dX7_overslept_29 rfl (lv_at hl 3 rfl) ?_
      refine lv_if_ne (tgt := 40) C.1.1 C.1.2.1 dX7_overslept_30 (by decide) (fun h9 => ?_) (fun h9 => ?_)
      · replace hf := (if_neg h9).symm.trans hf
        refine lv_iload_n C.1.1 C.1.2.1 dX7_overslept_40 rfl (lv_at hl 0 rfl) ?_
        exact ri hQ C hr hlk hW hf (rok_i _) dX7_overslept_41
      · replace hf := (if_pos h9).symm.trans hf
        refine lv_iload_n C.1.1 C.1.2.1 dX7_overslept_33 rfl (lv_at hl 0 rfl) ?_
        obtain ⟨⟨r18, σ17⟩, hc16, hf⟩ := bd hf
        try dsimp only at hf
        refine cSi C hW (mX7_bits hc16) ksX7_bits w_1370 ⟨(Nat.le_of_ble_eq_true rfl), (Nat.le_of_ble_eq_true rfl)⟩ ⟨Nat.zero_le _, Nat.zero_le _⟩ rfl hl.1 (rest := []) rfl (Nat.le_of_ble_eq_true rfl) dX7_overslept_34 (fun H locs hn19 hW => ?_)
        refine lv_goto (tgt := 41) C.1.1 C.1.2.1 dX7_overslept_37 (by decide) ?_
        exact ri hQ C hr hlk hW hf (rok_i _) dX7_overslept_41
    · replace hf := (if_pos h9).symm.trans hf
      refine lv_iconst (v := (-1)) C.1.1 C.1.2.1 dX7_overslept_21 (by decide) ?_
      exact ri hQ C hr hlk hW hf (rok_i _) dX7_overslept_22
theorem kvX7_ask : KV 7 "RightKeysModel" yX7_ask cX7_ask 8 (some .int) 1 := ⟨⟨w_1640, w_1641, w_116, w_1642⟩, ⟨rfl, by decide, by decide, by decide +kernel⟩, by decide, rfl⟩
noncomputable def jX7_ask_94 (a0 : Nat) (p1 : Int32) (x2 : Int32) (x3 : Int32) (x4 : Int32) (x5 : Int32) (x6 : Int32) (x7 : Int32) (σ : Sg) : Option ((Int32 × Int32 × Sg) ⊕ (Int32 × Sg)) := (let x7_15 := x7 + (1 : Int32); some (Sum.inl (x6, x7_15, σ)))
noncomputable def bX7_ask_53 (a0 : Nat) (p1 : Int32) (x2 : Int32) (x3 : Int32) (x4 : Int32) (x5 : Int32) (x6 : Int32) (x7 : Int32) (σ : Sg) : Option ((Int32 × Int32 × Sg) ⊕ (Int32 × Sg)) := if vin (σ.1 a0 18) 2 then (if (σ.1 (a0 + 9) (((σ.1 a0 18)).toNatClampNeg)) ≤ x7 then (some (Sum.inr (x6, σ))) else (if ((x2 >>> (x7 &&& 31)) &&& (1 : Int32)) = (1 : Int32) then (if vin x7 8 then ((let x6_18 := (x6 + (((σ.1 (a0 + 37) ((x7).toNatClampNeg)) >>> (x5 &&& 31)) &&& (1 : Int32))); jX7_ask_94 a0 p1 x2 x3 x4 x5 x6_18 x7 σ)) else none) else (jX7_ask_94 a0 p1 x2 x3 x4 x5 x6 x7 σ))) else none
noncomputable def jX7_ask_147 (a0 : Nat) (p1 : Int32) (x2 : Int32) (x3 : Int32) (x4 : Int32) (x5 : Int32) (σ : Sg) : Option ((Int32 × Int32 × Int32 × Sg) ⊕ (Int32 × Sg)) := (let x5_32 := x5 + (1 : Int32); some (Sum.inl (x3, x4, x5_32, σ)))
noncomputable def jX7_ask_140 (a0 : Nat) (p1 : Int32) (x2 : Int32) (x5 : Int32) (x7 : Int32) (σ : Sg) : Option ((Int32 × Int32 × Int32 × Sg) ⊕ (Int32 × Sg)) := jX7_ask_147 a0 p1 x2 x5 x7 x5 σ
noncomputable def jX7_ask_124 (a0 : Nat) (p1 : Int32) (x2 : Int32) (x3 : Int32) (x4 : Int32) (x5 : Int32) (s0 : Int32) (σ : Sg) : Option ((Int32 × Int32 × Int32 × Sg) ⊕ (Int32 × Sg)) := if x3 < 0 then (jX7_ask_140 a0 p1 x2 x5 s0 σ) else (if s0 < x4 then (jX7_ask_140 a0 p1 x2 x5 s0 σ) else (jX7_ask_147 a0 p1 x2 x3 x4 x5 σ))
noncomputable def bX7_ask_29 (a0 : Nat) (p1 : Int32) (x2 : Int32) (x3 : Int32) (x4 : Int32) (x5 : Int32) (σ : Sg) : Option ((Int32 × Int32 × Int32 × Sg) ⊕ (Int32 × Sg)) := if vin (σ.1 a0 18) 2 then (if (σ.1 (a0 + 9) (((σ.1 a0 18)).toNatClampNeg)) ≤ x5 then (some (Sum.inr (x3, σ))) else (if x2 = 0 then (some (Sum.inr (x3, σ))) else ((lp (fun st => bX7_ask_53 a0 p1 x2 x3 x4 x5 st.1 st.2.1 st.2.2) ((0 : Int32), (0 : Int32), σ)).bind (fun q33 => let y21 := q33.1; let σ20 := q33.2;  (fX7_bits x2 σ20).bind (fun q26 => let r24 := q26.1; let σ23 := q26.2; if y21 ≤ (r24 - y21) then ((fX7_bits x2 σ23).bind (fun q31 => let r29 := q31.1; let σ28 := q31.2; jX7_ask_124 a0 p1 x2 x3 x4 x5 (r29 - y21) σ28)) else (jX7_ask_124 a0 p1 x2 x3 x4 x5 y21 σ23)))))) else none
noncomputable def fX7_ask (a0 : Nat) (p1 : Int32) (σ : Sg) : Option (Int32 × Sg) := (fX7_in p1 (0 : Int32) (σ.1 a0 61) σ).bind (fun q5 => let r3 := q5.1; let σ2 := q5.2; if r3 = 0 then (some ((-1 : Int32), σ2)) else ((fX7_oversleptBits a0 p1 σ2).bind (fun q10 => let r8 := q10.1; let σ7 := q10.2; (lp (fun st => bX7_ask_29 a0 p1 r8 st.1 st.2.1 st.2.2.1 st.2.2.2) ((-2 : Int32), (0 : Int32), (0 : Int32), σ7)).bind (fun q37 => let y36 := q37.1; let σ35 := q37.2;  some (y36, σ35)))))
set_option maxRecDepth 100000 in
set_option maxHeartbeats 4000000 in
theorem mX7_ask {l : Launch} {G : Gm} {a0 : Nat} {p1 : Int32} {σ : Sg} {r : Int32} {σ' : Sg} (hk_a0 : gK G a0 = 8) (hf : fX7_ask a0 p1 σ = some (r, σ')) : Mi l G yX7_ask cX7_ask 8 .int 10 231 [.ref (gB G + a0), .int p1] σ r σ' := by
  refine of_W "RightKeysModel" rfl (by decide) (Nat.le_of_ble_eq_true rfl) ?_
  intro p e s m args below meth c Q hQ C hr hlk hW ls hl
  have h00 := hW.1
  have hl : lv_has ls 8 [(0, .ref (gB G + a0)), (1, .int p1)] := hl
  delta fX7_ask at hf
  have L29 : ∀ (x2 : Int32) (n : Nat) (x3 : Int32) (x4 : Int32) (x5 : Int32) (σ : Sg) (H : Heap) (locs : List Loc) (ls : Array Slot) (out : (Int32 × Sg)), iter (fun st => bX7_ask_29 a0 p1 x2 st.1 st.2.1 st.2.2.1 st.2.2.2) n (x3, x4, x5, σ) = some out → Ws G σ s.heap H locs → lv_has ls 8 [(0, .ref (gB G + a0)), (2, .int x2), (3, .int x3), (4, .int x4), (5, .int x5)] → (∀ (y3 : Int32) (σ : Sg) (H : Heap) (locs : List Loc) (ls : Array Slot), out = (y3, σ) → Ws G σ s.heap H locs → lv_has ls 8 [(3, .int y3)] → W p l e (rmOf 10 231) s m args below meth c H locs 0 0 Q (F0 m 153 ls [])) → W p l e (rmOf 10 231) s m args below meth c H locs 0 0 Q (F0 m 29 ls []) := by
    intro x2 n
    induction n with
    | zero =>
      intro x3 x4 x5 σ H locs ls out hf
      exact (it_0 hf).elim
    | succ n ih =>
      intro x3 x4 x5 σ H locs ls out hf hW hl K29_153
      obtain ⟨x, hf, hx⟩ := it_s hf
      have hf : bX7_ask_29 a0 p1 x2 x3 x4 x5 σ = some x := hf
      delta bX7_ask_29 at hf
      have L53 : ∀ (x2 : Int32) (x3 : Int32) (x4 : Int32) (x5 : Int32) (n : Nat) (x6 : Int32) (x7 : Int32) (σ : Sg) (H : Heap) (locs : List Loc) (ls : Array Slot) (out : (Int32 × Sg)), iter (fun st => bX7_ask_53 a0 p1 x2 x3 x4 x5 st.1 st.2.1 st.2.2) n (x6, x7, σ) = some out → Ws G σ s.heap H locs → lv_has ls 8 [(0, .ref (gB G + a0)), (2, .int x2), (3, .int x3), (4, .int x4), (5, .int x5), (6, .int x6), (7, .int x7)] → (∀ (y6 : Int32) (σ : Sg) (H : Heap) (locs : List Loc) (ls : Array Slot), out = (y6, σ) → Ws G σ s.heap H locs → lv_has ls 8 [(0, .ref (gB G + a0)), (2, .int x2), (3, .int x3), (4, .int x4), (5, .int x5), (6, .int y6)] → W p l e (rmOf 10 231) s m args below meth c H locs 0 0 Q (F0 m 100 ls [])) → W p l e (rmOf 10 231) s m args below meth c H locs 0 0 Q (F0 m 53 ls []) := by
        intro x2 x3 x4 x5 n
        induction n with
        | zero =>
          intro x6 x7 σ H locs ls out hf
          exact (it_0 hf).elim
        | succ n ih =>
          intro x6 x7 σ H locs ls out hf hW hl K53_100
          obtain ⟨x, hf, hx⟩ := it_s hf
          have hf : bX7_ask_53 a0 p1 x2 x3 x4 x5 x6 x7 σ = some x := hf
          delta bX7_ask_53 at hf
          have J94 : ∀ (x6 : Int32) (x7 : Int32) (σ : Sg) (H : Heap) (locs : List Loc) (ls : Array Slot), jX7_ask_94 a0 p1 x2 x3 x4 x5 x6 x7 σ = some x → Ws G σ s.heap H locs → lv_has ls 8 [(0, .ref (gB G + a0)), (2, .int x2), (3, .int x3), (4, .int x4), (5, .int x5), (6, .int x6), (7, .int x7)] → W p l e (rmOf 10 231) s m args below meth c H locs 0 0 Q (F0 m 94 ls []) := by
            intro x6 x7 σ H locs ls hf hW hl
            delta jX7_ask_94 at hf
            refine lv_iinc (v := _) (lv' := [(7, .int _), (0, .ref _), (2, .int _), (3, .int _), (4, .int _), (5, .int _), (6, .int _)]) C.1.1 C.1.2.1 dX7_ask_94 hl (k := 6) rfl (ii (k := 1) (by decide)) (by decide) rfl (fun ls hl => ?_)
            refine lv_goto (tgt := 53) C.1.1 C.1.2.1 dX7_ask_97 (by decide) ?_
            cases hf
            exact ih _ _ _ _ _ _ _ hx hW (lv_sub hl [1, 2, 3, 4, 5, 6, 0] rfl) K53_100
          refine lv_iload C.1.1 C.1.2.1 dX7_ask_53 (lv_at hl 6 rfl) ?_
          refine lv_aload_n C.1.1 C.1.2.1 dX7_ask_55 rfl (lv_at hl 0 rfl) ?_
          have hk13 := sh7_22 hW hk_a0
          refine gf7_22 C hW hk_a0 w_1052 dX7_ask_56 ?_
          refine lv_aload_n C.1.1 C.1.2.1 dX7_ask_59 rfl (lv_at hl 0 rfl) ?_
          refine gf7_18 C hW hk_a0 w_1048 dX7_ask_60 ?_
          obtain ⟨hv14, hf⟩ := gd hf
          refine wai C hW hk13 (vin_p hv14) dX7_ask_63 ?_
          refine lv_icmp_ge (tgt := 100) C.1.1 C.1.2.1 dX7_ask_64 (by decide) (fun h9 => ?_) (fun h9 => ?_)
          · replace hf := (if_pos h9).symm.trans hf
            cases hf
            cases hx
            exact K53_100 _ _ _ _ _ rfl hW (lv_sub hl [0, 1, 2, 3, 4, 5] rfl)
          · replace hf := (if_neg h9).symm.trans hf
            refine lv_iload_n C.1.1 C.1.2.1 dX7_ask_67 rfl (lv_at hl 1 rfl) ?_
            refine lv_iload C.1.1 C.1.2.1 dX7_ask_68 (lv_at hl 6 rfl) ?_
            refine lv_ishr C.1.1 C.1.2.1 dX7_ask_70 ?_
            refine lv_iconst (v := 1) C.1.1 C.1.2.1 dX7_ask_71 (by decide) ?_
            refine lv_iand C.1.1 C.1.2.1 dX7_ask_72 ?_
            refine lv_iconst (v := 1) C.1.1 C.1.2.1 dX7_ask_73 (by decide) ?_
            refine lv_icmp_ne (tgt := 94) C.1.1 C.1.2.1 dX7_ask_74 (by decide) (fun h9 => ?_) (fun h9 => ?_)
            · replace hf := (if_neg h9).symm.trans hf
              exact J94 _ _ _ _ _ _ hf hW (lv_sub hl [0, 1, 2, 3, 4, 5, 6] rfl)
            · replace hf := (if_pos h9).symm.trans hf
              refine lv_iload C.1.1 C.1.2.1 dX7_ask_77 (lv_at hl 5 rfl) ?_
              refine lv_aload_n C.1.1 C.1.2.1 dX7_ask_79 rfl (lv_at hl 0 rfl) ?_
              have hk16 := sh7_64 hW hk_a0
              refine gf7_64 C hW hk_a0 w_1094 dX7_ask_80 ?_
              refine lv_iload C.1.1 C.1.2.1 dX7_ask_83 (lv_at hl 6 rfl) ?_
              obtain ⟨hv17, hf⟩ := gd hf
              refine wai C hW hk16 (vin_p hv17) dX7_ask_85 ?_
              refine lv_iload C.1.1 C.1.2.1 dX7_ask_86 (lv_at hl 4 rfl) ?_
              refine lv_ishr C.1.1 C.1.2.1 dX7_ask_88 ?_
              refine lv_iconst (v := 1) C.1.1 C.1.2.1 dX7_ask_89 (by decide) ?_
              refine lv_iand C.1.1 C.1.2.1 dX7_ask_90 ?_
              refine lv_iadd C.1.1 C.1.2.1 dX7_ask_91 ?_
              refine lv_istore (lv' := [(6, .int _), (0, .ref _), (2, .int _), (3, .int _), (4, .int _), (5, .int _), (7, .int _)]) C.1.1 C.1.2.1 dX7_ask_92 hl (by decide) rfl (fun ls hl => ?_)
              exact J94 _ _ _ _ _ _ hf hW (lv_sub hl [1, 2, 3, 4, 5, 0, 6] rfl)
      have J147 : ∀ (x3 : Int32) (x4 : Int32) (x5 : Int32) (σ : Sg) (H : Heap) (locs : List Loc) (ls : Array Slot), jX7_ask_147 a0 p1 x2 x3 x4 x5 σ = some x → Ws G σ s.heap H locs → lv_has ls 8 [(0, .ref (gB G + a0)), (2, .int x2), (3, .int x3), (4, .int x4), (5, .int x5)] → W p l e (rmOf 10 231) s m args below meth c H locs 0 0 Q (F0 m 147 ls []) := by
        intro x3 x4 x5 σ H locs ls hf hW hl
        delta jX7_ask_147 at hf
        refine lv_iinc (v := _) (lv' := [(5, .int _), (0, .ref _), (2, .int _), (3, .int _), (4, .int _)]) C.1.1 C.1.2.1 dX7_ask_147 hl (k := 4) rfl (ii (k := 1) (by decide)) (by decide) rfl (fun ls hl => ?_)
        refine lv_goto (tgt := 29) C.1.1 C.1.2.1 dX7_ask_150 (by decide) ?_
        cases hf
        exact ih _ _ _ _ _ _ _ _ hx hW (lv_sub hl [1, 2, 3, 4, 0] rfl) K29_153
      have J140 : ∀ (x5 : Int32) (x7 : Int32) (σ : Sg) (H : Heap) (locs : List Loc) (ls : Array Slot), jX7_ask_140 a0 p1 x2 x5 x7 σ = some x → Ws G σ s.heap H locs → lv_has ls 8 [(0, .ref (gB G + a0)), (2, .int x2), (5, .int x5), (7, .int x7)] → W p l e (rmOf 10 231) s m args below meth c H locs 0 0 Q (F0 m 140 ls []) := by
        intro x5 x7 σ H locs ls hf hW hl
        delta jX7_ask_140 at hf
        refine lv_iload C.1.1 C.1.2.1 dX7_ask_140 (lv_at hl 2 rfl) ?_
        refine lv_istore_n (lv' := [(3, .int _), (0, .ref _), (2, .int _), (5, .int _), (7, .int _)]) C.1.1 C.1.2.1 dX7_ask_142 rfl hl (by decide) rfl (fun ls hl => ?_)
        refine lv_iload C.1.1 C.1.2.1 dX7_ask_143 (lv_at hl 4 rfl) ?_
        refine lv_istore (lv' := [(4, .int _), (3, .int _), (0, .ref _), (2, .int _), (5, .int _), (7, .int _)]) C.1.1 C.1.2.1 dX7_ask_145 hl (by decide) rfl (fun ls hl => ?_)
        exact J147 _ _ _ _ _ _ _ hf hW (lv_sub hl [2, 3, 1, 0, 4] rfl)
      have J124 : ∀ (x3 : Int32) (x4 : Int32) (x5 : Int32) (s0 : Int32) (σ : Sg) (H : Heap) (locs : List Loc) (ls : Array Slot), jX7_ask_124 a0 p1 x2 x3 x4 x5 s0 σ = some x → Ws G σ s.heap H locs → lv_has ls 8 [(0, .ref (gB G + a0)), (2, .int x2), (3, .int x3), (4, .int x4), (5, .int x5)] → W p l e (rmOf 10 231) s m args below meth c H locs 0 0 Q (F0 m 124 ls [.int s0]) := by
        intro x3 x4 x5 s0 σ H locs ls hf hW hl
        delta jX7_ask_124 at hf
        refine lv_istore (lv' := [(7, .int _), (0, .ref _), (2, .int _), (3, .int _), (4, .int _), (5, .int _)]) C.1.1 C.1.2.1 dX7_ask_124 hl (by decide) rfl (fun ls hl => ?_)
        refine lv_iload_n C.1.1 C.1.2.1 dX7_ask_126 rfl (lv_at hl 3 rfl) ?_
        refine lv_if_lt (tgt := 140) C.1.1 C.1.2.1 dX7_ask_127 (by decide) (fun h9 => ?_) (fun h9 => ?_)
        · replace hf := (if_pos h9).symm.trans hf
          exact J140 _ _ _ _ _ _ hf hW (lv_sub hl [1, 2, 5, 0] rfl)
        · replace hf := (if_neg h9).symm.trans hf
          refine lv_iload C.1.1 C.1.2.1 dX7_ask_130 (lv_at hl 0 rfl) ?_
          refine lv_iload C.1.1 C.1.2.1 dX7_ask_132 (lv_at hl 4 rfl) ?_
          refine lv_icmp_lt (tgt := 140) C.1.1 C.1.2.1 dX7_ask_134 (by decide) (fun h9 => ?_) (fun h9 => ?_)
          · replace hf := (if_pos h9).symm.trans hf
            exact J140 _ _ _ _ _ _ hf hW (lv_sub hl [1, 2, 5, 0] rfl)
          · replace hf := (if_neg h9).symm.trans hf
            refine lv_goto (tgt := 147) C.1.1 C.1.2.1 dX7_ask_137 (by decide) ?_
            exact J147 _ _ _ _ _ _ _ hf hW (lv_sub hl [1, 2, 3, 4, 5] rfl)
      refine lv_iload C.1.1 C.1.2.1 dX7_ask_29 (lv_at hl 4 rfl) ?_
      refine lv_aload_n C.1.1 C.1.2.1 dX7_ask_31 rfl (lv_at hl 0 rfl) ?_
      have hk11 := sh7_22 hW hk_a0
      refine gf7_22 C hW hk_a0 w_1052 dX7_ask_32 ?_
      refine lv_aload_n C.1.1 C.1.2.1 dX7_ask_35 rfl (lv_at hl 0 rfl) ?_
      refine gf7_18 C hW hk_a0 w_1048 dX7_ask_36 ?_
      obtain ⟨hv12, hf⟩ := gd hf
      refine wai C hW hk11 (vin_p hv12) dX7_ask_39 ?_
      refine lv_icmp_ge (tgt := 153) C.1.1 C.1.2.1 dX7_ask_40 (by decide) (fun h9 => ?_) (fun h9 => ?_)
      · replace hf := (if_pos h9).symm.trans hf
        cases hf
        cases hx
        exact K29_153 _ _ _ _ _ rfl hW (lv_sub hl [2] rfl)
      · replace hf := (if_neg h9).symm.trans hf
        refine lv_iload_n C.1.1 C.1.2.1 dX7_ask_43 rfl (lv_at hl 1 rfl) ?_
        refine lv_if_eq (tgt := 153) C.1.1 C.1.2.1 dX7_ask_44 (by decide) (fun h9 => ?_) (fun h9 => ?_)
        · replace hf := (if_pos h9).symm.trans hf
          cases hf
          cases hx
          exact K29_153 _ _ _ _ _ rfl hW (lv_sub hl [2] rfl)
        · replace hf := (if_neg h9).symm.trans hf
          refine lv_iconst (v := 0) C.1.1 C.1.2.1 dX7_ask_47 (by decide) ?_
          refine lv_istore (lv' := [(6, .int _), (0, .ref _), (2, .int _), (3, .int _), (4, .int _), (5, .int _)]) C.1.1 C.1.2.1 dX7_ask_48 hl (by decide) rfl (fun ls hl => ?_)
          refine lv_iconst (v := 0) C.1.1 C.1.2.1 dX7_ask_50 (by decide) ?_
          refine lv_istore (lv' := [(7, .int _), (6, .int _), (0, .ref _), (2, .int _), (3, .int _), (4, .int _), (5, .int _)]) C.1.1 C.1.2.1 dX7_ask_51 hl (by decide) rfl (fun ls hl => ?_)
          obtain ⟨o19, ho, hf⟩ := bd hf
          obtain ⟨n, ho⟩ := lp_it ho
          refine L53 _ _ _ _ n _ _ _ _ _ _ o19 ho hW (lv_sub hl [2, 3, 4, 5, 6, 1, 0] rfl) ?_
          intro y21 σ20 H locs ls e9 hW hl
          subst e9
          try dsimp only at hf
          refine lv_iload C.1.1 C.1.2.1 dX7_ask_100 (lv_at hl 5 rfl) ?_
          refine lv_iload_n C.1.1 C.1.2.1 dX7_ask_102 rfl (lv_at hl 1 rfl) ?_
          obtain ⟨⟨r24, σ23⟩, hc22, hf⟩ := bd hf
          try dsimp only at hf
          refine cSi C hW (mX7_bits hc22) ksX7_bits w_1370 ⟨(Nat.le_of_ble_eq_true rfl), (Nat.le_of_ble_eq_true rfl)⟩ ⟨Nat.zero_le _, Nat.zero_le _⟩ rfl hl.1 (rest := [.int _]) rfl (Nat.le_of_ble_eq_true rfl) dX7_ask_103 (fun H locs hn25 hW => ?_)
          refine lv_iload C.1.1 C.1.2.1 dX7_ask_106 (lv_at hl 5 rfl) ?_
          refine lv_isub C.1.1 C.1.2.1 dX7_ask_108 ?_
          refine lv_icmp_le (tgt := 117) C.1.1 C.1.2.1 dX7_ask_109 (by decide) (fun h9 => ?_) (fun h9 => ?_)
          · replace hf := (if_pos h9).symm.trans hf
            refine lv_iload_n C.1.1 C.1.2.1 dX7_ask_117 rfl (lv_at hl 1 rfl) ?_
            obtain ⟨⟨r29, σ28⟩, hc27, hf⟩ := bd hf
            try dsimp only at hf
            refine cSi C hW (mX7_bits hc27) ksX7_bits w_1370 ⟨(Nat.le_of_ble_eq_true rfl), (Nat.le_of_ble_eq_true rfl)⟩ ⟨Nat.zero_le _, Nat.zero_le _⟩ rfl hl.1 (rest := []) rfl (Nat.le_of_ble_eq_true rfl) dX7_ask_118 (fun H locs hn30 hW => ?_)
            refine lv_iload C.1.1 C.1.2.1 dX7_ask_121 (lv_at hl 5 rfl) ?_
            refine lv_isub C.1.1 C.1.2.1 dX7_ask_123 ?_
            exact J124 _ _ _ _ _ _ _ _ hf hW (lv_sub hl [0, 1, 2, 3, 4] rfl)
          · replace hf := (if_neg h9).symm.trans hf
            refine lv_iload C.1.1 C.1.2.1 dX7_ask_112 (lv_at hl 5 rfl) ?_
            refine lv_goto (tgt := 124) C.1.1 C.1.2.1 dX7_ask_114 (by decide) ?_
            exact J124 _ _ _ _ _ _ _ _ hf hW (lv_sub hl [0, 1, 2, 3, 4] rfl)
  refine lv_iload_n C.1.1 C.1.2.1 dX7_ask_0 rfl (lv_at hl 1 rfl) ?_
  refine lv_iconst (v := 0) C.1.1 C.1.2.1 dX7_ask_1 (by decide) ?_
  refine lv_aload_n C.1.1 C.1.2.1 dX7_ask_2 rfl (lv_at hl 0 rfl) ?_
  refine gf7_61 C hW hk_a0 w_1091 dX7_ask_3 ?_
  obtain ⟨⟨r3, σ2⟩, hc1, hf⟩ := bd hf
  try dsimp only at hf
  refine cSi C hW (mX7_in hc1) ksX7_in w_1351 ⟨(Nat.le_of_ble_eq_true rfl), (Nat.le_of_ble_eq_true rfl)⟩ ⟨Nat.zero_le _, Nat.zero_le _⟩ rfl hl.1 (rest := []) rfl (Nat.le_of_ble_eq_true rfl) dX7_ask_6 (fun H locs hn4 hW => ?_)
  refine lv_if_ne (tgt := 14) C.1.1 C.1.2.1 dX7_ask_9 (by decide) (fun h9 => ?_) (fun h9 => ?_)
  · replace hf := (if_neg h9).symm.trans hf
    refine lv_aload_n C.1.1 C.1.2.1 dX7_ask_14 rfl (lv_at hl 0 rfl) ?_
    refine lv_iload_n C.1.1 C.1.2.1 dX7_ask_15 rfl (lv_at hl 1 rfl) ?_
    obtain ⟨⟨r8, σ7⟩, hc6, hf⟩ := bd hf
    try dsimp only at hf
    refine cVi C hW (mX7_oversleptBits hk_a0 hc6) hk_a0 kvX7_oversleptBits w_1635 ⟨(Nat.le_of_ble_eq_true rfl), (Nat.le_of_ble_eq_true rfl)⟩ ⟨Nat.zero_le _, Nat.zero_le _⟩ rfl hl.1 (rest := []) rfl (Nat.le_of_ble_eq_true rfl) dX7_ask_16 (fun H locs hn9 hW => ?_)
    refine lv_istore_n (lv' := [(2, .int _), (0, .ref _), (1, .int _)]) C.1.1 C.1.2.1 dX7_ask_19 rfl hl (by decide) rfl (fun ls hl => ?_)
    refine lv_bipush (v := (-2)) C.1.1 C.1.2.1 dX7_ask_20 (by decide) ?_
    refine lv_istore_n (lv' := [(3, .int _), (2, .int _), (0, .ref _), (1, .int _)]) C.1.1 C.1.2.1 dX7_ask_22 rfl hl (by decide) rfl (fun ls hl => ?_)
    refine lv_iconst (v := 0) C.1.1 C.1.2.1 dX7_ask_23 (by decide) ?_
    refine lv_istore (lv' := [(4, .int _), (3, .int _), (2, .int _), (0, .ref _), (1, .int _)]) C.1.1 C.1.2.1 dX7_ask_24 hl (by decide) rfl (fun ls hl => ?_)
    refine lv_iconst (v := 0) C.1.1 C.1.2.1 dX7_ask_26 (by decide) ?_
    refine lv_istore (lv' := [(5, .int _), (4, .int _), (3, .int _), (2, .int _), (0, .ref _), (1, .int _)]) C.1.1 C.1.2.1 dX7_ask_27 hl (by decide) rfl (fun ls hl => ?_)
    obtain ⟨o34, ho, hf⟩ := bd hf
    obtain ⟨n, ho⟩ := lp_it ho
    refine L29 _ n _ _ _ _ _ _ _ o34 ho hW (lv_sub hl [4, 3, 2, 1, 0] rfl) ?_
    intro y36 σ35 H locs ls e9 hW hl
    subst e9
    try dsimp only at hf
    refine lv_iload_n C.1.1 C.1.2.1 dX7_ask_153 rfl (lv_at hl 0 rfl) ?_
    exact ri hQ C hr hlk hW hf (rok_i _) dX7_ask_154
  · replace hf := (if_pos h9).symm.trans hf
    refine lv_iconst (v := (-1)) C.1.1 C.1.2.1 dX7_ask_12 (by decide) ?_
    exact ri hQ C hr hlk hW hf (rok_i _) dX7_ask_13
theorem kvX7_hold : KV 7 "RightKeysModel" yX7_hold cX7_hold 3 (some .boolean) 1 := ⟨⟨w_1644, w_1645, w_116, w_1646⟩, ⟨rfl, by decide, by decide, by decide +kernel⟩, by decide, rfl⟩
noncomputable def bX7_hold_20 (a0 : Nat) (p1 : Int32) (x2 : Int32) (σ : Sg) : Option ((Int32 × Sg) ⊕ (Sg)) := if (88 : Int32) ≤ x2 then (some (Sum.inr σ)) else (if vin x2 88 then (if vin (((88 : Int32) * p1) + x2) 264 then (let σ13 := wI σ (a0 + 39) (((((88 : Int32) * p1) + x2)).toNatClampNeg) (σ.1 (a0 + 30) ((x2).toNatClampNeg)); (let x2_14 := x2 + (1 : Int32); some (Sum.inl (x2_14, σ13)))) else none) else none)
noncomputable def fX7_hold (a0 : Nat) (p1 : Int32) (σ : Sg) : Option (Int32 × Sg) := (fX7_in p1 (0 : Int32) (2 : Int32) σ).bind (fun q5 => let r3 := q5.1; let σ2 := q5.2; if r3 = 0 then (some ((0 : Int32), σ2)) else (if vin p1 3 then (let σ8 := wI σ2 (a0 + 38) ((p1).toNatClampNeg) (vp_nar .boolean (1 : Int32)); (lp (fun st => bX7_hold_20 a0 p1 st.1 st.2) ((0 : Int32), σ8)).bind (fun σ16 => some ((1 : Int32), σ16))) else none))
set_option maxRecDepth 100000 in
set_option maxHeartbeats 4000000 in
theorem mX7_hold {l : Launch} {G : Gm} {a0 : Nat} {p1 : Int32} {σ : Sg} {r : Int32} {σ' : Sg} (hk_a0 : gK G a0 = 8) (hf : fX7_hold a0 p1 σ = some (r, σ')) : Mi l G yX7_hold cX7_hold 3 .boolean 1 22 [.ref (gB G + a0), .int p1] σ r σ' := by
  refine of_W "RightKeysModel" rfl (by decide) (Nat.le_of_ble_eq_true rfl) ?_
  intro p e s m args below meth c Q hQ C hr hlk hW ls hl
  have h00 := hW.1
  have hl : lv_has ls 3 [(0, .ref (gB G + a0)), (1, .int p1)] := hl
  delta fX7_hold at hf
  have L20 : ∀ (n : Nat) (x2 : Int32) (σ : Sg) (H : Heap) (locs : List Loc) (ls : Array Slot) (out : (Sg)), iter (fun st => bX7_hold_20 a0 p1 st.1 st.2) n (x2, σ) = some out → Ws G σ s.heap H locs → lv_has ls 3 [(0, .ref (gB G + a0)), (1, .int p1), (2, .int x2)] → (∀ (σ : Sg) (H : Heap) (locs : List Loc) (ls : Array Slot), out = σ → Ws G σ s.heap H locs → lv_has ls 3 [] → W p l e (rmOf 1 22) s m args below meth c H locs 0 0 Q (F0 m 49 ls [])) → W p l e (rmOf 1 22) s m args below meth c H locs 0 0 Q (F0 m 20 ls []) := by
    intro n
    induction n with
    | zero =>
      intro x2 σ H locs ls out hf
      exact (it_0 hf).elim
    | succ n ih =>
      intro x2 σ H locs ls out hf hW hl K20_49
      obtain ⟨x, hf, hx⟩ := it_s hf
      have hf : bX7_hold_20 a0 p1 x2 σ = some x := hf
      delta bX7_hold_20 at hf
      refine lv_iload_n C.1.1 C.1.2.1 dX7_hold_20 rfl (lv_at hl 2 rfl) ?_
      refine lv_bipush (v := 88) C.1.1 C.1.2.1 dX7_hold_21 (by decide) ?_
      refine lv_icmp_ge (tgt := 49) C.1.1 C.1.2.1 dX7_hold_23 (by decide) (fun h9 => ?_) (fun h9 => ?_)
      · replace hf := (if_pos h9).symm.trans hf
        cases hf
        cases hx
        exact K20_49 _ _ _ _ rfl hW (lv_sub hl [] rfl)
      · replace hf := (if_neg h9).symm.trans hf
        refine lv_aload_n C.1.1 C.1.2.1 dX7_hold_26 rfl (lv_at hl 0 rfl) ?_
        have hk9 := sh7_66 hW hk_a0
        refine gf7_66 C hW hk_a0 w_1096 dX7_hold_27 ?_
        refine lv_bipush (v := 88) C.1.1 C.1.2.1 dX7_hold_30 (by decide) ?_
        refine lv_iload_n C.1.1 C.1.2.1 dX7_hold_32 rfl (lv_at hl 1 rfl) ?_
        refine lv_imul C.1.1 C.1.2.1 dX7_hold_33 ?_
        refine lv_iload_n C.1.1 C.1.2.1 dX7_hold_34 rfl (lv_at hl 2 rfl) ?_
        refine lv_iadd C.1.1 C.1.2.1 dX7_hold_35 ?_
        refine lv_aload_n C.1.1 C.1.2.1 dX7_hold_36 rfl (lv_at hl 0 rfl) ?_
        have hk10 := sh7_47 hW hk_a0
        refine gf7_47 C hW hk_a0 w_1077 dX7_hold_37 ?_
        refine lv_iload_n C.1.1 C.1.2.1 dX7_hold_40 rfl (lv_at hl 2 rfl) ?_
        obtain ⟨hv11, hf⟩ := gd hf
        refine wai C hW hk10 (vin_p hv11) dX7_hold_41 ?_
        obtain ⟨hv12, hf⟩ := gd hf
        refine wsi C hW hk9 (vin_p hv12) dX7_hold_42 (fun H locs hW => ?_)
        refine lv_iinc (v := _) (lv' := [(2, .int _), (0, .ref _), (1, .int _)]) C.1.1 C.1.2.1 dX7_hold_43 hl (k := 2) rfl (ii (k := 1) (by decide)) (by decide) rfl (fun ls hl => ?_)
        refine lv_goto (tgt := 20) C.1.1 C.1.2.1 dX7_hold_46 (by decide) ?_
        cases hf
        exact ih _ _ _ _ _ _ hx hW (lv_sub hl [1, 2, 0] rfl) K20_49
  refine lv_iload_n C.1.1 C.1.2.1 dX7_hold_0 rfl (lv_at hl 1 rfl) ?_
  refine lv_iconst (v := 0) C.1.1 C.1.2.1 dX7_hold_1 (by decide) ?_
  refine lv_iconst (v := 2) C.1.1 C.1.2.1 dX7_hold_2 (by decide) ?_
  obtain ⟨⟨r3, σ2⟩, hc1, hf⟩ := bd hf
  try dsimp only at hf
  refine cSi C hW (mX7_in hc1) ksX7_in w_1351 ⟨(Nat.le_of_ble_eq_true rfl), (Nat.le_of_ble_eq_true rfl)⟩ ⟨Nat.zero_le _, Nat.zero_le _⟩ rfl hl.1 (rest := []) rfl (Nat.le_of_ble_eq_true rfl) dX7_hold_3 (fun H locs hn4 hW => ?_)
  refine lv_if_ne (tgt := 11) C.1.1 C.1.2.1 dX7_hold_6 (by decide) (fun h9 => ?_) (fun h9 => ?_)
  · replace hf := (if_neg h9).symm.trans hf
    refine lv_aload_n C.1.1 C.1.2.1 dX7_hold_11 rfl (lv_at hl 0 rfl) ?_
    have hk6 := sh7_65 hW hk_a0
    refine gf7_65 C hW hk_a0 w_1095 dX7_hold_12 ?_
    refine lv_iload_n C.1.1 C.1.2.1 dX7_hold_15 rfl (lv_at hl 1 rfl) ?_
    refine lv_iconst (v := 1) C.1.1 C.1.2.1 dX7_hold_16 (by decide) ?_
    obtain ⟨hv7, hf⟩ := gd hf
    refine wsz C hW hk6 (vin_p hv7) dX7_hold_17 (fun H locs hW => ?_)
    refine lv_iconst (v := 0) C.1.1 C.1.2.1 dX7_hold_18 (by decide) ?_
    refine lv_istore_n (lv' := [(2, .int _), (0, .ref _), (1, .int _)]) C.1.1 C.1.2.1 dX7_hold_19 rfl hl (by decide) rfl (fun ls hl => ?_)
    obtain ⟨o15, ho, hf⟩ := bd hf
    obtain ⟨n, ho⟩ := lp_it ho
    refine L20 n _ _ _ _ _ o15 ho hW (lv_sub hl [1, 2, 0] rfl) ?_
    intro  σ16 H locs ls e9 hW hl
    subst e9
    try dsimp only at hf
    refine lv_iconst (v := 1) C.1.1 C.1.2.1 dX7_hold_49 (by decide) ?_
    exact ri hQ C hr hlk hW hf (rok_z (Or.inr rfl)) dX7_hold_50
  · replace hf := (if_pos h9).symm.trans hf
    refine lv_iconst (v := 0) C.1.1 C.1.2.1 dX7_hold_9 (by decide) ?_
    exact ri hQ C hr hlk hW hf (rok_z (Or.inl rfl)) dX7_hold_10
theorem kvX7_restore : KV 7 "RightKeysModel" yX7_restore cX7_restore 3 (some .boolean) 1 := ⟨⟨w_1648, w_1649, w_116, w_1650⟩, ⟨rfl, by decide, by decide, by decide +kernel⟩, by decide, rfl⟩
noncomputable def bX7_restore_22 (a0 : Nat) (p1 : Int32) (x2 : Int32) (σ : Sg) : Option ((Int32 × Sg) ⊕ (Sg)) := if (88 : Int32) ≤ x2 then (some (Sum.inr σ)) else (if vin (((88 : Int32) * p1) + x2) 264 then (if vin x2 88 then (let σ12 := wI σ (a0 + 30) ((x2).toNatClampNeg) (σ.1 (a0 + 39) (((((88 : Int32) * p1) + x2)).toNatClampNeg)); (let x2_13 := x2 + (1 : Int32); some (Sum.inl (x2_13, σ12)))) else none) else none)
noncomputable def fX7_restore (a0 : Nat) (p1 : Int32) (σ : Sg) : Option (Int32 × Sg) := (fX7_in p1 (0 : Int32) (2 : Int32) σ).bind (fun q5 => let r3 := q5.1; let σ2 := q5.2; if r3 = 0 then (some ((0 : Int32), σ2)) else (if vin p1 3 then (if (σ2.1 (a0 + 38) ((p1).toNatClampNeg)) = 0 then (some ((0 : Int32), σ2)) else ((lp (fun st => bX7_restore_22 a0 p1 st.1 st.2) ((0 : Int32), σ2)).bind (fun σ15 => (let σ16 := wI σ15 a0 53 (0 : Int32); some ((1 : Int32), σ16))))) else none))
set_option maxRecDepth 100000 in
set_option maxHeartbeats 4000000 in
theorem mX7_restore {l : Launch} {G : Gm} {a0 : Nat} {p1 : Int32} {σ : Sg} {r : Int32} {σ' : Sg} (hk_a0 : gK G a0 = 8) (hf : fX7_restore a0 p1 σ = some (r, σ')) : Mi l G yX7_restore cX7_restore 3 .boolean 1 22 [.ref (gB G + a0), .int p1] σ r σ' := by
  refine of_W "RightKeysModel" rfl (by decide) (Nat.le_of_ble_eq_true rfl) ?_
  intro p e s m args below meth c Q hQ C hr hlk hW ls hl
  have h00 := hW.1
  have hl : lv_has ls 3 [(0, .ref (gB G + a0)), (1, .int p1)] := hl
  delta fX7_restore at hf
  have L22 : ∀ (n : Nat) (x2 : Int32) (σ : Sg) (H : Heap) (locs : List Loc) (ls : Array Slot) (out : (Sg)), iter (fun st => bX7_restore_22 a0 p1 st.1 st.2) n (x2, σ) = some out → Ws G σ s.heap H locs → lv_has ls 3 [(0, .ref (gB G + a0)), (1, .int p1), (2, .int x2)] → (∀ (σ : Sg) (H : Heap) (locs : List Loc) (ls : Array Slot), out = σ → Ws G σ s.heap H locs → lv_has ls 3 [(0, .ref (gB G + a0))] → W p l e (rmOf 1 22) s m args below meth c H locs 0 0 Q (F0 m 51 ls [])) → W p l e (rmOf 1 22) s m args below meth c H locs 0 0 Q (F0 m 22 ls []) := by
    intro n
    induction n with
    | zero =>
      intro x2 σ H locs ls out hf
      exact (it_0 hf).elim
    | succ n ih =>
      intro x2 σ H locs ls out hf hW hl K22_51
      obtain ⟨x, hf, hx⟩ := it_s hf
      have hf : bX7_restore_22 a0 p1 x2 σ = some x := hf
      delta bX7_restore_22 at hf
      refine lv_iload_n C.1.1 C.1.2.1 dX7_restore_22 rfl (lv_at hl 2 rfl) ?_
      refine lv_bipush (v := 88) C.1.1 C.1.2.1 dX7_restore_23 (by decide) ?_
      refine lv_icmp_ge (tgt := 51) C.1.1 C.1.2.1 dX7_restore_25 (by decide) (fun h9 => ?_) (fun h9 => ?_)
      · replace hf := (if_pos h9).symm.trans hf
        cases hf
        cases hx
        exact K22_51 _ _ _ _ rfl hW (lv_sub hl [0] rfl)
      · replace hf := (if_neg h9).symm.trans hf
        refine lv_aload_n C.1.1 C.1.2.1 dX7_restore_28 rfl (lv_at hl 0 rfl) ?_
        have hk8 := sh7_47 hW hk_a0
        refine gf7_47 C hW hk_a0 w_1077 dX7_restore_29 ?_
        refine lv_iload_n C.1.1 C.1.2.1 dX7_restore_32 rfl (lv_at hl 2 rfl) ?_
        refine lv_aload_n C.1.1 C.1.2.1 dX7_restore_33 rfl (lv_at hl 0 rfl) ?_
        have hk9 := sh7_66 hW hk_a0
        refine gf7_66 C hW hk_a0 w_1096 dX7_restore_34 ?_
        refine lv_bipush (v := 88) C.1.1 C.1.2.1 dX7_restore_37 (by decide) ?_
        refine lv_iload_n C.1.1 C.1.2.1 dX7_restore_39 rfl (lv_at hl 1 rfl) ?_
        refine lv_imul C.1.1 C.1.2.1 dX7_restore_40 ?_
        refine lv_iload_n C.1.1 C.1.2.1 dX7_restore_41 rfl (lv_at hl 2 rfl) ?_
        refine lv_iadd C.1.1 C.1.2.1 dX7_restore_42 ?_
        obtain ⟨hv10, hf⟩ := gd hf
        refine wai C hW hk9 (vin_p hv10) dX7_restore_43 ?_
        obtain ⟨hv11, hf⟩ := gd hf
        refine wsi C hW hk8 (vin_p hv11) dX7_restore_44 (fun H locs hW => ?_)
        refine lv_iinc (v := _) (lv' := [(2, .int _), (0, .ref _), (1, .int _)]) C.1.1 C.1.2.1 dX7_restore_45 hl (k := 2) rfl (ii (k := 1) (by decide)) (by decide) rfl (fun ls hl => ?_)
        refine lv_goto (tgt := 22) C.1.1 C.1.2.1 dX7_restore_48 (by decide) ?_
        cases hf
        exact ih _ _ _ _ _ _ hx hW (lv_sub hl [1, 2, 0] rfl) K22_51
  refine lv_iload_n C.1.1 C.1.2.1 dX7_restore_0 rfl (lv_at hl 1 rfl) ?_
  refine lv_iconst (v := 0) C.1.1 C.1.2.1 dX7_restore_1 (by decide) ?_
  refine lv_iconst (v := 2) C.1.1 C.1.2.1 dX7_restore_2 (by decide) ?_
  obtain ⟨⟨r3, σ2⟩, hc1, hf⟩ := bd hf
  try dsimp only at hf
  refine cSi C hW (mX7_in hc1) ksX7_in w_1351 ⟨(Nat.le_of_ble_eq_true rfl), (Nat.le_of_ble_eq_true rfl)⟩ ⟨Nat.zero_le _, Nat.zero_le _⟩ rfl hl.1 (rest := []) rfl (Nat.le_of_ble_eq_true rfl) dX7_restore_3 (fun H locs hn4 hW => ?_)
  refine lv_if_eq (tgt := 18) C.1.1 C.1.2.1 dX7_restore_6 (by decide) (fun h9 => ?_) (fun h9 => ?_)
  · replace hf := (if_pos h9).symm.trans hf
    refine lv_iconst (v := 0) C.1.1 C.1.2.1 dX7_restore_18 (by decide) ?_
    exact ri hQ C hr hlk hW hf (rok_z (Or.inl rfl)) dX7_restore_19
  · replace hf := (if_neg h9).symm.trans hf
    refine lv_aload_n C.1.1 C.1.2.1 dX7_restore_9 rfl (lv_at hl 0 rfl) ?_
    have hk6 := sh7_65 hW hk_a0
    refine gf7_65 C hW hk_a0 w_1095 dX7_restore_10 ?_
    refine lv_iload_n C.1.1 C.1.2.1 dX7_restore_13 rfl (lv_at hl 1 rfl) ?_
    obtain ⟨hv7, hf⟩ := gd hf
    refine waz C hW hk6 (vin_p hv7) dX7_restore_14 ?_
    refine lv_if_ne (tgt := 20) C.1.1 C.1.2.1 dX7_restore_15 (by decide) (fun h9 => ?_) (fun h9 => ?_)
    · replace hf := (if_neg h9).symm.trans hf
      refine lv_iconst (v := 0) C.1.1 C.1.2.1 dX7_restore_20 (by decide) ?_
      refine lv_istore_n (lv' := [(2, .int _), (0, .ref _), (1, .int _)]) C.1.1 C.1.2.1 dX7_restore_21 rfl hl (by decide) rfl (fun ls hl => ?_)
      obtain ⟨o14, ho, hf⟩ := bd hf
      obtain ⟨n, ho⟩ := lp_it ho
      refine L22 n _ _ _ _ _ o14 ho hW (lv_sub hl [1, 2, 0] rfl) ?_
      intro  σ15 H locs ls e9 hW hl
      subst e9
      try dsimp only at hf
      refine lv_aload_n C.1.1 C.1.2.1 dX7_restore_51 rfl (lv_at hl 0 rfl) ?_
      refine lv_iconst (v := 0) C.1.1 C.1.2.1 dX7_restore_52 (by decide) ?_
      refine pf7_53 C hW hk_a0 w_1083 dX7_restore_53 (fun H locs hW => ?_)
      refine lv_iconst (v := 1) C.1.1 C.1.2.1 dX7_restore_56 (by decide) ?_
      exact ri hQ C hr hlk hW hf (rok_z (Or.inr rfl)) dX7_restore_57
    · replace hf := (if_pos h9).symm.trans hf
      refine lv_iconst (v := 0) C.1.1 C.1.2.1 dX7_restore_18 (by decide) ?_
      exact ri hQ C hr hlk hW hf (rok_z (Or.inl rfl)) dX7_restore_19
theorem kvX7_count : KV 7 "RightKeysModel" yX7_count cX7_count 4 (some .int) 1 := ⟨⟨w_1652, w_1653, w_116, w_1654⟩, ⟨rfl, by decide, by decide, by decide +kernel⟩, by decide, rfl⟩
noncomputable def jX7_count_201 (a0 : Nat) (p1 : Int32) (s0 : Int32) (s1 : Int32) (σ : Sg) : Option (Int32 × Sg) := if (σ.1 (a0 + 38) 2) = 0 then (some (((s0 + s1) + (0 : Int32)), σ)) else (some (((s0 + s1) + (1 : Int32)), σ))
noncomputable def jX7_count_187 (a0 : Nat) (p1 : Int32) (s0 : Int32) (σ : Sg) : Option (Int32 × Sg) := if (σ.1 (a0 + 38) 1) = 0 then (jX7_count_201 a0 p1 s0 (0 : Int32) σ) else (jX7_count_201 a0 p1 s0 (1 : Int32) σ)
noncomputable def jX7_count_261 (a0 : Nat) (p1 : Int32) (x2 : Int32) (x3 : Int32) (σ : Sg) : Option ((Int32 × Int32 × Sg) ⊕ (Int32 × Sg)) := (let x3_60 := x3 + (1 : Int32); some (Sum.inl (x2, x3_60, σ)))
noncomputable def bX7_count_230 (a0 : Nat) (p1 : Int32) (x2 : Int32) (x3 : Int32) (σ : Sg) : Option ((Int32 × Int32 × Sg) ⊕ (Int32 × Sg)) := if vin (σ.1 a0 18) 2 then (if (σ.1 (a0 + 14) (((σ.1 a0 18)).toNatClampNeg)) ≤ x3 then (some (Sum.inr (x2, σ))) else (if vin ((78 : Int32) + x3) 88 then (if (σ.1 (a0 + 31) ((((78 : Int32) + x3)).toNatClampNeg)) < 0 then (jX7_count_261 a0 p1 x2 x3 σ) else ((let x2_61 := (x2 ||| ((1 : Int32) <<< (x3 &&& 31))); jX7_count_261 a0 p1 x2_61 x3 σ))) else none)) else none
noncomputable def fX7_count (a0 : Nat) (p1 : Int32) (σ : Sg) : Option (Int32 × Sg) := (fX7_copies a0 σ).bind (fun σ2 => if p1 = 0 then (if vin (σ2.1 a0 18) 2 then (some ((σ2.1 (a0 + 9) (((σ2.1 a0 18)).toNatClampNeg)), σ2)) else none) else (if p1 = 1 then (if vin (σ2.1 a0 18) 2 then (some ((σ2.1 (a0 + 14) (((σ2.1 a0 18)).toNatClampNeg)), σ2)) else none) else (if p1 = 2 then (some ((σ2.1 (a0 + 31) 84), σ2)) else (if p1 = 3 then (some ((irem (σ2.1 (a0 + 31) 84) (24 : Int32)), σ2)) else (if p1 = 4 then ((fX7_soBits a0 (0 : Int32) σ2).bind (fun q21 => let r19 := q21.1; let σ18 := q21.2; some (r19, σ18))) else (if p1 = 5 then ((fX7_soBits a0 (1 : Int32) σ2).bind (fun q27 => let r25 := q27.1; let σ24 := q27.2; some (r25, σ24))) else (if p1 = 6 then ((fX7_soBits a0 (2 : Int32) σ2).bind (fun q33 => let r31 := q33.1; let σ30 := q33.2; some (r31, σ30))) else (if p1 = 7 then (some ((σ2.1 (a0 + 31) 85), σ2)) else (if p1 = 8 then ((fX7_keptBits a0 σ2).bind (fun q41 => let r39 := q41.1; let σ38 := q41.2; some (r39, σ38))) else (if p1 = 9 then (some ((σ2.1 a0 2), σ2)) else (if p1 = 10 then (some ((σ2.1 a0 53), σ2)) else (if p1 = 11 then (some ((σ2.1 a0 61), σ2)) else (if p1 = 12 then (if (σ2.1 (a0 + 38) 0) = 0 then (jX7_count_187 a0 p1 (0 : Int32) σ2) else (jX7_count_187 a0 p1 (1 : Int32) σ2)) else (if p1 = 13 then (if vin ((73 : Int32) + p1) 88 then (some ((σ2.1 (a0 + 31) ((((73 : Int32) + p1)).toNatClampNeg)), σ2)) else none) else (if p1 = 14 then (if vin ((73 : Int32) + p1) 88 then (some ((σ2.1 (a0 + 31) ((((73 : Int32) + p1)).toNatClampNeg)), σ2)) else none) else (if p1 = 15 then ((lp (fun st => bX7_count_230 a0 p1 st.1 st.2.1 st.2.2) ((0 : Int32), (0 : Int32), σ2)).bind (fun q65 => let y64 := q65.1; let σ63 := q65.2;  some (y64, σ63))) else (if p1 = 16 then ((fX7_rentsAll a0 σ2).bind (fun q71 => let r69 := q71.1; let σ68 := q71.2; some (r69, σ68))) else ((some ((-1 : Int32), σ2))))))))))))))))))))
set_option maxRecDepth 100000 in
set_option maxHeartbeats 4000000 in
theorem mX7_count {l : Launch} {G : Gm} {a0 : Nat} {p1 : Int32} {σ : Sg} {r : Int32} {σ' : Sg} (hk_a0 : gK G a0 = 8) (hf : fX7_count a0 p1 σ = some (r, σ')) : Mi l G yX7_count cX7_count 4 .int 4 96 [.ref (gB G + a0), .int p1] σ r σ' := by
  refine of_W "RightKeysModel" rfl (by decide) (Nat.le_of_ble_eq_true rfl) ?_
  intro p e s m args below meth c Q hQ C hr hlk hW ls hl
  have h00 := hW.1
  have hl : lv_has ls 4 [(0, .ref (gB G + a0)), (1, .int p1)] := hl
  delta fX7_count at hf
  have J201 : ∀ (s0 : Int32) (s1 : Int32) (σ : Sg) (H : Heap) (locs : List Loc) (ls : Array Slot), jX7_count_201 a0 p1 s0 s1 σ = some (r, σ') → Ws G σ s.heap H locs → lv_has ls 4 [(0, .ref (gB G + a0))] → W p l e (rmOf 4 96) s m args below meth c H locs 0 0 Q (F0 m 201 ls [.int s1, .int s0]) := by
    intro s0 s1 σ H locs ls hf hW hl
    delta jX7_count_201 at hf
    refine lv_iadd C.1.1 C.1.2.1 dX7_count_201 ?_
    refine lv_aload_n C.1.1 C.1.2.1 dX7_count_202 rfl (lv_at hl 0 rfl) ?_
    have hk48 := sh7_65 hW hk_a0
    refine gf7_65 C hW hk_a0 w_1095 dX7_count_203 ?_
    refine lv_iconst (v := 2) C.1.1 C.1.2.1 dX7_count_206 (by decide) ?_
    refine waz C hW hk48 (vin_p ⟨by decide, by decide⟩) dX7_count_207 ?_
    refine lv_if_eq (tgt := 215) C.1.1 C.1.2.1 dX7_count_208 (by decide) (fun h9 => ?_) (fun h9 => ?_)
    · replace hf := (if_pos h9).symm.trans hf
      refine lv_iconst (v := 0) C.1.1 C.1.2.1 dX7_count_215 (by decide) ?_
      refine lv_iadd C.1.1 C.1.2.1 dX7_count_216 ?_
      exact ri hQ C hr hlk hW hf (rok_i _) dX7_count_217
    · replace hf := (if_neg h9).symm.trans hf
      refine lv_iconst (v := 1) C.1.1 C.1.2.1 dX7_count_211 (by decide) ?_
      refine lv_goto (tgt := 216) C.1.1 C.1.2.1 dX7_count_212 (by decide) ?_
      refine lv_iadd C.1.1 C.1.2.1 dX7_count_216 ?_
      exact ri hQ C hr hlk hW hf (rok_i _) dX7_count_217
  have J187 : ∀ (s0 : Int32) (σ : Sg) (H : Heap) (locs : List Loc) (ls : Array Slot), jX7_count_187 a0 p1 s0 σ = some (r, σ') → Ws G σ s.heap H locs → lv_has ls 4 [(0, .ref (gB G + a0))] → W p l e (rmOf 4 96) s m args below meth c H locs 0 0 Q (F0 m 187 ls [.int s0]) := by
    intro s0 σ H locs ls hf hW hl
    delta jX7_count_187 at hf
    refine lv_aload_n C.1.1 C.1.2.1 dX7_count_187 rfl (lv_at hl 0 rfl) ?_
    have hk47 := sh7_65 hW hk_a0
    refine gf7_65 C hW hk_a0 w_1095 dX7_count_188 ?_
    refine lv_iconst (v := 1) C.1.1 C.1.2.1 dX7_count_191 (by decide) ?_
    refine waz C hW hk47 (vin_p ⟨by decide, by decide⟩) dX7_count_192 ?_
    refine lv_if_eq (tgt := 200) C.1.1 C.1.2.1 dX7_count_193 (by decide) (fun h9 => ?_) (fun h9 => ?_)
    · replace hf := (if_pos h9).symm.trans hf
      refine lv_iconst (v := 0) C.1.1 C.1.2.1 dX7_count_200 (by decide) ?_
      exact J201 _ _ _ _ _ _ hf hW (lv_sub hl [0] rfl)
    · replace hf := (if_neg h9).symm.trans hf
      refine lv_iconst (v := 1) C.1.1 C.1.2.1 dX7_count_196 (by decide) ?_
      refine lv_goto (tgt := 201) C.1.1 C.1.2.1 dX7_count_197 (by decide) ?_
      exact J201 _ _ _ _ _ _ hf hW (lv_sub hl [0] rfl)
  have L230 : ∀ (n : Nat) (x2 : Int32) (x3 : Int32) (σ : Sg) (H : Heap) (locs : List Loc) (ls : Array Slot) (out : (Int32 × Sg)), iter (fun st => bX7_count_230 a0 p1 st.1 st.2.1 st.2.2) n (x2, x3, σ) = some out → Ws G σ s.heap H locs → lv_has ls 4 [(0, .ref (gB G + a0)), (2, .int x2), (3, .int x3)] → (∀ (y2 : Int32) (σ : Sg) (H : Heap) (locs : List Loc) (ls : Array Slot), out = (y2, σ) → Ws G σ s.heap H locs → lv_has ls 4 [(2, .int y2)] → W p l e (rmOf 4 96) s m args below meth c H locs 0 0 Q (F0 m 267 ls [])) → W p l e (rmOf 4 96) s m args below meth c H locs 0 0 Q (F0 m 230 ls []) := by
    intro n
    induction n with
    | zero =>
      intro x2 x3 σ H locs ls out hf
      exact (it_0 hf).elim
    | succ n ih =>
      intro x2 x3 σ H locs ls out hf hW hl K230_267
      obtain ⟨x, hf, hx⟩ := it_s hf
      have hf : bX7_count_230 a0 p1 x2 x3 σ = some x := hf
      delta bX7_count_230 at hf
      have J261 : ∀ (x2 : Int32) (x3 : Int32) (σ : Sg) (H : Heap) (locs : List Loc) (ls : Array Slot), jX7_count_261 a0 p1 x2 x3 σ = some x → Ws G σ s.heap H locs → lv_has ls 4 [(0, .ref (gB G + a0)), (2, .int x2), (3, .int x3)] → W p l e (rmOf 4 96) s m args below meth c H locs 0 0 Q (F0 m 261 ls []) := by
        intro x2 x3 σ H locs ls hf hW hl
        delta jX7_count_261 at hf
        refine lv_iinc (v := _) (lv' := [(3, .int _), (0, .ref _), (2, .int _)]) C.1.1 C.1.2.1 dX7_count_261 hl (k := 2) rfl (ii (k := 1) (by decide)) (by decide) rfl (fun ls hl => ?_)
        refine lv_goto (tgt := 230) C.1.1 C.1.2.1 dX7_count_264 (by decide) ?_
        cases hf
        exact ih _ _ _ _ _ _ _ hx hW (lv_sub hl [1, 2, 0] rfl) K230_267
      refine lv_iload_n C.1.1 C.1.2.1 dX7_count_230 rfl (lv_at hl 2 rfl) ?_
      refine lv_aload_n C.1.1 C.1.2.1 dX7_count_231 rfl (lv_at hl 0 rfl) ?_
      have hk56 := sh7_27 hW hk_a0
      refine gf7_27 C hW hk_a0 w_1057 dX7_count_232 ?_
      refine lv_aload_n C.1.1 C.1.2.1 dX7_count_235 rfl (lv_at hl 0 rfl) ?_
      refine gf7_18 C hW hk_a0 w_1048 dX7_count_236 ?_
      obtain ⟨hv57, hf⟩ := gd hf
      refine wai C hW hk56 (vin_p hv57) dX7_count_239 ?_
      refine lv_icmp_ge (tgt := 267) C.1.1 C.1.2.1 dX7_count_240 (by decide) (fun h9 => ?_) (fun h9 => ?_)
      · replace hf := (if_pos h9).symm.trans hf
        cases hf
        cases hx
        exact K230_267 _ _ _ _ _ rfl hW (lv_sub hl [1] rfl)
      · replace hf := (if_neg h9).symm.trans hf
        refine lv_aload_n C.1.1 C.1.2.1 dX7_count_243 rfl (lv_at hl 0 rfl) ?_
        have hk58 := sh7_48 hW hk_a0
        refine gf7_48 C hW hk_a0 w_1078 dX7_count_244 ?_
        refine lv_bipush (v := 78) C.1.1 C.1.2.1 dX7_count_247 (by decide) ?_
        refine lv_iload_n C.1.1 C.1.2.1 dX7_count_249 rfl (lv_at hl 2 rfl) ?_
        refine lv_iadd C.1.1 C.1.2.1 dX7_count_250 ?_
        obtain ⟨hv59, hf⟩ := gd hf
        refine wai C hW hk58 (vin_p hv59) dX7_count_251 ?_
        refine lv_if_lt (tgt := 261) C.1.1 C.1.2.1 dX7_count_252 (by decide) (fun h9 => ?_) (fun h9 => ?_)
        · replace hf := (if_pos h9).symm.trans hf
          exact J261 _ _ _ _ _ _ hf hW (lv_sub hl [0, 1, 2] rfl)
        · replace hf := (if_neg h9).symm.trans hf
          refine lv_iload_n C.1.1 C.1.2.1 dX7_count_255 rfl (lv_at hl 1 rfl) ?_
          refine lv_iconst (v := 1) C.1.1 C.1.2.1 dX7_count_256 (by decide) ?_
          refine lv_iload_n C.1.1 C.1.2.1 dX7_count_257 rfl (lv_at hl 2 rfl) ?_
          refine lv_ishl C.1.1 C.1.2.1 dX7_count_258 ?_
          refine lv_ior C.1.1 C.1.2.1 dX7_count_259 ?_
          refine lv_istore_n (lv' := [(2, .int _), (0, .ref _), (3, .int _)]) C.1.1 C.1.2.1 dX7_count_260 rfl hl (by decide) rfl (fun ls hl => ?_)
          exact J261 _ _ _ _ _ _ hf hW (lv_sub hl [1, 0, 2] rfl)
  refine lv_aload_n C.1.1 C.1.2.1 dX7_count_0 rfl (lv_at hl 0 rfl) ?_
  obtain ⟨σ2, hc1, hf⟩ := bd hf
  try dsimp only at hf
  refine cVv C hW (mX7_copies hk_a0 hc1) hk_a0 kvX7_copies w_1354 ⟨(Nat.le_of_ble_eq_true rfl), (Nat.le_of_ble_eq_true rfl)⟩ ⟨Nat.zero_le _, Nat.zero_le _⟩ rfl hl.1 (rest := []) rfl (Nat.le_of_ble_eq_true rfl) dX7_count_1 (fun H locs hW => ?_)
  refine lv_iconst (v := 0) C.1.1 C.1.2.1 dX7_count_4 (by decide) ?_
  refine lv_istore_n (lv' := [(2, .int _), (0, .ref _), (1, .int _)]) C.1.1 C.1.2.1 dX7_count_5 rfl hl (by decide) rfl (fun ls hl => ?_)
  refine lv_iload_n C.1.1 C.1.2.1 dX7_count_6 rfl (lv_at hl 2 rfl) ?_
  refine sw_c (k := 0) (fun hs6 => ?_) (fun hs6 => ?_)
  · replace hf := (if_pos hs6).symm.trans hf
    refine lv_tableIn (tgt := 88) C.1.1 C.1.2.1 dX7_count_7 (by rw [hs6]; decide) (by rw [hs6]; decide) (off := 81) (by rw [hs6]; rfl) (by decide) ?_
    refine lv_aload_n C.1.1 C.1.2.1 dX7_count_88 rfl (lv_at hl 1 rfl) ?_
    have hk7 := sh7_22 hW hk_a0
    refine gf7_22 C hW hk_a0 w_1052 dX7_count_89 ?_
    refine lv_aload_n C.1.1 C.1.2.1 dX7_count_92 rfl (lv_at hl 1 rfl) ?_
    refine gf7_18 C hW hk_a0 w_1048 dX7_count_93 ?_
    obtain ⟨hv8, hf⟩ := gd hf
    refine wai C hW hk7 (vin_p hv8) dX7_count_96 ?_
    exact ri hQ C hr hlk hW hf (rok_i _) dX7_count_97
  · replace hf := (if_neg hs6).symm.trans hf
    refine sw_c (k := 1) (fun hs9 => ?_) (fun hs9 => ?_)
    · replace hf := (if_pos hs9).symm.trans hf
      refine lv_tableIn (tgt := 98) C.1.1 C.1.2.1 dX7_count_7 (by rw [hs9]; decide) (by rw [hs9]; decide) (off := 91) (by rw [hs9]; rfl) (by decide) ?_
      refine lv_aload_n C.1.1 C.1.2.1 dX7_count_98 rfl (lv_at hl 1 rfl) ?_
      have hk10 := sh7_27 hW hk_a0
      refine gf7_27 C hW hk_a0 w_1057 dX7_count_99 ?_
      refine lv_aload_n C.1.1 C.1.2.1 dX7_count_102 rfl (lv_at hl 1 rfl) ?_
      refine gf7_18 C hW hk_a0 w_1048 dX7_count_103 ?_
      obtain ⟨hv11, hf⟩ := gd hf
      refine wai C hW hk10 (vin_p hv11) dX7_count_106 ?_
      exact ri hQ C hr hlk hW hf (rok_i _) dX7_count_107
    · replace hf := (if_neg hs9).symm.trans hf
      refine sw_c (k := 2) (fun hs12 => ?_) (fun hs12 => ?_)
      · replace hf := (if_pos hs12).symm.trans hf
        refine lv_tableIn (tgt := 108) C.1.1 C.1.2.1 dX7_count_7 (by rw [hs12]; decide) (by rw [hs12]; decide) (off := 101) (by rw [hs12]; rfl) (by decide) ?_
        refine lv_aload_n C.1.1 C.1.2.1 dX7_count_108 rfl (lv_at hl 1 rfl) ?_
        have hk13 := sh7_48 hW hk_a0
        refine gf7_48 C hW hk_a0 w_1078 dX7_count_109 ?_
        refine lv_bipush (v := 84) C.1.1 C.1.2.1 dX7_count_112 (by decide) ?_
        refine wai C hW hk13 (vin_p ⟨by decide, by decide⟩) dX7_count_114 ?_
        exact ri hQ C hr hlk hW hf (rok_i _) dX7_count_115
      · replace hf := (if_neg hs12).symm.trans hf
        refine sw_c (k := 3) (fun hs14 => ?_) (fun hs14 => ?_)
        · replace hf := (if_pos hs14).symm.trans hf
          refine lv_tableIn (tgt := 116) C.1.1 C.1.2.1 dX7_count_7 (by rw [hs14]; decide) (by rw [hs14]; decide) (off := 109) (by rw [hs14]; rfl) (by decide) ?_
          refine lv_aload_n C.1.1 C.1.2.1 dX7_count_116 rfl (lv_at hl 1 rfl) ?_
          have hk15 := sh7_48 hW hk_a0
          refine gf7_48 C hW hk_a0 w_1078 dX7_count_117 ?_
          refine lv_bipush (v := 84) C.1.1 C.1.2.1 dX7_count_120 (by decide) ?_
          refine wai C hW hk15 (vin_p ⟨by decide, by decide⟩) dX7_count_122 ?_
          refine lv_bipush (v := 24) C.1.1 C.1.2.1 dX7_count_123 (by decide) ?_
          refine lv_irem C.1.1 C.1.2.1 dX7_count_125 (by decide) ?_
          exact ri hQ C hr hlk hW hf (rok_i _) dX7_count_126
        · replace hf := (if_neg hs14).symm.trans hf
          refine sw_c (k := 4) (fun hs16 => ?_) (fun hs16 => ?_)
          · replace hf := (if_pos hs16).symm.trans hf
            refine lv_tableIn (tgt := 127) C.1.1 C.1.2.1 dX7_count_7 (by rw [hs16]; decide) (by rw [hs16]; decide) (off := 120) (by rw [hs16]; rfl) (by decide) ?_
            refine lv_aload_n C.1.1 C.1.2.1 dX7_count_127 rfl (lv_at hl 1 rfl) ?_
            refine lv_iconst (v := 0) C.1.1 C.1.2.1 dX7_count_128 (by decide) ?_
            obtain ⟨⟨r19, σ18⟩, hc17, hf⟩ := bd hf
            try dsimp only at hf
            refine cVi C hW (mX7_soBits hk_a0 hc17) hk_a0 kvX7_soBits w_1366 ⟨(Nat.le_of_ble_eq_true rfl), (Nat.le_of_ble_eq_true rfl)⟩ ⟨Nat.zero_le _, Nat.zero_le _⟩ rfl hl.1 (rest := []) rfl (Nat.le_of_ble_eq_true rfl) dX7_count_129 (fun H locs hn20 hW => ?_)
            exact ri hQ C hr hlk hW hf (rok_i _) dX7_count_132
          · replace hf := (if_neg hs16).symm.trans hf
            refine sw_c (k := 5) (fun hs22 => ?_) (fun hs22 => ?_)
            · replace hf := (if_pos hs22).symm.trans hf
              refine lv_tableIn (tgt := 133) C.1.1 C.1.2.1 dX7_count_7 (by rw [hs22]; decide) (by rw [hs22]; decide) (off := 126) (by rw [hs22]; rfl) (by decide) ?_
              refine lv_aload_n C.1.1 C.1.2.1 dX7_count_133 rfl (lv_at hl 1 rfl) ?_
              refine lv_iconst (v := 1) C.1.1 C.1.2.1 dX7_count_134 (by decide) ?_
              obtain ⟨⟨r25, σ24⟩, hc23, hf⟩ := bd hf
              try dsimp only at hf
              refine cVi C hW (mX7_soBits hk_a0 hc23) hk_a0 kvX7_soBits w_1366 ⟨(Nat.le_of_ble_eq_true rfl), (Nat.le_of_ble_eq_true rfl)⟩ ⟨Nat.zero_le _, Nat.zero_le _⟩ rfl hl.1 (rest := []) rfl (Nat.le_of_ble_eq_true rfl) dX7_count_135 (fun H locs hn26 hW => ?_)
              exact ri hQ C hr hlk hW hf (rok_i _) dX7_count_138
            · replace hf := (if_neg hs22).symm.trans hf
              refine sw_c (k := 6) (fun hs28 => ?_) (fun hs28 => ?_)
              · replace hf := (if_pos hs28).symm.trans hf
                refine lv_tableIn (tgt := 139) C.1.1 C.1.2.1 dX7_count_7 (by rw [hs28]; decide) (by rw [hs28]; decide) (off := 132) (by rw [hs28]; rfl) (by decide) ?_
                refine lv_aload_n C.1.1 C.1.2.1 dX7_count_139 rfl (lv_at hl 1 rfl) ?_
                refine lv_iconst (v := 2) C.1.1 C.1.2.1 dX7_count_140 (by decide) ?_
                obtain ⟨⟨r31, σ30⟩, hc29, hf⟩ := bd hf
                try dsimp only at hf
                refine cVi C hW (mX7_soBits hk_a0 hc29) hk_a0 kvX7_soBits w_1366 ⟨(Nat.le_of_ble_eq_true rfl), (Nat.le_of_ble_eq_true rfl)⟩ ⟨Nat.zero_le _, Nat.zero_le _⟩ rfl hl.1 (rest := []) rfl (Nat.le_of_ble_eq_true rfl) dX7_count_141 (fun H locs hn32 hW => ?_)
                exact ri hQ C hr hlk hW hf (rok_i _) dX7_count_144
              · replace hf := (if_neg hs28).symm.trans hf
                refine sw_c (k := 7) (fun hs34 => ?_) (fun hs34 => ?_)
                · replace hf := (if_pos hs34).symm.trans hf
                  refine lv_tableIn (tgt := 145) C.1.1 C.1.2.1 dX7_count_7 (by rw [hs34]; decide) (by rw [hs34]; decide) (off := 138) (by rw [hs34]; rfl) (by decide) ?_
                  refine lv_aload_n C.1.1 C.1.2.1 dX7_count_145 rfl (lv_at hl 1 rfl) ?_
                  have hk35 := sh7_48 hW hk_a0
                  refine gf7_48 C hW hk_a0 w_1078 dX7_count_146 ?_
                  refine lv_bipush (v := 85) C.1.1 C.1.2.1 dX7_count_149 (by decide) ?_
                  refine wai C hW hk35 (vin_p ⟨by decide, by decide⟩) dX7_count_151 ?_
                  exact ri hQ C hr hlk hW hf (rok_i _) dX7_count_152
                · replace hf := (if_neg hs34).symm.trans hf
                  refine sw_c (k := 8) (fun hs36 => ?_) (fun hs36 => ?_)
                  · replace hf := (if_pos hs36).symm.trans hf
                    refine lv_tableIn (tgt := 153) C.1.1 C.1.2.1 dX7_count_7 (by rw [hs36]; decide) (by rw [hs36]; decide) (off := 146) (by rw [hs36]; rfl) (by decide) ?_
                    refine lv_aload_n C.1.1 C.1.2.1 dX7_count_153 rfl (lv_at hl 1 rfl) ?_
                    obtain ⟨⟨r39, σ38⟩, hc37, hf⟩ := bd hf
                    try dsimp only at hf
                    refine cVi C hW (mX7_keptBits hk_a0 hc37) hk_a0 kvX7_keptBits w_1547 ⟨(Nat.le_of_ble_eq_true rfl), (Nat.le_of_ble_eq_true rfl)⟩ ⟨Nat.zero_le _, Nat.zero_le _⟩ rfl hl.1 (rest := []) rfl (Nat.le_of_ble_eq_true rfl) dX7_count_154 (fun H locs hn40 hW => ?_)
                    exact ri hQ C hr hlk hW hf (rok_i _) dX7_count_157
                  · replace hf := (if_neg hs36).symm.trans hf
                    refine sw_c (k := 9) (fun hs42 => ?_) (fun hs42 => ?_)
                    · replace hf := (if_pos hs42).symm.trans hf
                      refine lv_tableIn (tgt := 158) C.1.1 C.1.2.1 dX7_count_7 (by rw [hs42]; decide) (by rw [hs42]; decide) (off := 151) (by rw [hs42]; rfl) (by decide) ?_
                      refine lv_aload_n C.1.1 C.1.2.1 dX7_count_158 rfl (lv_at hl 1 rfl) ?_
                      refine gf7_2 C hW hk_a0 w_1032 dX7_count_159 ?_
                      exact ri hQ C hr hlk hW hf (rok_i _) dX7_count_162
                    · replace hf := (if_neg hs42).symm.trans hf
                      refine sw_c (k := 10) (fun hs43 => ?_) (fun hs43 => ?_)
                      · replace hf := (if_pos hs43).symm.trans hf
                        refine lv_tableIn (tgt := 163) C.1.1 C.1.2.1 dX7_count_7 (by rw [hs43]; decide) (by rw [hs43]; decide) (off := 156) (by rw [hs43]; rfl) (by decide) ?_
                        refine lv_aload_n C.1.1 C.1.2.1 dX7_count_163 rfl (lv_at hl 1 rfl) ?_
                        refine gf7_53 C hW hk_a0 w_1083 dX7_count_164 ?_
                        exact ri hQ C hr hlk hW hf (rok_i _) dX7_count_167
                      · replace hf := (if_neg hs43).symm.trans hf
                        refine sw_c (k := 11) (fun hs44 => ?_) (fun hs44 => ?_)
                        · replace hf := (if_pos hs44).symm.trans hf
                          refine lv_tableIn (tgt := 168) C.1.1 C.1.2.1 dX7_count_7 (by rw [hs44]; decide) (by rw [hs44]; decide) (off := 161) (by rw [hs44]; rfl) (by decide) ?_
                          refine lv_aload_n C.1.1 C.1.2.1 dX7_count_168 rfl (lv_at hl 1 rfl) ?_
                          refine gf7_61 C hW hk_a0 w_1091 dX7_count_169 ?_
                          exact ri hQ C hr hlk hW hf (rok_i _) dX7_count_172
                        · replace hf := (if_neg hs44).symm.trans hf
                          refine sw_c (k := 12) (fun hs45 => ?_) (fun hs45 => ?_)
                          · replace hf := (if_pos hs45).symm.trans hf
                            refine lv_tableIn (tgt := 173) C.1.1 C.1.2.1 dX7_count_7 (by rw [hs45]; decide) (by rw [hs45]; decide) (off := 166) (by rw [hs45]; rfl) (by decide) ?_
                            refine lv_aload_n C.1.1 C.1.2.1 dX7_count_173 rfl (lv_at hl 1 rfl) ?_
                            have hk46 := sh7_65 hW hk_a0
                            refine gf7_65 C hW hk_a0 w_1095 dX7_count_174 ?_
                            refine lv_iconst (v := 0) C.1.1 C.1.2.1 dX7_count_177 (by decide) ?_
                            refine waz C hW hk46 (vin_p ⟨by decide, by decide⟩) dX7_count_178 ?_
                            refine lv_if_eq (tgt := 186) C.1.1 C.1.2.1 dX7_count_179 (by decide) (fun h9 => ?_) (fun h9 => ?_)
                            · replace hf := (if_pos h9).symm.trans hf
                              refine lv_iconst (v := 0) C.1.1 C.1.2.1 dX7_count_186 (by decide) ?_
                              exact J187 _ _ _ _ _ hf hW (lv_sub hl [1] rfl)
                            · replace hf := (if_neg h9).symm.trans hf
                              refine lv_iconst (v := 1) C.1.1 C.1.2.1 dX7_count_182 (by decide) ?_
                              refine lv_goto (tgt := 187) C.1.1 C.1.2.1 dX7_count_183 (by decide) ?_
                              exact J187 _ _ _ _ _ hf hW (lv_sub hl [1] rfl)
                          · replace hf := (if_neg hs45).symm.trans hf
                            refine sw_c (k := 13) (fun hs49 => ?_) (fun hs49 => ?_)
                            · replace hf := (if_pos hs49).symm.trans hf
                              refine lv_tableIn (tgt := 218) C.1.1 C.1.2.1 dX7_count_7 (by rw [hs49]; decide) (by rw [hs49]; decide) (off := 211) (by rw [hs49]; rfl) (by decide) ?_
                              refine lv_aload_n C.1.1 C.1.2.1 dX7_count_218 rfl (lv_at hl 1 rfl) ?_
                              have hk50 := sh7_48 hW hk_a0
                              refine gf7_48 C hW hk_a0 w_1078 dX7_count_219 ?_
                              refine lv_bipush (v := 73) C.1.1 C.1.2.1 dX7_count_222 (by decide) ?_
                              refine lv_iload_n C.1.1 C.1.2.1 dX7_count_224 rfl (lv_at hl 2 rfl) ?_
                              refine lv_iadd C.1.1 C.1.2.1 dX7_count_225 ?_
                              obtain ⟨hv51, hf⟩ := gd hf
                              refine wai C hW hk50 (vin_p hv51) dX7_count_226 ?_
                              exact ri hQ C hr hlk hW hf (rok_i _) dX7_count_227
                            · replace hf := (if_neg hs49).symm.trans hf
                              refine sw_c (k := 14) (fun hs52 => ?_) (fun hs52 => ?_)
                              · replace hf := (if_pos hs52).symm.trans hf
                                refine lv_tableIn (tgt := 218) C.1.1 C.1.2.1 dX7_count_7 (by rw [hs52]; decide) (by rw [hs52]; decide) (off := 211) (by rw [hs52]; rfl) (by decide) ?_
                                refine lv_aload_n C.1.1 C.1.2.1 dX7_count_218 rfl (lv_at hl 1 rfl) ?_
                                have hk53 := sh7_48 hW hk_a0
                                refine gf7_48 C hW hk_a0 w_1078 dX7_count_219 ?_
                                refine lv_bipush (v := 73) C.1.1 C.1.2.1 dX7_count_222 (by decide) ?_
                                refine lv_iload_n C.1.1 C.1.2.1 dX7_count_224 rfl (lv_at hl 2 rfl) ?_
                                refine lv_iadd C.1.1 C.1.2.1 dX7_count_225 ?_
                                obtain ⟨hv54, hf⟩ := gd hf
                                refine wai C hW hk53 (vin_p hv54) dX7_count_226 ?_
                                exact ri hQ C hr hlk hW hf (rok_i _) dX7_count_227
                              · replace hf := (if_neg hs52).symm.trans hf
                                refine sw_c (k := 15) (fun hs55 => ?_) (fun hs55 => ?_)
                                · replace hf := (if_pos hs55).symm.trans hf
                                  refine lv_tableIn (tgt := 228) C.1.1 C.1.2.1 dX7_count_7 (by rw [hs55]; decide) (by rw [hs55]; decide) (off := 221) (by rw [hs55]; rfl) (by decide) ?_
                                  refine lv_iconst (v := 0) C.1.1 C.1.2.1 dX7_count_228 (by decide) ?_
                                  refine lv_istore_n (lv' := [(3, .int _), (2, .int _), (0, .ref _), (1, .int _)]) C.1.1 C.1.2.1 dX7_count_229 rfl hl (by decide) rfl (fun ls hl => ?_)
                                  obtain ⟨o62, ho, hf⟩ := bd hf
                                  obtain ⟨n, ho⟩ := lp_it ho
                                  refine L230 n _ _ _ _ _ _ o62 ho hW (lv_sub hl [2, 1, 0] rfl) ?_
                                  intro y64 σ63 H locs ls e9 hW hl
                                  subst e9
                                  try dsimp only at hf
                                  refine lv_iload_n C.1.1 C.1.2.1 dX7_count_267 rfl (lv_at hl 0 rfl) ?_
                                  exact ri hQ C hr hlk hW hf (rok_i _) dX7_count_268
                                · replace hf := (if_neg hs55).symm.trans hf
                                  refine sw_c (k := 16) (fun hs66 => ?_) (fun hs66 => ?_)
                                  · replace hf := (if_pos hs66).symm.trans hf
                                    refine lv_tableIn (tgt := 269) C.1.1 C.1.2.1 dX7_count_7 (by rw [hs66]; decide) (by rw [hs66]; decide) (off := 262) (by rw [hs66]; rfl) (by decide) ?_
                                    refine lv_aload_n C.1.1 C.1.2.1 dX7_count_269 rfl (lv_at hl 1 rfl) ?_
                                    obtain ⟨⟨r69, σ68⟩, hc67, hf⟩ := bd hf
                                    try dsimp only at hf
                                    refine cVi C hW (mX7_rentsAll hk_a0 hc67) hk_a0 kvX7_rentsAll w_1603 ⟨(Nat.le_of_ble_eq_true rfl), (Nat.le_of_ble_eq_true rfl)⟩ ⟨Nat.zero_le _, Nat.zero_le _⟩ rfl hl.1 (rest := []) rfl (Nat.le_of_ble_eq_true rfl) dX7_count_270 (fun H locs hn70 hW => ?_)
                                    exact ri hQ C hr hlk hW hf (rok_i _) dX7_count_273
                                  · replace hf := (if_neg hs66).symm.trans hf
                                    refine lv_tableOut (tgt := 274) C.1.1 C.1.2.1 dX7_count_7 (by have := sw_n 0 (by decide) hs6; have := sw_n 1 (by decide) hs9; have := sw_n 2 (by decide) hs12; have := sw_n 3 (by decide) hs14; have := sw_n 4 (by decide) hs16; have := sw_n 5 (by decide) hs22; have := sw_n 6 (by decide) hs28; have := sw_n 7 (by decide) hs34; have := sw_n 8 (by decide) hs36; have := sw_n 9 (by decide) hs42; have := sw_n 10 (by decide) hs43; have := sw_n 11 (by decide) hs44; have := sw_n 12 (by decide) hs45; have := sw_n 13 (by decide) hs49; have := sw_n 14 (by decide) hs52; have := sw_n 15 (by decide) hs55; have := sw_n 16 (by decide) hs66; omega) (by decide) ?_
                                    refine lv_iconst (v := (-1)) C.1.1 C.1.2.1 dX7_count_274 (by decide) ?_
                                    exact ri hQ C hr hlk hW hf (rok_i _) dX7_count_275
