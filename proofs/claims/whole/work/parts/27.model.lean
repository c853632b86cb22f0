theorem kvX7_copiesStill : KV 7 "RightKeysModel" yX7_copiesStill cX7_copiesStill 1 none 0 := ⟨⟨w_1533, w_100, w_116, w_1534⟩, ⟨rfl, by decide, by decide, by decide +kernel⟩, by decide, rfl⟩
noncomputable def fX7_copiesStill (a0 : Nat) (σ : Sg) : Option (Sg) := (fX7_copies a0 σ).bind (fun σ2 => (let σ6 := wI σ2 a0 50 (1 : Int32); some σ6))
set_option maxRecDepth 100000 in
set_option maxHeartbeats 4000000 in
theorem mX7_copiesStill {l : Launch} {G : Gm} {a0 : Nat} {σ : Sg} {σ' : Sg} (hk_a0 : gK G a0 = 8) (hf : fX7_copiesStill a0 σ = some σ') : Mv l G yX7_copiesStill cX7_copiesStill 1 1 21 [.ref (gB G + a0)] σ σ' := by
  refine of_W "RightKeysModel" rfl (by decide) (Nat.le_of_ble_eq_true rfl) ?_
  intro p e s m args below meth c Q hQ C hr hlk hW ls hl
  have h00 := hW.1
  have hl : lv_has ls 1 [(0, .ref (gB G + a0))] := hl
  delta fX7_copiesStill at hf
  refine lv_aload_n C.1.1 C.1.2.1 dX7_copiesStill_0 rfl (lv_at hl 0 rfl) ?_
  obtain ⟨σ2, hc1, hf⟩ := bd hf
  try dsimp only at hf
  refine cVv C hW (mX7_copies hk_a0 hc1) hk_a0 kvX7_copies w_1354 ⟨(Nat.le_of_ble_eq_true rfl), (Nat.le_of_ble_eq_true rfl)⟩ ⟨Nat.zero_le _, Nat.zero_le _⟩ rfl hl.1 (rest := []) rfl (Nat.le_of_ble_eq_true rfl) dX7_copiesStill_1 (fun H locs hW => ?_)
  refine lv_aload_n C.1.1 C.1.2.1 dX7_copiesStill_4 rfl (lv_at hl 0 rfl) ?_
  refine lv_iconst (v := 1) C.1.1 C.1.2.1 dX7_copiesStill_5 (by decide) ?_
  refine pf7_50 C hW hk_a0 w_1080 (Or.inr rfl) dX7_copiesStill_6 (fun H locs hW => ?_)
  exact rv hQ C hr hlk hW hf dX7_copiesStill_9
theorem ksX7_mixed : KS yX7_mixed cX7_mixed 3 (some .int) 2 := ⟨⟨w_1464, w_116, w_1465⟩, ⟨by decide, by decide, by decide +kernel⟩⟩
noncomputable def fX7_mixed (p0 : Int32) (p1 : Int32) (σ : Sg) : Option (Int32 × Sg) := (let x2_1 := (((p0 ^^^ p1) * (1103515245 : Int32)) + (12345 : Int32)); some ((x2_1 ^^^ (ius x2_1 (15 : Int32))), σ))
set_option maxRecDepth 100000 in
set_option maxHeartbeats 4000000 in
theorem mX7_mixed {l : Launch} {G : Gm} {p0 : Int32} {p1 : Int32} {σ : Sg} {r : Int32} {σ' : Sg}  (hf : fX7_mixed p0 p1 σ = some (r, σ')) : Mi l G yX7_mixed cX7_mixed 3 .int 0 0 [.int p0, .int p1] σ r σ' := by
  refine of_W "RightKeysModel" rfl (by decide) (Nat.le_of_ble_eq_true rfl) ?_
  intro p e s m args below meth c Q hQ C hr hlk hW ls hl
  have h00 := hW.1
  have hl : lv_has ls 3 [(0, .int p0), (1, .int p1)] := hl
  delta fX7_mixed at hf
  refine lv_iload_n C.1.1 C.1.2.1 dX7_mixed_0 rfl (lv_at hl 0 rfl) ?_
  refine lv_iload_n C.1.1 C.1.2.1 dX7_mixed_1 rfl (lv_at hl 1 rfl) ?_
  refine lv_ixor C.1.1 C.1.2.1 dX7_mixed_2 ?_
  refine lv_ldcw (v := 1103515245) C.1.1 C.1.2.1 C.1.2.2.2.1 (C.w w_1466) dX7_mixed_3 ?_
  refine lv_imul C.1.1 C.1.2.1 dX7_mixed_6 ?_
  refine lv_sipush (v := 12345) C.1.1 C.1.2.1 dX7_mixed_7 (by decide) ?_
  refine lv_iadd C.1.1 C.1.2.1 dX7_mixed_10 ?_
  refine lv_istore_n (lv' := [(2, .int _), (0, .int _), (1, .int _)]) C.1.1 C.1.2.1 dX7_mixed_11 rfl hl (by decide) rfl (fun ls hl => ?_)
  refine lv_iload_n C.1.1 C.1.2.1 dX7_mixed_12 rfl (lv_at hl 0 rfl) ?_
  refine lv_iload_n C.1.1 C.1.2.1 dX7_mixed_13 rfl (lv_at hl 0 rfl) ?_
  refine lv_bipush (v := 15) C.1.1 C.1.2.1 dX7_mixed_14 (by decide) ?_
  refine lv_iushr (v := ius _ _) C.1.1 C.1.2.1 dX7_mixed_16 rfl ?_
  refine lv_ixor C.1.1 C.1.2.1 dX7_mixed_17 ?_
  exact ri hQ C hr hlk hW hf (rok_i _) dX7_mixed_18
theorem kvX7_lotOf : KV 7 "RightKeysModel" yX7_lotOf cX7_lotOf 2 (some .int) 1 := ⟨⟨w_1461, w_87, w_116, w_1462⟩, ⟨rfl, by decide, by decide, by decide +kernel⟩, by decide, rfl⟩
noncomputable def fX7_lotOf (a0 : Nat) (p1 : Int32) (σ : Sg) : Option (Int32 × Sg) := (fX7_mixed (σ.1 a0 49) (133 : Int32) σ).bind (fun q5 => let r3 := q5.1; let σ2 := q5.2; (fX7_mixed r3 p1 σ2).bind (fun q10 => let r8 := q10.1; let σ7 := q10.2; some ((irem (ius r8 (1 : Int32)) (100 : Int32)), σ7)))
set_option maxRecDepth 100000 in
set_option maxHeartbeats 4000000 in
theorem mX7_lotOf {l : Launch} {G : Gm} {a0 : Nat} {p1 : Int32} {σ : Sg} {r : Int32} {σ' : Sg} (hk_a0 : gK G a0 = 8) (hf : fX7_lotOf a0 p1 σ = some (r, σ')) : Mi l G yX7_lotOf cX7_lotOf 2 .int 1 22 [.ref (gB G + a0), .int p1] σ r σ' := by
  refine of_W "RightKeysModel" rfl (by decide) (Nat.le_of_ble_eq_true rfl) ?_
  intro p e s m args below meth c Q hQ C hr hlk hW ls hl
  have h00 := hW.1
  have hl : lv_has ls 2 [(0, .ref (gB G + a0)), (1, .int p1)] := hl
  delta fX7_lotOf at hf
  refine lv_aload_n C.1.1 C.1.2.1 dX7_lotOf_0 rfl (lv_at hl 0 rfl) ?_
  refine gf7_49 C hW hk_a0 w_1079 dX7_lotOf_1 ?_
  refine lv_sipush (v := 133) C.1.1 C.1.2.1 dX7_lotOf_4 (by decide) ?_
  obtain ⟨⟨r3, σ2⟩, hc1, hf⟩ := bd hf
  try dsimp only at hf
  refine cSi C hW (mX7_mixed hc1) ksX7_mixed w_1463 ⟨(Nat.le_of_ble_eq_true rfl), (Nat.le_of_ble_eq_true rfl)⟩ ⟨Nat.zero_le _, Nat.zero_le _⟩ rfl hl.1 (rest := []) rfl (Nat.le_of_ble_eq_true rfl) dX7_lotOf_7 (fun H locs hn4 hW => ?_)
  refine lv_iload_n C.1.1 C.1.2.1 dX7_lotOf_10 rfl (lv_at hl 1 rfl) ?_
  obtain ⟨⟨r8, σ7⟩, hc6, hf⟩ := bd hf
  try dsimp only at hf
  refine cSi C hW (mX7_mixed hc6) ksX7_mixed w_1463 ⟨(Nat.le_of_ble_eq_true rfl), (Nat.le_of_ble_eq_true rfl)⟩ ⟨Nat.zero_le _, Nat.zero_le _⟩ rfl hl.1 (rest := []) rfl (Nat.le_of_ble_eq_true rfl) dX7_lotOf_11 (fun H locs hn9 hW => ?_)
  refine lv_iconst (v := 1) C.1.1 C.1.2.1 dX7_lotOf_14 (by decide) ?_
  refine lv_iushr (v := ius _ _) C.1.1 C.1.2.1 dX7_lotOf_15 rfl ?_
  refine lv_bipush (v := 100) C.1.1 C.1.2.1 dX7_lotOf_16 (by decide) ?_
  refine lv_irem C.1.1 C.1.2.1 dX7_lotOf_18 (by decide) ?_
  exact ri hQ C hr hlk hW hf (rok_i _) dX7_lotOf_19
theorem kvX7_rightOf : KV 7 "RightKeysModel" yX7_rightOf cX7_rightOf 2 (some .int) 1 := ⟨⟨w_1449, w_84, w_116, w_1450⟩, ⟨rfl, by decide, by decide, by decide +kernel⟩, by decide, rfl⟩
noncomputable def fX7_rightOf (a0 : Nat) (p1 : Int32) (σ : Sg) : Option (Int32 × Sg) := if vin (σ.1 a0 18) 2 then ((if ¬ (σ.1 (a0 + 9) (((σ.1 a0 18)).toNatClampNeg)) = 0 then (some ((irem (p1 + (1 : Int32)) (σ.1 (a0 + 9) (((σ.1 a0 18)).toNatClampNeg))), σ)) else none)) else none
set_option maxRecDepth 100000 in
set_option maxHeartbeats 4000000 in
theorem mX7_rightOf {l : Launch} {G : Gm} {a0 : Nat} {p1 : Int32} {σ : Sg} {r : Int32} {σ' : Sg} (hk_a0 : gK G a0 = 8) (hf : fX7_rightOf a0 p1 σ = some (r, σ')) : Mi l G yX7_rightOf cX7_rightOf 2 .int 0 0 [.ref (gB G + a0), .int p1] σ r σ' := by
  refine of_W "RightKeysModel" rfl (by decide) (Nat.le_of_ble_eq_true rfl) ?_
  intro p e s m args below meth c Q hQ C hr hlk hW ls hl
  have h00 := hW.1
  have hl : lv_has ls 2 [(0, .ref (gB G + a0)), (1, .int p1)] := hl
  delta fX7_rightOf at hf
  refine lv_iload_n C.1.1 C.1.2.1 dX7_rightOf_0 rfl (lv_at hl 1 rfl) ?_
  refine lv_iconst (v := 1) C.1.1 C.1.2.1 dX7_rightOf_1 (by decide) ?_
  refine lv_iadd C.1.1 C.1.2.1 dX7_rightOf_2 ?_
  refine lv_aload_n C.1.1 C.1.2.1 dX7_rightOf_3 rfl (lv_at hl 0 rfl) ?_
  have hk1 := sh7_22 hW hk_a0
  refine gf7_22 C hW hk_a0 w_1052 dX7_rightOf_4 ?_
  refine lv_aload_n C.1.1 C.1.2.1 dX7_rightOf_7 rfl (lv_at hl 0 rfl) ?_
  refine gf7_18 C hW hk_a0 w_1048 dX7_rightOf_8 ?_
  obtain ⟨hv2, hf⟩ := gd hf
  refine wai C hW hk1 (vin_p hv2) dX7_rightOf_11 ?_
  obtain ⟨hz3, hf⟩ := gd hf
  refine lv_irem C.1.1 C.1.2.1 dX7_rightOf_12 hz3 ?_
  exact ri hQ C hr hlk hW hf (rok_i _) dX7_rightOf_13
theorem kvX7_leftOf : KV 7 "RightKeysModel" yX7_leftOf cX7_leftOf 2 (some .int) 1 := ⟨⟨w_1501, w_96, w_116, w_1502⟩, ⟨rfl, by decide, by decide, by decide +kernel⟩, by decide, rfl⟩
noncomputable def fX7_leftOf (a0 : Nat) (p1 : Int32) (σ : Sg) : Option (Int32 × Sg) := if vin (σ.1 a0 18) 2 then ((if ¬ (σ.1 (a0 + 9) (((σ.1 a0 18)).toNatClampNeg)) = 0 then (some ((irem ((p1 + (σ.1 (a0 + 9) (((σ.1 a0 18)).toNatClampNeg))) - (1 : Int32)) (σ.1 (a0 + 9) (((σ.1 a0 18)).toNatClampNeg))), σ)) else none)) else none
set_option maxRecDepth 100000 in
set_option maxHeartbeats 4000000 in
theorem mX7_leftOf {l : Launch} {G : Gm} {a0 : Nat} {p1 : Int32} {σ : Sg} {r : Int32} {σ' : Sg} (hk_a0 : gK G a0 = 8) (hf : fX7_leftOf a0 p1 σ = some (r, σ')) : Mi l G yX7_leftOf cX7_leftOf 2 .int 0 0 [.ref (gB G + a0), .int p1] σ r σ' := by
  refine of_W "RightKeysModel" rfl (by decide) (Nat.le_of_ble_eq_true rfl) ?_
  intro p e s m args below meth c Q hQ C hr hlk hW ls hl
  have h00 := hW.1
  have hl : lv_has ls 2 [(0, .ref (gB G + a0)), (1, .int p1)] := hl
  delta fX7_leftOf at hf
  refine lv_iload_n C.1.1 C.1.2.1 dX7_leftOf_0 rfl (lv_at hl 1 rfl) ?_
  refine lv_aload_n C.1.1 C.1.2.1 dX7_leftOf_1 rfl (lv_at hl 0 rfl) ?_
  have hk1 := sh7_22 hW hk_a0
  refine gf7_22 C hW hk_a0 w_1052 dX7_leftOf_2 ?_
  refine lv_aload_n C.1.1 C.1.2.1 dX7_leftOf_5 rfl (lv_at hl 0 rfl) ?_
  refine gf7_18 C hW hk_a0 w_1048 dX7_leftOf_6 ?_
  obtain ⟨hv2, hf⟩ := gd hf
  refine wai C hW hk1 (vin_p hv2) dX7_leftOf_9 ?_
  refine lv_iadd C.1.1 C.1.2.1 dX7_leftOf_10 ?_
  refine lv_iconst (v := 1) C.1.1 C.1.2.1 dX7_leftOf_11 (by decide) ?_
  refine lv_isub C.1.1 C.1.2.1 dX7_leftOf_12 ?_
  refine lv_aload_n C.1.1 C.1.2.1 dX7_leftOf_13 rfl (lv_at hl 0 rfl) ?_
  have hk3 := sh7_22 hW hk_a0
  refine gf7_22 C hW hk_a0 w_1052 dX7_leftOf_14 ?_
  refine lv_aload_n C.1.1 C.1.2.1 dX7_leftOf_17 rfl (lv_at hl 0 rfl) ?_
  refine gf7_18 C hW hk_a0 w_1048 dX7_leftOf_18 ?_
  refine wai C hW hk3 (vin_p hv2) dX7_leftOf_21 ?_
  obtain ⟨hz4, hf⟩ := gd hf
  refine lv_irem C.1.1 C.1.2.1 dX7_leftOf_22 hz4 ?_
  exact ri hQ C hr hlk hW hf (rok_i _) dX7_leftOf_23
theorem kvX7_soBits : KV 7 "RightKeysModel" yX7_soBits cX7_soBits 4 (some .int) 1 := ⟨⟨w_1368, w_72, w_116, w_1369⟩, ⟨rfl, by decide, by decide, by decide +kernel⟩, by decide, rfl⟩
noncomputable def jX7_soBits_36 (a0 : Nat) (p1 : Int32) (x2 : Int32) (x3 : Int32) (σ : Sg) : Option ((Int32 × Int32 × Sg) ⊕ (Int32 × Sg)) := (let x3_5 := x3 + (1 : Int32); some (Sum.inl (x2, x3_5, σ)))
noncomputable def bX7_soBits_4 (a0 : Nat) (p1 : Int32) (x2 : Int32) (x3 : Int32) (σ : Sg) : Option ((Int32 × Int32 × Sg) ⊕ (Int32 × Sg)) := if vin (σ.1 a0 18) 2 then (if (σ.1 (a0 + 9) (((σ.1 a0 18)).toNatClampNeg)) ≤ x3 then (some (Sum.inr (x2, σ))) else (if vin ((40 : Int32) + x3) 88 then (if (σ.1 (a0 + 31) ((((40 : Int32) + x3)).toNatClampNeg)) = p1 then ((let x2_6 := (x2 ||| ((1 : Int32) <<< (x3 &&& 31))); jX7_soBits_36 a0 p1 x2_6 x3 σ)) else (jX7_soBits_36 a0 p1 x2 x3 σ)) else none)) else none
noncomputable def fX7_soBits (a0 : Nat) (p1 : Int32) (σ : Sg) : Option (Int32 × Sg) := (lp (fun st => bX7_soBits_4 a0 p1 st.1 st.2.1 st.2.2) ((0 : Int32), (0 : Int32), σ)).bind (fun q10 => let y9 := q10.1; let σ8 := q10.2;  some (y9, σ8))
set_option maxRecDepth 100000 in
set_option maxHeartbeats 4000000 in
theorem mX7_soBits {l : Launch} {G : Gm} {a0 : Nat} {p1 : Int32} {σ : Sg} {r : Int32} {σ' : Sg} (hk_a0 : gK G a0 = 8) (hf : fX7_soBits a0 p1 σ = some (r, σ')) : Mi l G yX7_soBits cX7_soBits 4 .int 0 0 [.ref (gB G + a0), .int p1] σ r σ' := by
  refine of_W "RightKeysModel" rfl (by decide) (Nat.le_of_ble_eq_true rfl) ?_
  intro p e s m args below meth c Q hQ C hr hlk hW ls hl
  have h00 := hW.1
  have hl : lv_has ls 4 [(0, .ref (gB G + a0)), (1, .int p1)] := hl
  delta fX7_soBits at hf
  have L4 : ∀ (n : Nat) (x2 : Int32) (x3 : Int32) (σ : Sg) (H : Heap) (locs : List Loc) (ls : Array Slot) (out : (Int32 × Sg)), iter (fun st => bX7_soBits_4 a0 p1 st.1 st.2.1 st.2.2) n (x2, x3, σ) = some out → Ws G σ s.heap H locs → lv_has ls 4 [(0, .ref (gB G + a0)), (1, .int p1), (2, .int x2), (3, .int x3)] → (∀ (y2 : Int32) (σ : Sg) (H : Heap) (locs : List Loc) (ls : Array Slot), out = (y2, σ) → Ws G σ s.heap H locs → lv_has ls 4 [(2, .int y2)] → W p l e (rmOf 0 0) s m args below meth c H locs 0 0 Q (F0 m 42 ls [])) → W p l e (rmOf 0 0) s m args below meth c H locs 0 0 Q (F0 m 4 ls []) := by
    intro n
    induction n with
    | zero =>
      intro x2 x3 σ H locs ls out hf
      exact (it_0 hf).elim
    | succ n ih =>
      intro x2 x3 σ H locs ls out hf hW hl K4_42
      obtain ⟨x, hf, hx⟩ := it_s hf
      have hf : bX7_soBits_4 a0 p1 x2 x3 σ = some x := hf
      delta bX7_soBits_4 at hf
      have J36 : ∀ (x2 : Int32) (x3 : Int32) (σ : Sg) (H : Heap) (locs : List Loc) (ls : Array Slot), jX7_soBits_36 a0 p1 x2 x3 σ = some x → Ws G σ s.heap H locs → lv_has ls 4 [(0, .ref (gB G + a0)), (1, .int p1), (2, .int x2), (3, .int x3)] → W p l e (rmOf 0 0) s m args below meth c H locs 0 0 Q (F0 m 36 ls []) := by
        intro x2 x3 σ H locs ls hf hW hl
        delta jX7_soBits_36 at hf
        refine lv_iinc (v := _) (lv' := [(3, .int _), (0, .ref _), (1, .int _), (2, .int _)]) C.1.1 C.1.2.1 dX7_soBits_36 hl (k := 3) rfl (ii (k := 1) (by decide)) (by decide) rfl (fun ls hl => ?_)
        refine lv_goto (tgt := 4) C.1.1 C.1.2.1 dX7_soBits_39 (by decide) ?_
        cases hf
        exact ih _ _ _ _ _ _ _ hx hW (lv_sub hl [1, 2, 3, 0] rfl) K4_42
      refine lv_iload_n C.1.1 C.1.2.1 dX7_soBits_4 rfl (lv_at hl 3 rfl) ?_
      refine lv_aload_n C.1.1 C.1.2.1 dX7_soBits_5 rfl (lv_at hl 0 rfl) ?_
      have hk1 := sh7_22 hW hk_a0
      refine gf7_22 C hW hk_a0 w_1052 dX7_soBits_6 ?_
      refine lv_aload_n C.1.1 C.1.2.1 dX7_soBits_9 rfl (lv_at hl 0 rfl) ?_
      refine gf7_18 C hW hk_a0 w_1048 dX7_soBits_10 ?_
      obtain ⟨hv2, hf⟩ := gd hf
      refine wai C hW hk1 (vin_p hv2) dX7_soBits_13 ?_
      refine lv_icmp_ge (tgt := 42) C.1.1 C.1.2.1 dX7_soBits_14 (by decide) (fun h9 => ?_) (fun h9 => ?_)
      · replace hf := (if_pos h9).symm.trans hf
        cases hf
        cases hx
        exact K4_42 _ _ _ _ _ rfl hW (lv_sub hl [2] rfl)
      · replace hf := (if_neg h9).symm.trans hf
        refine lv_aload_n C.1.1 C.1.2.1 dX7_soBits_17 rfl (lv_at hl 0 rfl) ?_
        have hk3 := sh7_48 hW hk_a0
        refine gf7_48 C hW hk_a0 w_1078 dX7_soBits_18 ?_
        refine lv_bipush (v := 40) C.1.1 C.1.2.1 dX7_soBits_21 (by decide) ?_
        refine lv_iload_n C.1.1 C.1.2.1 dX7_soBits_23 rfl (lv_at hl 3 rfl) ?_
        refine lv_iadd C.1.1 C.1.2.1 dX7_soBits_24 ?_
        obtain ⟨hv4, hf⟩ := gd hf
        refine wai C hW hk3 (vin_p hv4) dX7_soBits_25 ?_
        refine lv_iload_n C.1.1 C.1.2.1 dX7_soBits_26 rfl (lv_at hl 1 rfl) ?_
        refine lv_icmp_ne (tgt := 36) C.1.1 C.1.2.1 dX7_soBits_27 (by decide) (fun h9 => ?_) (fun h9 => ?_)
        · replace hf := (if_neg h9).symm.trans hf
          exact J36 _ _ _ _ _ _ hf hW (lv_sub hl [0, 1, 2, 3] rfl)
        · replace hf := (if_pos h9).symm.trans hf
          refine lv_iload_n C.1.1 C.1.2.1 dX7_soBits_30 rfl (lv_at hl 2 rfl) ?_
          refine lv_iconst (v := 1) C.1.1 C.1.2.1 dX7_soBits_31 (by decide) ?_
          refine lv_iload_n C.1.1 C.1.2.1 dX7_soBits_32 rfl (lv_at hl 3 rfl) ?_
          refine lv_ishl C.1.1 C.1.2.1 dX7_soBits_33 ?_
          refine lv_ior C.1.1 C.1.2.1 dX7_soBits_34 ?_
          refine lv_istore_n (lv' := [(2, .int _), (0, .ref _), (1, .int _), (3, .int _)]) C.1.1 C.1.2.1 dX7_soBits_35 rfl hl (by decide) rfl (fun ls hl => ?_)
          exact J36 _ _ _ _ _ _ hf hW (lv_sub hl [1, 2, 0, 3] rfl)
  refine lv_iconst (v := 0) C.1.1 C.1.2.1 dX7_soBits_0 (by decide) ?_
  refine lv_istore_n (lv' := [(2, .int _), (0, .ref _), (1, .int _)]) C.1.1 C.1.2.1 dX7_soBits_1 rfl hl (by decide) rfl (fun ls hl => ?_)
  refine lv_iconst (v := 0) C.1.1 C.1.2.1 dX7_soBits_2 (by decide) ?_
  refine lv_istore_n (lv' := [(3, .int _), (2, .int _), (0, .ref _), (1, .int _)]) C.1.1 C.1.2.1 dX7_soBits_3 rfl hl (by decide) rfl (fun ls hl => ?_)
  obtain ⟨o7, ho, hf⟩ := bd hf
  obtain ⟨n, ho⟩ := lp_it ho
  refine L4 n _ _ _ _ _ _ o7 ho hW (lv_sub hl [2, 3, 1, 0] rfl) ?_
  intro y9 σ8 H locs ls e9 hW hl
  subst e9
  try dsimp only at hf
  refine lv_iload_n C.1.1 C.1.2.1 dX7_soBits_42 rfl (lv_at hl 0 rfl) ?_
  exact ri hQ C hr hlk hW hf (rok_i _) dX7_soBits_43
theorem kvX7_keysIn : KV 7 "RightKeysModel" yX7_keysIn cX7_keysIn 4 (some .int) 1 := ⟨⟨w_1375, w_73, w_116, w_1376⟩, ⟨rfl, by decide, by decide, by decide +kernel⟩, by decide, rfl⟩
noncomputable def jX7_keysIn_33 (a0 : Nat) (p1 : Int32) (x2 : Int32) (x3 : Int32) (σ : Sg) : Option ((Int32 × Int32 × Sg) ⊕ (Int32 × Sg)) := (let x3_5 := x3 + (1 : Int32); some (Sum.inl (x2, x3_5, σ)))
noncomputable def bX7_keysIn_4 (a0 : Nat) (p1 : Int32) (x2 : Int32) (x3 : Int32) (σ : Sg) : Option ((Int32 × Int32 × Sg) ⊕ (Int32 × Sg)) := if vin (σ.1 a0 18) 2 then (if (σ.1 (a0 + 14) (((σ.1 a0 18)).toNatClampNeg)) ≤ x3 then (some (Sum.inr (x2, σ))) else (if vin ((72 : Int32) + x3) 88 then (if (σ.1 (a0 + 31) ((((72 : Int32) + x3)).toNatClampNeg)) = p1 then ((let x2_6 := x2 + (1 : Int32); jX7_keysIn_33 a0 p1 x2_6 x3 σ)) else (jX7_keysIn_33 a0 p1 x2 x3 σ)) else none)) else none
noncomputable def fX7_keysIn (a0 : Nat) (p1 : Int32) (σ : Sg) : Option (Int32 × Sg) := (lp (fun st => bX7_keysIn_4 a0 p1 st.1 st.2.1 st.2.2) ((0 : Int32), (0 : Int32), σ)).bind (fun q10 => let y9 := q10.1; let σ8 := q10.2;  some (y9, σ8))
set_option maxRecDepth 100000 in
set_option maxHeartbeats 4000000 in
theorem mX7_keysIn {l : Launch} {G : Gm} {a0 : Nat} {p1 : Int32} {σ : Sg} {r : Int32} {σ' : Sg} (hk_a0 : gK G a0 = 8) (hf : fX7_keysIn a0 p1 σ = some (r, σ')) : Mi l G yX7_keysIn cX7_keysIn 4 .int 0 0 [.ref (gB G + a0), .int p1] σ r σ' := by
  refine of_W "RightKeysModel" rfl (by decide) (Nat.le_of_ble_eq_true rfl) ?_
  intro p e s m args below meth c Q hQ C hr hlk hW ls hl
  have h00 := hW.1
  have hl : lv_has ls 4 [(0, .ref (gB G + a0)), (1, .int p1)] := hl
  delta fX7_keysIn at hf
  have L4 : ∀ (n : Nat) (x2 : Int32) (x3 : Int32) (σ : Sg) (H : Heap) (locs : List Loc) (ls : Array Slot) (out : (Int32 × Sg)), iter (fun st => bX7_keysIn_4 a0 p1 st.1 st.2.1 st.2.2) n (x2, x3, σ) = some out → Ws G σ s.heap H locs → lv_has ls 4 [(0, .ref (gB G + a0)), (1, .int p1), (2, .int x2), (3, .int x3)] → (∀ (y2 : Int32) (σ : Sg) (H : Heap) (locs : List Loc) (ls : Array Slot), out = (y2, σ) → Ws G σ s.heap H locs → lv_has ls 4 [(2, .int y2)] → W p l e (rmOf 0 0) s m args below meth c H locs 0 0 Q (F0 m 39 ls [])) → W p l e (rmOf 0 0) s m args below meth c H locs 0 0 Q (F0 m 4 ls []) := by
    intro n
    induction n with
    | zero =>
      intro x2 x3 σ H locs ls out hf
      exact (it_0 hf).elim
    | succ n ih =>
      intro x2 x3 σ H locs ls out hf hW hl K4_39
      obtain ⟨x, hf, hx⟩ := it_s hf
      have hf : bX7_keysIn_4 a0 p1 x2 x3 σ = some x := hf
      delta bX7_keysIn_4 at hf
      have J33 : ∀ (x2 : Int32) (x3 : Int32) (σ : Sg) (H : Heap) (locs : List Loc) (ls : Array Slot), jX7_keysIn_33 a0 p1 x2 x3 σ = some x → Ws G σ s.heap H locs → lv_has ls 4 [(0, .ref (gB G + a0)), (1, .int p1), (2, .int x2), (3, .int x3)] → W p l e (rmOf 0 0) s m args below meth c H locs 0 0 Q (F0 m 33 ls []) := by
        intro x2 x3 σ H locs ls hf hW hl
        delta jX7_keysIn_33 at hf
        refine lv_iinc (v := _) (lv' := [(3, .int _), (0, .ref _), (1, .int _), (2, .int _)]) C.1.1 C.1.2.1 dX7_keysIn_33 hl (k := 3) rfl (ii (k := 1) (by decide)) (by decide) rfl (fun ls hl => ?_)
        refine lv_goto (tgt := 4) C.1.1 C.1.2.1 dX7_keysIn_36 (by decide) ?_
        cases hf
        exact ih _ _ _ _ _ _ _ hx hW (lv_sub hl [1, 2, 3, 0] rfl) K4_39
      refine lv_iload_n C.1.1 C.1.2.1 dX7_keysIn_4 rfl (lv_at hl 3 rfl) ?_
      refine lv_aload_n C.1.1 C.1.2.1 dX7_keysIn_5 rfl (lv_at hl 0 rfl) ?_
      have hk1 := sh7_27 hW hk_a0
      refine gf7_27 C hW hk_a0 w_1057 dX7_keysIn_6 ?_
      refine lv_aload_n C.1.1 C.1.2.1 dX7_keysIn_9 rfl (lv_at hl 0 rfl) ?_
      refine gf7_18 C hW hk_a0 w_1048 dX7_keysIn_10 ?_
      obtain ⟨hv2, hf⟩ := gd hf
      refine wai C hW hk1 (vin_p hv2) dX7_keysIn_13 ?_
      refine lv_icmp_ge (tgt := 39) C.1.1 C.1.2.1 dX7_keysIn_14 (by decide) (fun h9 => ?_) (fun h9 => ?_)
      · replace hf := (if_pos h9).symm.trans hf
        cases hf
        cases hx
        exact K4_39 _ _ _ _ _ rfl hW (lv_sub hl [2] rfl)
      · replace hf := (if_neg h9).symm.trans hf
        refine lv_aload_n C.1.1 C.1.2.1 dX7_keysIn_17 rfl (lv_at hl 0 rfl) ?_
        have hk3 := sh7_48 hW hk_a0
        refine gf7_48 C hW hk_a0 w_1078 dX7_keysIn_18 ?_
        refine lv_bipush (v := 72) C.1.1 C.1.2.1 dX7_keysIn_21 (by decide) ?_
        refine lv_iload_n C.1.1 C.1.2.1 dX7_keysIn_23 rfl (lv_at hl 3 rfl) ?_
        refine lv_iadd C.1.1 C.1.2.1 dX7_keysIn_24 ?_
        obtain ⟨hv4, hf⟩ := gd hf
        refine wai C hW hk3 (vin_p hv4) dX7_keysIn_25 ?_
        refine lv_iload_n C.1.1 C.1.2.1 dX7_keysIn_26 rfl (lv_at hl 1 rfl) ?_
        refine lv_icmp_ne (tgt := 33) C.1.1 C.1.2.1 dX7_keysIn_27 (by decide) (fun h9 => ?_) (fun h9 => ?_)
        · replace hf := (if_neg h9).symm.trans hf
          exact J33 _ _ _ _ _ _ hf hW (lv_sub hl [0, 1, 2, 3] rfl)
        · replace hf := (if_pos h9).symm.trans hf
          refine lv_iinc (v := _) (lv' := [(2, .int _), (0, .ref _), (1, .int _), (3, .int _)]) C.1.1 C.1.2.1 dX7_keysIn_30 hl (k := 2) rfl (ii (k := 1) (by decide)) (by decide) rfl (fun ls hl => ?_)
          exact J33 _ _ _ _ _ _ hf hW (lv_sub hl [1, 2, 0, 3] rfl)
  refine lv_iconst (v := 0) C.1.1 C.1.2.1 dX7_keysIn_0 (by decide) ?_
  refine lv_istore_n (lv' := [(2, .int _), (0, .ref _), (1, .int _)]) C.1.1 C.1.2.1 dX7_keysIn_1 rfl hl (by decide) rfl (fun ls hl => ?_)
  refine lv_iconst (v := 0) C.1.1 C.1.2.1 dX7_keysIn_2 (by decide) ?_
  refine lv_istore_n (lv' := [(3, .int _), (2, .int _), (0, .ref _), (1, .int _)]) C.1.1 C.1.2.1 dX7_keysIn_3 rfl hl (by decide) rfl (fun ls hl => ?_)
  obtain ⟨o7, ho, hf⟩ := bd hf
  obtain ⟨n, ho⟩ := lp_it ho
  refine L4 n _ _ _ _ _ _ o7 ho hW (lv_sub hl [2, 3, 1, 0] rfl) ?_
  intro y9 σ8 H locs ls e9 hW hl
  subst e9
  try dsimp only at hf
  refine lv_iload_n C.1.1 C.1.2.1 dX7_keysIn_39 rfl (lv_at hl 0 rfl) ?_
  exact ri hQ C hr hlk hW hf (rok_i _) dX7_keysIn_40
theorem kvX7_hasSpare : KV 7 "RightKeysModel" yX7_hasSpare cX7_hasSpare 3 (some .boolean) 1 := ⟨⟨w_1493, w_94, w_116, w_1494⟩, ⟨rfl, by decide, by decide, by decide +kernel⟩, by decide, rfl⟩
noncomputable def jX7_hasSpare_48 (a0 : Nat) (p1 : Int32) (x2 : Int32) (σ : Sg) : Option ((Int32 × Sg) ⊕ ((Sg) ⊕ (Sg))) := (let x2_5 := x2 + (1 : Int32); some (Sum.inl (x2_5, σ)))
noncomputable def bX7_hasSpare_2 (a0 : Nat) (p1 : Int32) (x2 : Int32) (σ : Sg) : Option ((Int32 × Sg) ⊕ ((Sg) ⊕ (Sg))) := if vin (σ.1 a0 18) 2 then (if (σ.1 (a0 + 14) (((σ.1 a0 18)).toNatClampNeg)) ≤ x2 then (some (Sum.inr (Sum.inr σ))) else (if vin ((72 : Int32) + x2) 88 then (if (σ.1 (a0 + 31) ((((72 : Int32) + x2)).toNatClampNeg)) = p1 then (if vin (((6 : Int32) * (σ.1 a0 18)) + x2) 12 then (if (σ.1 (a0 + 15) (((((6 : Int32) * (σ.1 a0 18)) + x2)).toNatClampNeg)) = p1 then (some (Sum.inr (Sum.inl σ))) else (jX7_hasSpare_48 a0 p1 x2 σ)) else none) else (jX7_hasSpare_48 a0 p1 x2 σ)) else none)) else none
noncomputable def fX7_hasSpare (a0 : Nat) (p1 : Int32) (σ : Sg) : Option (Int32 × Sg) := (lp (fun st => bX7_hasSpare_2 a0 p1 st.1 st.2) ((0 : Int32), σ)).bind (fun o8 => Sum.elim (fun σ9 => some ((1 : Int32), σ9)) (fun o8_ => (fun σ10 => some ((0 : Int32), σ10)) o8_) o8)
set_option maxRecDepth 100000 in
set_option maxHeartbeats 4000000 in
theorem mX7_hasSpare {l : Launch} {G : Gm} {a0 : Nat} {p1 : Int32} {σ : Sg} {r : Int32} {σ' : Sg} (hk_a0 : gK G a0 = 8) (hf : fX7_hasSpare a0 p1 σ = some (r, σ')) : Mi l G yX7_hasSpare cX7_hasSpare 3 .boolean 0 0 [.ref (gB G + a0), .int p1] σ r σ' := by
  refine of_W "RightKeysModel" rfl (by decide) (Nat.le_of_ble_eq_true rfl) ?_
  intro p e s m args below meth c Q hQ C hr hlk hW ls hl
  have h00 := hW.1
  have hl : lv_has ls 3 [(0, .ref (gB G + a0)), (1, .int p1)] := hl
  delta fX7_hasSpare at hf
  have L2 : ∀ (n : Nat) (x2 : Int32) (σ : Sg) (H : Heap) (locs : List Loc) (ls : Array Slot) (out : ((Sg) ⊕ (Sg))), iter (fun st => bX7_hasSpare_2 a0 p1 st.1 st.2) n (x2, σ) = some out → Ws G σ s.heap H locs → lv_has ls 3 [(0, .ref (gB G + a0)), (1, .int p1), (2, .int x2)] → (∀ (σ : Sg) (H : Heap) (locs : List Loc) (ls : Array Slot), out = (Sum.inl σ) → Ws G σ s.heap H locs → lv_has ls 3 [] → W p l e (rmOf 0 0) s m args below meth c H locs 0 0 Q (F0 m 46 ls [])) → (∀ (σ : Sg) (H : Heap) (locs : List Loc) (ls : Array Slot), out = (Sum.inr σ) → Ws G σ s.heap H locs → lv_has ls 3 [] → W p l e (rmOf 0 0) s m args below meth c H locs 0 0 Q (F0 m 54 ls [])) → W p l e (rmOf 0 0) s m args below meth c H locs 0 0 Q (F0 m 2 ls []) := by
    intro n
    induction n with
    | zero =>
      intro x2 σ H locs ls out hf
      exact (it_0 hf).elim
    | succ n ih =>
      intro x2 σ H locs ls out hf hW hl K2_46 K2_54
      obtain ⟨x, hf, hx⟩ := it_s hf
      have hf : bX7_hasSpare_2 a0 p1 x2 σ = some x := hf
      delta bX7_hasSpare_2 at hf
      have J48 : ∀ (x2 : Int32) (σ : Sg) (H : Heap) (locs : List Loc) (ls : Array Slot), jX7_hasSpare_48 a0 p1 x2 σ = some x → Ws G σ s.heap H locs → lv_has ls 3 [(0, .ref (gB G + a0)), (1, .int p1), (2, .int x2)] → W p l e (rmOf 0 0) s m args below meth c H locs 0 0 Q (F0 m 48 ls []) := by
        intro x2 σ H locs ls hf hW hl
        delta jX7_hasSpare_48 at hf
        refine lv_iinc (v := _) (lv' := [(2, .int _), (0, .ref _), (1, .int _)]) C.1.1 C.1.2.1 dX7_hasSpare_48 hl (k := 2) rfl (ii (k := 1) (by decide)) (by decide) rfl (fun ls hl => ?_)
        refine lv_goto (tgt := 2) C.1.1 C.1.2.1 dX7_hasSpare_51 (by decide) ?_
        cases hf
        exact ih _ _ _ _ _ _ hx hW (lv_sub hl [1, 2, 0] rfl) K2_46 K2_54
      refine lv_iload_n C.1.1 C.1.2.1 dX7_hasSpare_2 rfl (lv_at hl 2 rfl) ?_
      refine lv_aload_n C.1.1 C.1.2.1 dX7_hasSpare_3 rfl (lv_at hl 0 rfl) ?_
      have hk1 := sh7_27 hW hk_a0
      refine gf7_27 C hW hk_a0 w_1057 dX7_hasSpare_4 ?_
      refine lv_aload_n C.1.1 C.1.2.1 dX7_hasSpare_7 rfl (lv_at hl 0 rfl) ?_
      refine gf7_18 C hW hk_a0 w_1048 dX7_hasSpare_8 ?_
      obtain ⟨hv2, hf⟩ := gd hf
      refine wai C hW hk1 (vin_p hv2) dX7_hasSpare_11 ?_
      refine lv_icmp_ge (tgt := 54) C.1.1 C.1.2.1 dX7_hasSpare_12 (by decide) (fun h9 => ?_) (fun h9 => ?_)
      · replace hf := (if_pos h9).symm.trans hf
        cases hf
        cases hx
        exact K2_54 _ _ _ _ rfl hW (lv_sub hl [] rfl)
      · replace hf := (if_neg h9).symm.trans hf
        refine lv_aload_n C.1.1 C.1.2.1 dX7_hasSpare_15 rfl (lv_at hl 0 rfl) ?_
        have hk3 := sh7_48 hW hk_a0
        refine gf7_48 C hW hk_a0 w_1078 dX7_hasSpare_16 ?_
        refine lv_bipush (v := 72) C.1.1 C.1.2.1 dX7_hasSpare_19 (by decide) ?_
        refine lv_iload_n C.1.1 C.1.2.1 dX7_hasSpare_21 rfl (lv_at hl 2 rfl) ?_
        refine lv_iadd C.1.1 C.1.2.1 dX7_hasSpare_22 ?_
        obtain ⟨hv4, hf⟩ := gd hf
        refine wai C hW hk3 (vin_p hv4) dX7_hasSpare_23 ?_
        refine lv_iload_n C.1.1 C.1.2.1 dX7_hasSpare_24 rfl (lv_at hl 1 rfl) ?_
        refine lv_icmp_ne (tgt := 48) C.1.1 C.1.2.1 dX7_hasSpare_25 (by decide) (fun h9 => ?_) (fun h9 => ?_)
        · replace hf := (if_neg h9).symm.trans hf
          exact J48 _ _ _ _ _ hf hW (lv_sub hl [0, 1, 2] rfl)
        · replace hf := (if_pos h9).symm.trans hf
          refine lv_aload_n C.1.1 C.1.2.1 dX7_hasSpare_28 rfl (lv_at hl 0 rfl) ?_
          have hk6 := sh7_28 hW hk_a0
          refine gf7_28 C hW hk_a0 w_1058 dX7_hasSpare_29 ?_
          refine lv_bipush (v := 6) C.1.1 C.1.2.1 dX7_hasSpare_32 (by decide) ?_
          refine lv_aload_n C.1.1 C.1.2.1 dX7_hasSpare_34 rfl (lv_at hl 0 rfl) ?_
          refine gf7_18 C hW hk_a0 w_1048 dX7_hasSpare_35 ?_
          refine lv_imul C.1.1 C.1.2.1 dX7_hasSpare_38 ?_
          refine lv_iload_n C.1.1 C.1.2.1 dX7_hasSpare_39 rfl (lv_at hl 2 rfl) ?_
          refine lv_iadd C.1.1 C.1.2.1 dX7_hasSpare_40 ?_
          obtain ⟨hv7, hf⟩ := gd hf
          refine wai C hW hk6 (vin_p hv7) dX7_hasSpare_41 ?_
          refine lv_iload_n C.1.1 C.1.2.1 dX7_hasSpare_42 rfl (lv_at hl 1 rfl) ?_
          refine lv_icmp_ne (tgt := 48) C.1.1 C.1.2.1 dX7_hasSpare_43 (by decide) (fun h9 => ?_) (fun h9 => ?_)
          · replace hf := (if_neg h9).symm.trans hf
            exact J48 _ _ _ _ _ hf hW (lv_sub hl [0, 1, 2] rfl)
          · replace hf := (if_pos h9).symm.trans hf
            cases hf
            cases hx
            exact K2_46 _ _ _ _ rfl hW (lv_sub hl [] rfl)
  refine lv_iconst (v := 0) C.1.1 C.1.2.1 dX7_hasSpare_0 (by decide) ?_
  refine lv_istore_n (lv' := [(2, .int _), (0, .ref _), (1, .int _)]) C.1.1 C.1.2.1 dX7_hasSpare_1 rfl hl (by decide) rfl (fun ls hl => ?_)
  obtain ⟨o8, ho, hf⟩ := bd hf
  obtain ⟨n, ho⟩ := lp_it ho
  refine L2 n _ _ _ _ _ o8 ho hW (lv_sub hl [1, 2, 0] rfl) ?_ ?_
  · intro  σ9 H locs ls e9 hW hl
    subst e9
    try dsimp only at hf
    refine lv_iconst (v := 1) C.1.1 C.1.2.1 dX7_hasSpare_46 (by decide) ?_
    exact ri hQ C hr hlk hW hf (rok_z (Or.inr rfl)) dX7_hasSpare_47
  · intro  σ10 H locs ls e9 hW hl
    subst e9
    try dsimp only at hf
    refine lv_iconst (v := 0) C.1.1 C.1.2.1 dX7_hasSpare_54 (by decide) ?_
    exact ri hQ C hr hlk hW hf (rok_z (Or.inl rfl)) dX7_hasSpare_55
theorem kvX7_looks : KV 7 "RightKeysModel" yX7_looks cX7_looks 4 none 2 := ⟨⟨w_1364, w_71, w_116, w_1365⟩, ⟨rfl, by decide, by decide, by decide +kernel⟩, by decide, rfl⟩
noncomputable def bX7_looks_2 (a0 : Nat) (p1 : Int32) (p2 : Int32) (x3 : Int32) (σ : Sg) : Option ((Int32 × Sg) ⊕ (Sg)) := if (9 : Int32) ≤ x3 then (some (Sum.inr σ)) else (if vin x3 9 then (let σ3 := wI σ (a0 + 28) ((x3).toNatClampNeg) (0 : Int32); (let x3_4 := x3 + (1 : Int32); some (Sum.inl (x3_4, σ3)))) else none)
noncomputable def fX7_looks (a0 : Nat) (p1 : Int32) (p2 : Int32) (σ : Sg) : Option (Sg) := (lp (fun st => bX7_looks_2 a0 p1 p2 st.1 st.2) ((0 : Int32), σ)).bind (fun σ6 => (let σ9 := wI σ6 (a0 + 28) 0 (irem (σ6.1 (a0 + 31) 84) (24 : Int32)); let σ12 := wI σ9 (a0 + 28) 1 ((σ9.1 (a0 + 31) 84) / (24 : Int32)); let σ14 := wI σ12 (a0 + 28) 3 p1; let σ16 := wI σ14 (a0 + 28) 5 p2; (fX7_soBits a0 (0 : Int32) σ16).bind (fun q22 => let r20 := q22.1; let σ19 := q22.2; (fX7_bits r20 σ19).bind (fun q27 => let r25 := q27.1; let σ24 := q27.2; (let σ28 := wI σ24 (a0 + 28) 6 r25; (fX7_soBits a0 (2 : Int32) σ28).bind (fun q34 => let r32 := q34.1; let σ31 := q34.2; (fX7_bits r32 σ31).bind (fun q39 => let r37 := q39.1; let σ36 := q39.2; (let σ40 := wI σ36 (a0 + 28) 7 r37; some σ40))))))))
set_option maxRecDepth 100000 in
set_option maxHeartbeats 4000000 in
theorem mX7_looks {l : Launch} {G : Gm} {a0 : Nat} {p1 : Int32} {p2 : Int32} {σ : Sg} {σ' : Sg} (hk_a0 : gK G a0 = 8) (hf : fX7_looks a0 p1 p2 σ = some σ') : Mv l G yX7_looks cX7_looks 4 1 23 [.ref (gB G + a0), .int p1, .int p2] σ σ' := by
  refine of_W "RightKeysModel" rfl (by decide) (Nat.le_of_ble_eq_true rfl) ?_
  intro p e s m args below meth c Q hQ C hr hlk hW ls hl
  have h00 := hW.1
  have hl : lv_has ls 4 [(0, .ref (gB G + a0)), (1, .int p1), (2, .int p2)] := hl
  delta fX7_looks at hf
  have L2 : ∀ (n : Nat) (x3 : Int32) (σ : Sg) (H : Heap) (locs : List Loc) (ls : Array Slot) (out : (Sg)), iter (fun st => bX7_looks_2 a0 p1 p2 st.1 st.2) n (x3, σ) = some out → Ws G σ s.heap H locs → lv_has ls 4 [(0, .ref (gB G + a0)), (1, .int p1), (2, .int p2), (3, .int x3)] → (∀ (σ : Sg) (H : Heap) (locs : List Loc) (ls : Array Slot), out = σ → Ws G σ s.heap H locs → lv_has ls 4 [(0, .ref (gB G + a0)), (1, .int p1), (2, .int p2)] → W p l e (rmOf 1 23) s m args below meth c H locs 0 0 Q (F0 m 21 ls [])) → W p l e (rmOf 1 23) s m args below meth c H locs 0 0 Q (F0 m 2 ls []) := by
    intro n
    induction n with
    | zero =>
      intro x3 σ H locs ls out hf
      exact (it_0 hf).elim
    | succ n ih =>
      intro x3 σ H locs ls out hf hW hl K2_21
      obtain ⟨x, hf, hx⟩ := it_s hf
      have hf : bX7_looks_2 a0 p1 p2 x3 σ = some x := hf
      delta bX7_looks_2 at hf
      refine lv_iload_n C.1.1 C.1.2.1 dX7_looks_2 rfl (lv_at hl 3 rfl) ?_
      refine lv_bipush (v := 9) C.1.1 C.1.2.1 dX7_looks_3 (by decide) ?_
      refine lv_icmp_ge (tgt := 21) C.1.1 C.1.2.1 dX7_looks_5 (by decide) (fun h9 => ?_) (fun h9 => ?_)
      · replace hf := (if_pos h9).symm.trans hf
        cases hf
        cases hx
        exact K2_21 _ _ _ _ rfl hW (lv_sub hl [0, 1, 2] rfl)
      · replace hf := (if_neg h9).symm.trans hf
        refine lv_aload_n C.1.1 C.1.2.1 dX7_looks_8 rfl (lv_at hl 0 rfl) ?_
        have hk1 := sh7_44 hW hk_a0
        refine gf7_44 C hW hk_a0 w_1074 dX7_looks_9 ?_
        refine lv_iload_n C.1.1 C.1.2.1 dX7_looks_12 rfl (lv_at hl 3 rfl) ?_
        refine lv_iconst (v := 0) C.1.1 C.1.2.1 dX7_looks_13 (by decide) ?_
        obtain ⟨hv2, hf⟩ := gd hf
        refine wsi C hW hk1 (vin_p hv2) dX7_looks_14 (fun H locs hW => ?_)
        refine lv_iinc (v := _) (lv' := [(3, .int _), (0, .ref _), (1, .int _), (2, .int _)]) C.1.1 C.1.2.1 dX7_looks_15 hl (k := 3) rfl (ii (k := 1) (by decide)) (by decide) rfl (fun ls hl => ?_)
        refine lv_goto (tgt := 2) C.1.1 C.1.2.1 dX7_looks_18 (by decide) ?_
        cases hf
        exact ih _ _ _ _ _ _ hx hW (lv_sub hl [1, 2, 3, 0] rfl) K2_21
  refine lv_iconst (v := 0) C.1.1 C.1.2.1 dX7_looks_0 (by decide) ?_
  refine lv_istore_n (lv' := [(3, .int _), (0, .ref _), (1, .int _), (2, .int _)]) C.1.1 C.1.2.1 dX7_looks_1 rfl hl (by decide) rfl (fun ls hl => ?_)
  obtain ⟨o5, ho, hf⟩ := bd hf
  obtain ⟨n, ho⟩ := lp_it ho
  refine L2 n _ _ _ _ _ o5 ho hW (lv_sub hl [1, 2, 3, 0] rfl) ?_
  intro  σ6 H locs ls e9 hW hl
  subst e9
  try dsimp only at hf
  refine lv_aload_n C.1.1 C.1.2.1 dX7_looks_21 rfl (lv_at hl 0 rfl) ?_
  have hk7 := sh7_44 hW hk_a0
  refine gf7_44 C hW hk_a0 w_1074 dX7_looks_22 ?_
  refine lv_iconst (v := 0) C.1.1 C.1.2.1 dX7_looks_25 (by decide) ?_
  refine lv_aload_n C.1.1 C.1.2.1 dX7_looks_26 rfl (lv_at hl 0 rfl) ?_
  have hk8 := sh7_48 hW hk_a0
  refine gf7_48 C hW hk_a0 w_1078 dX7_looks_27 ?_
  refine lv_bipush (v := 84) C.1.1 C.1.2.1 dX7_looks_30 (by decide) ?_
  refine wai C hW hk8 (vin_p ⟨by decide, by decide⟩) dX7_looks_32 ?_
  refine lv_bipush (v := 24) C.1.1 C.1.2.1 dX7_looks_33 (by decide) ?_
  refine lv_irem C.1.1 C.1.2.1 dX7_looks_35 (by decide) ?_
  refine wsi C hW hk7 (vin_p ⟨by decide, by decide⟩) dX7_looks_36 (fun H locs hW => ?_)
  refine lv_aload_n C.1.1 C.1.2.1 dX7_looks_37 rfl (lv_at hl 0 rfl) ?_
  have hk10 := sh7_44 hW hk_a0
  refine gf7_44 C hW hk_a0 w_1074 dX7_looks_38 ?_
  refine lv_iconst (v := 1) C.1.1 C.1.2.1 dX7_looks_41 (by decide) ?_
  refine lv_aload_n C.1.1 C.1.2.1 dX7_looks_42 rfl (lv_at hl 0 rfl) ?_
  have hk11 := sh7_48 hW hk_a0
  refine gf7_48 C hW hk_a0 w_1078 dX7_looks_43 ?_
  refine lv_bipush (v := 84) C.1.1 C.1.2.1 dX7_looks_46 (by decide) ?_
  refine wai C hW hk11 (vin_p ⟨by decide, by decide⟩) dX7_looks_48 ?_
  refine lv_bipush (v := 24) C.1.1 C.1.2.1 dX7_looks_49 (by decide) ?_
  refine lv_idiv C.1.1 C.1.2.1 dX7_looks_51 (by decide) ?_
  refine wsi C hW hk10 (vin_p ⟨by decide, by decide⟩) dX7_looks_52 (fun H locs hW => ?_)
  refine lv_aload_n C.1.1 C.1.2.1 dX7_looks_53 rfl (lv_at hl 0 rfl) ?_
  have hk13 := sh7_44 hW hk_a0
  refine gf7_44 C hW hk_a0 w_1074 dX7_looks_54 ?_
  refine lv_iconst (v := 3) C.1.1 C.1.2.1 dX7_looks_57 (by decide) ?_
  refine lv_iload_n C.1.1 C.1.2.1 dX7_looks_58 rfl (lv_at hl 1 rfl) ?_
  refine wsi C hW hk13 (vin_p ⟨by decide, by decide⟩) dX7_looks_59 (fun H locs hW => ?_)
  refine lv_aload_n C.1.1 C.1.2.1 dX7_looks_60 rfl (lv_at hl 0 rfl) ?_
  have hk15 := sh7_44 hW hk_a0
  refine gf7_44 C hW hk_a0 w_1074 dX7_looks_61 ?_
  refine lv_iconst (v := 5) C.1.1 C.1.2.1 dX7_looks_64 (by decide) ?_
  refine lv_iload_n C.1.1 C.1.2.1 dX7_looks_65 rfl (lv_at hl 2 rfl) ?_
  refine wsi C hW hk15 (vin_p ⟨by decide, by decide⟩) dX7_looks_66 (fun H locs hW => ?_)
  refine lv_aload_n C.1.1 C.1.2.1 dX7_looks_67 rfl (lv_at hl 0 rfl) ?_
  have hk17 := sh7_44 hW hk_a0
  refine gf7_44 C hW hk_a0 w_1074 dX7_looks_68 ?_
  refine lv_bipush (v := 6) C.1.1 C.1.2.1 dX7_looks_71 (by decide) ?_
  refine lv_aload_n C.1.1 C.1.2.1 dX7_looks_73 rfl (lv_at hl 0 rfl) ?_
  refine lv_iconst (v := 0) C.1.1 C.1.2.1 dX7_looks_74 (by decide) ?_
  obtain ⟨⟨r20, σ19⟩, hc18, hf⟩ := bd hf
  try dsimp only at hf
  refine cVi C hW (mX7_soBits hk_a0 hc18) hk_a0 kvX7_soBits w_1366 ⟨(Nat.le_of_ble_eq_true rfl), (Nat.le_of_ble_eq_true rfl)⟩ ⟨Nat.zero_le _, Nat.zero_le _⟩ rfl hl.1 (rest := [.int _, .ref _]) rfl (Nat.le_of_ble_eq_true rfl) dX7_looks_75 (fun H locs hn21 hW => ?_)
  obtain ⟨⟨r25, σ24⟩, hc23, hf⟩ := bd hf
  try dsimp only at hf
  refine cSi C hW (mX7_bits hc23) ksX7_bits w_1370 ⟨(Nat.le_of_ble_eq_true rfl), (Nat.le_of_ble_eq_true rfl)⟩ ⟨Nat.zero_le _, Nat.zero_le _⟩ rfl hl.1 (rest := [.int _, .ref _]) rfl (Nat.le_of_ble_eq_true rfl) dX7_looks_78 (fun H locs hn26 hW => ?_)
  refine wsi C hW hk17 (vin_p ⟨by decide, by decide⟩) dX7_looks_81 (fun H locs hW => ?_)
  refine lv_aload_n C.1.1 C.1.2.1 dX7_looks_82 rfl (lv_at hl 0 rfl) ?_
  have hk29 := sh7_44 hW hk_a0
  refine gf7_44 C hW hk_a0 w_1074 dX7_looks_83 ?_
  refine lv_bipush (v := 7) C.1.1 C.1.2.1 dX7_looks_86 (by decide) ?_
  refine lv_aload_n C.1.1 C.1.2.1 dX7_looks_88 rfl (lv_at hl 0 rfl) ?_
  refine lv_iconst (v := 2) C.1.1 C.1.2.1 dX7_looks_89 (by decide) ?_
  obtain ⟨⟨r32, σ31⟩, hc30, hf⟩ := bd hf
  try dsimp only at hf
  refine cVi C hW (mX7_soBits hk_a0 hc30) hk_a0 kvX7_soBits w_1366 ⟨(Nat.le_of_ble_eq_true rfl), (Nat.le_of_ble_eq_true rfl)⟩ ⟨Nat.zero_le _, Nat.zero_le _⟩ rfl hl.1 (rest := [.int _, .ref _]) rfl (Nat.le_of_ble_eq_true rfl) dX7_looks_90 (fun H locs hn33 hW => ?_)
  obtain ⟨⟨r37, σ36⟩, hc35, hf⟩ := bd hf
  try dsimp only at hf
  refine cSi C hW (mX7_bits hc35) ksX7_bits w_1370 ⟨(Nat.le_of_ble_eq_true rfl), (Nat.le_of_ble_eq_true rfl)⟩ ⟨Nat.zero_le _, Nat.zero_le _⟩ rfl hl.1 (rest := [.int _, .ref _]) rfl (Nat.le_of_ble_eq_true rfl) dX7_looks_93 (fun H locs hn38 hW => ?_)
  refine wsi C hW hk29 (vin_p ⟨by decide, by decide⟩) dX7_looks_96 (fun H locs hW => ?_)
  exact rv hQ C hr hlk hW hf dX7_looks_97
theorem kvX7_lawTells : KV 7 "RightKeysModel" yX7_lawTells cX7_lawTells 7 (some .int) 2 := ⟨⟨w_1379, w_74, w_116, w_1380⟩, ⟨rfl, by decide, by decide, by decide +kernel⟩, by decide, rfl⟩
noncomputable def bX7_lawTells_39 (a0 : Nat) (p1 : Int32) (p2 : Int32) (x3 : Int32) (x4 : Int32) (σ : Sg) : Option ((Int32 × Sg) ⊕ ((Sg) ⊕ ((Int32 × Sg) ⊕ (Sg)))) := if vin x3 8 then (if (σ.1 (a0 + 19) ((x3).toNatClampNeg)) ≤ x4 then (some (Sum.inr (Sum.inr (Sum.inr σ)))) else (if vin x4 260 then (if (σ.1 (a0 + 20) ((x4).toNatClampNeg)) = 0 then (some (Sum.inr (Sum.inr (Sum.inl (x4, σ))))) else ((fX7_termOf a0 (σ.1 (a0 + 21) ((x4).toNatClampNeg)) (σ.1 (a0 + 22) ((x4).toNatClampNeg)) σ).bind (fun q18 => let r16 := q18.1; let σ15 := q18.2; (fX7_termOf a0 (σ15.1 (a0 + 22) ((x4).toNatClampNeg)) (σ15.1 (a0 + 23) ((x4).toNatClampNeg)) σ15).bind (fun q25 => let r23 := q25.1; let σ22 := q25.2; if (σ22.1 a0 46) = 0 then (if r16 < r23 then (some (Sum.inr (Sum.inr (Sum.inl (x4, σ22))))) else ((let x4_26 := x4 + (1 : Int32); some (Sum.inl (x4_26, σ22))))) else (some (Sum.inr (Sum.inl σ22))))))) else none)) else none
noncomputable def fX7_lawTells (a0 : Nat) (p1 : Int32) (p2 : Int32) (σ : Sg) : Option (Int32 × Sg) := (let x3_1 := (((4 : Int32) * (σ.1 a0 18)) + p1); if vin x3_1 8 then (if (σ.1 (a0 + 18) ((x3_1).toNatClampNeg)) = (σ.1 (a0 + 19) ((x3_1).toNatClampNeg)) then (some (p2, σ)) else ((let σ5 := wI σ a0 46 (0 : Int32); let x4_7 := (σ5.1 (a0 + 18) ((x3_1).toNatClampNeg)); (lp (fun st => bX7_lawTells_39 a0 p1 p2 x3_1 st.1 st.2) (x4_7, σ5)).bind (fun o27 => Sum.elim (fun σ28 => some ((0 : Int32), σ28)) (fun o27_ => Sum.elim (fun q39 => let y30 := q39.1; let σ29 := q39.2;  if vin y30 260 then ((fX7_termOf a0 (σ29.1 (a0 + 23) ((y30).toNatClampNeg)) (σ29.1 (a0 + 24) ((y30).toNatClampNeg)) σ29).bind (fun q38 => let r36 := q38.1; let σ35 := q38.2; if (σ35.1 a0 46) = 0 then (some (r36, σ35)) else (some ((0 : Int32), σ35)))) else none) (fun o27__ => (fun σ40 => some ((0 : Int32), σ40)) o27__) o27_) o27)))) else none)
set_option maxRecDepth 100000 in
set_option maxHeartbeats 4000000 in
theorem mX7_lawTells {l : Launch} {G : Gm} {a0 : Nat} {p1 : Int32} {p2 : Int32} {σ : Sg} {r : Int32} {σ' : Sg} (hk_a0 : gK G a0 = 8) (hf : fX7_lawTells a0 p1 p2 σ = some (r, σ')) : Mi l G yX7_lawTells cX7_lawTells 7 .int 1 27 [.ref (gB G + a0), .int p1, .int p2] σ r σ' := by
  refine of_W "RightKeysModel" rfl (by decide) (Nat.le_of_ble_eq_true rfl) ?_
  intro p e s m args below meth c Q hQ C hr hlk hW ls hl
  have h00 := hW.1
  have hl : lv_has ls 7 [(0, .ref (gB G + a0)), (1, .int p1), (2, .int p2)] := hl
  delta fX7_lawTells at hf
  have L39 : ∀ (x3 : Int32) (n : Nat) (x4 : Int32) (σ : Sg) (H : Heap) (locs : List Loc) (ls : Array Slot) (out : ((Sg) ⊕ ((Int32 × Sg) ⊕ (Sg)))), iter (fun st => bX7_lawTells_39 a0 p1 p2 x3 st.1 st.2) n (x4, σ) = some out → Ws G σ s.heap H locs → lv_has ls 7 [(0, .ref (gB G + a0)), (3, .int x3), (4, .int x4)] → (∀ (σ : Sg) (H : Heap) (locs : List Loc) (ls : Array Slot), out = (Sum.inl σ) → Ws G σ s.heap H locs → lv_has ls 7 [] → W p l e (rmOf 1 27) s m args below meth c H locs 0 0 Q (F0 m 107 ls [])) → (∀ (y4 : Int32) (σ : Sg) (H : Heap) (locs : List Loc) (ls : Array Slot), out = (Sum.inr (Sum.inl (y4, σ))) → Ws G σ s.heap H locs → lv_has ls 7 [(0, .ref (gB G + a0)), (4, .int y4)] → W p l e (rmOf 1 27) s m args below meth c H locs 0 0 Q (F0 m 119 ls [])) → (∀ (σ : Sg) (H : Heap) (locs : List Loc) (ls : Array Slot), out = (Sum.inr (Sum.inr σ)) → Ws G σ s.heap H locs → lv_has ls 7 [] → W p l e (rmOf 1 27) s m args below meth c H locs 0 0 Q (F0 m 159 ls [])) → W p l e (rmOf 1 27) s m args below meth c H locs 0 0 Q (F0 m 39 ls []) := by
    intro x3 n
    induction n with
    | zero =>
      intro x4 σ H locs ls out hf
      exact (it_0 hf).elim
    | succ n ih =>
      intro x4 σ H locs ls out hf hW hl K39_107 K39_119 K39_159
      obtain ⟨x, hf, hx⟩ := it_s hf
      have hf : bX7_lawTells_39 a0 p1 p2 x3 x4 σ = some x := hf
      delta bX7_lawTells_39 at hf
      refine lv_iload C.1.1 C.1.2.1 dX7_lawTells_39 (lv_at hl 2 rfl) ?_
      refine lv_aload_n C.1.1 C.1.2.1 dX7_lawTells_41 rfl (lv_at hl 0 rfl) ?_
      have hk8 := sh7_32 hW hk_a0
      refine gf7_32 C hW hk_a0 w_1062 dX7_lawTells_42 ?_
      refine lv_iload_n C.1.1 C.1.2.1 dX7_lawTells_45 rfl (lv_at hl 1 rfl) ?_
      obtain ⟨hv9, hf⟩ := gd hf
      refine wai C hW hk8 (vin_p hv9) dX7_lawTells_46 ?_
      refine lv_icmp_ge (tgt := 159) C.1.1 C.1.2.1 dX7_lawTells_47 (by decide) (fun h9 => ?_) (fun h9 => ?_)
      · replace hf := (if_pos h9).symm.trans hf
        cases hf
        cases hx
        exact K39_159 _ _ _ _ rfl hW (lv_sub hl [] rfl)
      · replace hf := (if_neg h9).symm.trans hf
        refine lv_aload_n C.1.1 C.1.2.1 dX7_lawTells_50 rfl (lv_at hl 0 rfl) ?_
        have hk10 := sh7_34 hW hk_a0
        refine gf7_34 C hW hk_a0 w_1064 dX7_lawTells_51 ?_
        refine lv_iload C.1.1 C.1.2.1 dX7_lawTells_54 (lv_at hl 2 rfl) ?_
        obtain ⟨hv11, hf⟩ := gd hf
        refine waz C hW hk10 (vin_p hv11) dX7_lawTells_56 ?_
        refine lv_if_eq (tgt := 119) C.1.1 C.1.2.1 dX7_lawTells_57 (by decide) (fun h9 => ?_) (fun h9 => ?_)
        · replace hf := (if_pos h9).symm.trans hf
          cases hf
          cases hx
          exact K39_119 _ _ _ _ _ rfl hW (lv_sub hl [0, 2] rfl)
        · replace hf := (if_neg h9).symm.trans hf
          refine lv_aload_n C.1.1 C.1.2.1 dX7_lawTells_60 rfl (lv_at hl 0 rfl) ?_
          refine lv_aload_n C.1.1 C.1.2.1 dX7_lawTells_61 rfl (lv_at hl 0 rfl) ?_
          have hk12 := sh7_35 hW hk_a0
          refine gf7_35 C hW hk_a0 w_1065 dX7_lawTells_62 ?_
          refine lv_iload C.1.1 C.1.2.1 dX7_lawTells_65 (lv_at hl 2 rfl) ?_
          refine wai C hW hk12 (vin_p hv11) dX7_lawTells_67 ?_
          refine lv_aload_n C.1.1 C.1.2.1 dX7_lawTells_68 rfl (lv_at hl 0 rfl) ?_
          have hk13 := sh7_36 hW hk_a0
          refine gf7_36 C hW hk_a0 w_1066 dX7_lawTells_69 ?_
          refine lv_iload C.1.1 C.1.2.1 dX7_lawTells_72 (lv_at hl 2 rfl) ?_
          refine wai C hW hk13 (vin_p hv11) dX7_lawTells_74 ?_
          obtain ⟨⟨r16, σ15⟩, hc14, hf⟩ := bd hf
          try dsimp only at hf
          refine cVi C hW (mX7_termOf hk_a0 hc14) hk_a0 kvX7_termOf w_1381 ⟨(Nat.le_of_ble_eq_true rfl), (Nat.le_of_ble_eq_true rfl)⟩ ⟨Nat.zero_le _, Nat.zero_le _⟩ rfl hl.1 (rest := []) rfl (Nat.le_of_ble_eq_true rfl) dX7_lawTells_75 (fun H locs hn17 hW => ?_)
          refine lv_istore (lv' := [(5, .int _), (0, .ref _), (3, .int _), (4, .int _)]) C.1.1 C.1.2.1 dX7_lawTells_78 hl (by decide) rfl (fun ls hl => ?_)
          refine lv_aload_n C.1.1 C.1.2.1 dX7_lawTells_80 rfl (lv_at hl 1 rfl) ?_
          refine lv_aload_n C.1.1 C.1.2.1 dX7_lawTells_81 rfl (lv_at hl 1 rfl) ?_
          have hk19 := sh7_36 hW hk_a0
          refine gf7_36 C hW hk_a0 w_1066 dX7_lawTells_82 ?_
          refine lv_iload C.1.1 C.1.2.1 dX7_lawTells_85 (lv_at hl 3 rfl) ?_
          refine wai C hW hk19 (vin_p hv11) dX7_lawTells_87 ?_
          refine lv_aload_n C.1.1 C.1.2.1 dX7_lawTells_88 rfl (lv_at hl 1 rfl) ?_
          have hk20 := sh7_37 hW hk_a0
          refine gf7_37 C hW hk_a0 w_1067 dX7_lawTells_89 ?_
          refine lv_iload C.1.1 C.1.2.1 dX7_lawTells_92 (lv_at hl 3 rfl) ?_
          refine wai C hW hk20 (vin_p hv11) dX7_lawTells_94 ?_
          obtain ⟨⟨r23, σ22⟩, hc21, hf⟩ := bd hf
          try dsimp only at hf
          refine cVi C hW (mX7_termOf hk_a0 hc21) hk_a0 kvX7_termOf w_1381 ⟨(Nat.le_of_ble_eq_true rfl), (Nat.le_of_ble_eq_true rfl)⟩ ⟨Nat.zero_le _, Nat.zero_le _⟩ rfl hl.1 (rest := []) rfl (Nat.le_of_ble_eq_true rfl) dX7_lawTells_95 (fun H locs hn24 hW => ?_)
          refine lv_istore (lv' := [(6, .int _), (5, .int _), (0, .ref _), (3, .int _), (4, .int _)]) C.1.1 C.1.2.1 dX7_lawTells_98 hl (by decide) rfl (fun ls hl => ?_)
          refine lv_aload_n C.1.1 C.1.2.1 dX7_lawTells_100 rfl (lv_at hl 2 rfl) ?_
          refine gf7_46 C hW hk_a0 w_1076 dX7_lawTells_101 ?_
          refine lv_if_eq (tgt := 109) C.1.1 C.1.2.1 dX7_lawTells_104 (by decide) (fun h9 => ?_) (fun h9 => ?_)
          · replace hf := (if_pos h9).symm.trans hf
            refine lv_iload C.1.1 C.1.2.1 dX7_lawTells_109 (lv_at hl 1 rfl) ?_
            refine lv_iload C.1.1 C.1.2.1 dX7_lawTells_111 (lv_at hl 0 rfl) ?_
            refine lv_icmp_lt (tgt := 119) C.1.1 C.1.2.1 dX7_lawTells_113 (by decide) (fun h9 => ?_) (fun h9 => ?_)
            · replace hf := (if_pos h9).symm.trans hf
              cases hf
              cases hx
              exact K39_119 _ _ _ _ _ rfl hW (lv_sub hl [2, 4] rfl)
            · replace hf := (if_neg h9).symm.trans hf
              refine lv_goto (tgt := 153) C.1.1 C.1.2.1 dX7_lawTells_116 (by decide) ?_
              refine lv_iinc (v := _) (lv' := [(4, .int _), (6, .int _), (5, .int _), (0, .ref _), (3, .int _)]) C.1.1 C.1.2.1 dX7_lawTells_153 hl (k := 4) rfl (ii (k := 1) (by decide)) (by decide) rfl (fun ls hl => ?_)
              refine lv_goto (tgt := 39) C.1.1 C.1.2.1 dX7_lawTells_156 (by decide) ?_
              cases hf
              exact ih _ _ _ _ _ _ hx hW (lv_sub hl [3, 4, 0] rfl) K39_107 K39_119 K39_159
          · replace hf := (if_neg h9).symm.trans hf
            cases hf
            cases hx
            exact K39_107 _ _ _ _ rfl hW (lv_sub hl [] rfl)
  refine lv_iconst (v := 4) C.1.1 C.1.2.1 dX7_lawTells_0 (by decide) ?_
  refine lv_aload_n C.1.1 C.1.2.1 dX7_lawTells_1 rfl (lv_at hl 0 rfl) ?_
  refine gf7_18 C hW hk_a0 w_1048 dX7_lawTells_2 ?_
  refine lv_imul C.1.1 C.1.2.1 dX7_lawTells_5 ?_
  refine lv_iload_n C.1.1 C.1.2.1 dX7_lawTells_6 rfl (lv_at hl 1 rfl) ?_
  refine lv_iadd C.1.1 C.1.2.1 dX7_lawTells_7 ?_
  refine lv_istore_n (lv' := [(3, .int _), (0, .ref _), (1, .int _), (2, .int _)]) C.1.1 C.1.2.1 dX7_lawTells_8 rfl hl (by decide) rfl (fun ls hl => ?_)
  refine lv_aload_n C.1.1 C.1.2.1 dX7_lawTells_9 rfl (lv_at hl 1 rfl) ?_
  have hk2 := sh7_31 hW hk_a0
  refine gf7_31 C hW hk_a0 w_1061 dX7_lawTells_10 ?_
  refine lv_iload_n C.1.1 C.1.2.1 dX7_lawTells_13 rfl (lv_at hl 0 rfl) ?_
  obtain ⟨hv3, hf⟩ := gd hf
  refine wai C hW hk2 (vin_p hv3) dX7_lawTells_14 ?_
  refine lv_aload_n C.1.1 C.1.2.1 dX7_lawTells_15 rfl (lv_at hl 1 rfl) ?_
  have hk4 := sh7_32 hW hk_a0
  refine gf7_32 C hW hk_a0 w_1062 dX7_lawTells_16 ?_
  refine lv_iload_n C.1.1 C.1.2.1 dX7_lawTells_19 rfl (lv_at hl 0 rfl) ?_
  refine wai C hW hk4 (vin_p hv3) dX7_lawTells_20 ?_
  refine lv_icmp_ne (tgt := 26) C.1.1 C.1.2.1 dX7_lawTells_21 (by decide) (fun h9 => ?_) (fun h9 => ?_)
  · replace hf := (if_neg h9).symm.trans hf
    refine lv_aload_n C.1.1 C.1.2.1 dX7_lawTells_26 rfl (lv_at hl 1 rfl) ?_
    refine lv_iconst (v := 0) C.1.1 C.1.2.1 dX7_lawTells_27 (by decide) ?_
    refine pf7_46 C hW hk_a0 w_1076 (Or.inl rfl) dX7_lawTells_28 (fun H locs hW => ?_)
    refine lv_aload_n C.1.1 C.1.2.1 dX7_lawTells_31 rfl (lv_at hl 1 rfl) ?_
    have hk6 := sh7_31 hW hk_a0
    refine gf7_31 C hW hk_a0 w_1061 dX7_lawTells_32 ?_
    refine lv_iload_n C.1.1 C.1.2.1 dX7_lawTells_35 rfl (lv_at hl 0 rfl) ?_
    refine wai C hW hk6 (vin_p hv3) dX7_lawTells_36 ?_
    refine lv_istore (lv' := [(4, .int _), (3, .int _), (0, .ref _), (1, .int _), (2, .int _)]) C.1.1 C.1.2.1 dX7_lawTells_37 hl (by decide) rfl (fun ls hl => ?_)
    obtain ⟨o27, ho, hf⟩ := bd hf
    obtain ⟨n, ho⟩ := lp_it ho
    refine L39 _ n _ _ _ _ _ o27 ho hW (lv_sub hl [2, 1, 0] rfl) ?_ ?_ ?_
    · intro  σ28 H locs ls e9 hW hl
      subst e9
      try dsimp only at hf
      refine lv_iconst (v := 0) C.1.1 C.1.2.1 dX7_lawTells_107 (by decide) ?_
      exact ri hQ C hr hlk hW hf (rok_i _) dX7_lawTells_108
    · intro y30 σ29 H locs ls e9 hW hl
      subst e9
      try dsimp only at hf
      refine lv_aload_n C.1.1 C.1.2.1 dX7_lawTells_119 rfl (lv_at hl 0 rfl) ?_
      refine lv_aload_n C.1.1 C.1.2.1 dX7_lawTells_120 rfl (lv_at hl 0 rfl) ?_
      have hk31 := sh7_37 hW hk_a0
      refine gf7_37 C hW hk_a0 w_1067 dX7_lawTells_121 ?_
      refine lv_iload C.1.1 C.1.2.1 dX7_lawTells_124 (lv_at hl 1 rfl) ?_
      obtain ⟨hv32, hf⟩ := gd hf
      refine wai C hW hk31 (vin_p hv32) dX7_lawTells_126 ?_
      refine lv_aload_n C.1.1 C.1.2.1 dX7_lawTells_127 rfl (lv_at hl 0 rfl) ?_
      have hk33 := sh7_38 hW hk_a0
      refine gf7_38 C hW hk_a0 w_1068 dX7_lawTells_128 ?_
      refine lv_iload C.1.1 C.1.2.1 dX7_lawTells_131 (lv_at hl 1 rfl) ?_
      refine wai C hW hk33 (vin_p hv32) dX7_lawTells_133 ?_
      obtain ⟨⟨r36, σ35⟩, hc34, hf⟩ := bd hf
      try dsimp only at hf
      refine cVi C hW (mX7_termOf hk_a0 hc34) hk_a0 kvX7_termOf w_1381 ⟨(Nat.le_of_ble_eq_true rfl), (Nat.le_of_ble_eq_true rfl)⟩ ⟨Nat.zero_le _, Nat.zero_le _⟩ rfl hl.1 (rest := []) rfl (Nat.le_of_ble_eq_true rfl) dX7_lawTells_134 (fun H locs hn37 hW => ?_)
      refine lv_istore (lv' := [(5, .int _), (0, .ref _), (4, .int _)]) C.1.1 C.1.2.1 dX7_lawTells_137 hl (by decide) rfl (fun ls hl => ?_)
      refine lv_aload_n C.1.1 C.1.2.1 dX7_lawTells_139 rfl (lv_at hl 1 rfl) ?_
      refine gf7_46 C hW hk_a0 w_1076 dX7_lawTells_140 ?_
      refine lv_if_eq (tgt := 150) C.1.1 C.1.2.1 dX7_lawTells_143 (by decide) (fun h9 => ?_) (fun h9 => ?_)
      · replace hf := (if_pos h9).symm.trans hf
        refine lv_iload C.1.1 C.1.2.1 dX7_lawTells_150 (lv_at hl 0 rfl) ?_
        exact ri hQ C hr hlk hW hf (rok_i _) dX7_lawTells_152
      · replace hf := (if_neg h9).symm.trans hf
        refine lv_iconst (v := 0) C.1.1 C.1.2.1 dX7_lawTells_146 (by decide) ?_
        refine lv_goto (tgt := 152) C.1.1 C.1.2.1 dX7_lawTells_147 (by decide) ?_
        exact ri hQ C hr hlk hW hf (rok_i _) dX7_lawTells_152
    · intro  σ40 H locs ls e9 hW hl
      subst e9
      try dsimp only at hf
      refine lv_iconst (v := 0) C.1.1 C.1.2.1 dX7_lawTells_159 (by decide) ?_
      exact ri hQ C hr hlk hW hf (rok_i _) dX7_lawTells_160
  · replace hf := (if_pos h9).symm.trans hf
    refine lv_iload_n C.1.1 C.1.2.1 dX7_lawTells_24 rfl (lv_at hl 3 rfl) ?_
    exact ri hQ C hr hlk hW hf (rok_i _) dX7_lawTells_25
theorem kvX7_doesLet : KV 7 "RightKeysModel" yX7_doesLet cX7_doesLet 3 (some .boolean) 2 := ⟨⟨w_1402, w_77, w_116, w_1403⟩, ⟨rfl, by decide, by decide, by decide +kernel⟩, by decide, rfl⟩
noncomputable def fX7_doesLet (a0 : Nat) (p1 : Int32) (p2 : Int32) (σ : Sg) : Option (Int32 × Sg) := if vin ((16 : Int32) + p1) 88 then ((fX7_looks a0 (σ.1 (a0 + 31) ((((16 : Int32) + p1)).toNatClampNeg)) p2 σ).bind (fun σ4 => if vin ((48 : Int32) + p2) 88 then ((let σ11 := wI σ4 (a0 + 28) 2 (σ4.1 (a0 + 31) ((((48 : Int32) + p2)).toNatClampNeg)); if vin ((16 : Int32) + p2) 88 then ((let σ15 := wI σ11 (a0 + 28) 4 (σ11.1 (a0 + 31) ((((16 : Int32) + p2)).toNatClampNeg)); (fX7_lawTells a0 (0 : Int32) (1 : Int32) σ15).bind (fun q20 => let r18 := q20.1; let σ17 := q20.2; if r18 ≤ 0 then (some ((0 : Int32), σ17)) else (some ((1 : Int32), σ17))))) else none)) else none)) else none
set_option maxRecDepth 100000 in
set_option maxHeartbeats 4000000 in
theorem mX7_doesLet {l : Launch} {G : Gm} {a0 : Nat} {p1 : Int32} {p2 : Int32} {σ : Sg} {r : Int32} {σ' : Sg} (hk_a0 : gK G a0 = 8) (hf : fX7_doesLet a0 p1 p2 σ = some (r, σ')) : Mi l G yX7_doesLet cX7_doesLet 3 .boolean 2 53 [.ref (gB G + a0), .int p1, .int p2] σ r σ' := by
  refine of_W "RightKeysModel" rfl (by decide) (Nat.le_of_ble_eq_true rfl) ?_
  intro p e s m args below meth c Q hQ C hr hlk hW ls hl
  have h00 := hW.1
  have hl : lv_has ls 3 [(0, .ref (gB G + a0)), (1, .int p1), (2, .int p2)] := hl
  delta fX7_doesLet at hf
  refine lv_aload_n C.1.1 C.1.2.1 dX7_doesLet_0 rfl (lv_at hl 0 rfl) ?_
  refine lv_aload_n C.1.1 C.1.2.1 dX7_doesLet_1 rfl (lv_at hl 0 rfl) ?_
  have hk1 := sh7_48 hW hk_a0
  refine gf7_48 C hW hk_a0 w_1078 dX7_doesLet_2 ?_
  refine lv_bipush (v := 16) C.1.1 C.1.2.1 dX7_doesLet_5 (by decide) ?_
  refine lv_iload_n C.1.1 C.1.2.1 dX7_doesLet_7 rfl (lv_at hl 1 rfl) ?_
  refine lv_iadd C.1.1 C.1.2.1 dX7_doesLet_8 ?_
  obtain ⟨hv2, hf⟩ := gd hf
  refine wai C hW hk1 (vin_p hv2) dX7_doesLet_9 ?_
  refine lv_iload_n C.1.1 C.1.2.1 dX7_doesLet_10 rfl (lv_at hl 2 rfl) ?_
  obtain ⟨σ4, hc3, hf⟩ := bd hf
  try dsimp only at hf
  refine cVv C hW (mX7_looks hk_a0 hc3) hk_a0 kvX7_looks w_1362 ⟨(Nat.le_of_ble_eq_true rfl), (Nat.le_of_ble_eq_true rfl)⟩ ⟨Nat.zero_le _, Nat.zero_le _⟩ rfl hl.1 (rest := []) rfl (Nat.le_of_ble_eq_true rfl) dX7_doesLet_11 (fun H locs hW => ?_)
  refine lv_aload_n C.1.1 C.1.2.1 dX7_doesLet_14 rfl (lv_at hl 0 rfl) ?_
  have hk8 := sh7_44 hW hk_a0
  refine gf7_44 C hW hk_a0 w_1074 dX7_doesLet_15 ?_
  refine lv_iconst (v := 2) C.1.1 C.1.2.1 dX7_doesLet_18 (by decide) ?_
  refine lv_aload_n C.1.1 C.1.2.1 dX7_doesLet_19 rfl (lv_at hl 0 rfl) ?_
  have hk9 := sh7_48 hW hk_a0
  refine gf7_48 C hW hk_a0 w_1078 dX7_doesLet_20 ?_
  refine lv_bipush (v := 48) C.1.1 C.1.2.1 dX7_doesLet_23 (by decide) ?_
  refine lv_iload_n C.1.1 C.1.2.1 dX7_doesLet_25 rfl (lv_at hl 2 rfl) ?_
  refine lv_iadd C.1.1 C.1.2.1 dX7_doesLet_26 ?_
  obtain ⟨hv10, hf⟩ := gd hf
  refine wai C hW hk9 (vin_p hv10) dX7_doesLet_27 ?_
  refine wsi C hW hk8 (vin_p ⟨by decide, by decide⟩) dX7_doesLet_28 (fun H locs hW => ?_)
  refine lv_aload_n C.1.1 C.1.2.1 dX7_doesLet_29 rfl (lv_at hl 0 rfl) ?_
  have hk12 := sh7_44 hW hk_a0
  refine gf7_44 C hW hk_a0 w_1074 dX7_doesLet_30 ?_
  refine lv_iconst (v := 4) C.1.1 C.1.2.1 dX7_doesLet_33 (by decide) ?_
  refine lv_aload_n C.1.1 C.1.2.1 dX7_doesLet_34 rfl (lv_at hl 0 rfl) ?_
  have hk13 := sh7_48 hW hk_a0
  refine gf7_48 C hW hk_a0 w_1078 dX7_doesLet_35 ?_
  refine lv_bipush (v := 16) C.1.1 C.1.2.1 dX7_doesLet_38 (by decide) ?_
  refine lv_iload_n C.1.1 C.1.2.1 dX7_doesLet_40 rfl (lv_at hl 2 rfl) ?_
  refine lv_iadd C.1.1 C.1.2.1 dX7_doesLet_41 ?_
  obtain ⟨hv14, hf⟩ := gd hf
  refine wai C hW hk13 (vin_p hv14) dX7_doesLet_42 ?_
  refine wsi C hW hk12 (vin_p ⟨by decide, by decide⟩) dX7_doesLet_43 (fun H locs hW => ?_)
  refine lv_aload_n C.1.1 C.1.2.1 dX7_doesLet_44 rfl (lv_at hl 0 rfl) ?_
  refine lv_iconst (v := 0) C.1.1 C.1.2.1 dX7_doesLet_45 (by decide) ?_
  refine lv_iconst (v := 1) C.1.1 C.1.2.1 dX7_doesLet_46 (by decide) ?_
  obtain ⟨⟨r18, σ17⟩, hc16, hf⟩ := bd hf
  try dsimp only at hf
  refine cVi C hW (mX7_lawTells hk_a0 hc16) hk_a0 kvX7_lawTells w_1377 ⟨(Nat.le_of_ble_eq_true rfl), (Nat.le_of_ble_eq_true rfl)⟩ ⟨Nat.zero_le _, Nat.zero_le _⟩ rfl hl.1 (rest := []) rfl (Nat.le_of_ble_eq_true rfl) dX7_doesLet_47 (fun H locs hn19 hW => ?_)
  refine lv_if_le (tgt := 57) C.1.1 C.1.2.1 dX7_doesLet_50 (by decide) (fun h9 => ?_) (fun h9 => ?_)
  · replace hf := (if_pos h9).symm.trans hf
    refine lv_iconst (v := 0) C.1.1 C.1.2.1 dX7_doesLet_57 (by decide) ?_
    exact ri hQ C hr hlk hW hf (rok_z (Or.inl rfl)) dX7_doesLet_58
  · replace hf := (if_neg h9).symm.trans hf
    refine lv_iconst (v := 1) C.1.1 C.1.2.1 dX7_doesLet_53 (by decide) ?_
    refine lv_goto (tgt := 58) C.1.1 C.1.2.1 dX7_doesLet_54 (by decide) ?_
    exact ri hQ C hr hlk hW hf (rok_z (Or.inr rfl)) dX7_doesLet_58
theorem kvX7_quarrelOf : KV 7 "RightKeysModel" yX7_quarrelOf cX7_quarrelOf 2 (some .int) 1 := ⟨⟨w_1513, w_99, w_116, w_1514⟩, ⟨rfl, by decide, by decide, by decide +kernel⟩, by decide, rfl⟩
noncomputable def fX7_quarrelOf (a0 : Nat) (p1 : Int32) (σ : Sg) : Option (Int32 × Sg) := if vin ((16 : Int32) + p1) 88 then ((fX7_looks a0 (σ.1 (a0 + 31) ((((16 : Int32) + p1)).toNatClampNeg)) p1 σ).bind (fun σ4 => if vin ((48 : Int32) + p1) 88 then ((let σ11 := wI σ4 (a0 + 28) 2 (σ4.1 (a0 + 31) ((((48 : Int32) + p1)).toNatClampNeg)); (fX7_lawTells a0 (1 : Int32) (σ11.1 (a0 + 28) 2) σ11).bind (fun q17 => let r15 := q17.1; let σ14 := q17.2; (fX7_within r15 (0 : Int32) (99 : Int32) σ14).bind (fun q22 => let r20 := q22.1; let σ19 := q22.2; some (r20, σ19))))) else none)) else none
set_option maxRecDepth 100000 in
set_option maxHeartbeats 4000000 in
theorem mX7_quarrelOf {l : Launch} {G : Gm} {a0 : Nat} {p1 : Int32} {σ : Sg} {r : Int32} {σ' : Sg} (hk_a0 : gK G a0 = 8) (hf : fX7_quarrelOf a0 p1 σ = some (r, σ')) : Mi l G yX7_quarrelOf cX7_quarrelOf 2 .int 2 53 [.ref (gB G + a0), .int p1] σ r σ' := by
  refine of_W "RightKeysModel" rfl (by decide) (Nat.le_of_ble_eq_true rfl) ?_
  intro p e s m args below meth c Q hQ C hr hlk hW ls hl
  have h00 := hW.1
  have hl : lv_has ls 2 [(0, .ref (gB G + a0)), (1, .int p1)] := hl
  delta fX7_quarrelOf at hf
  refine lv_aload_n C.1.1 C.1.2.1 dX7_quarrelOf_0 rfl (lv_at hl 0 rfl) ?_
  refine lv_aload_n C.1.1 C.1.2.1 dX7_quarrelOf_1 rfl (lv_at hl 0 rfl) ?_
  have hk1 := sh7_48 hW hk_a0
  refine gf7_48 C hW hk_a0 w_1078 dX7_quarrelOf_2 ?_
  refine lv_bipush (v := 16) C.1.1 C.1.2.1 dX7_quarrelOf_5 (by decide) ?_
  refine lv_iload_n C.1.1 C.1.2.1 dX7_quarrelOf_7 rfl (lv_at hl 1 rfl) ?_
  refine lv_iadd C.1.1 C.1.2.1 dX7_quarrelOf_8 ?_
  obtain ⟨hv2, hf⟩ := gd hf
  refine wai C hW hk1 (vin_p hv2) dX7_quarrelOf_9 ?_
  refine lv_iload_n C.1.1 C.1.2.1 dX7_quarrelOf_10 rfl (lv_at hl 1 rfl) ?_
  obtain ⟨σ4, hc3, hf⟩ := bd hf
  try dsimp only at hf
  refine cVv C hW (mX7_looks hk_a0 hc3) hk_a0 kvX7_looks w_1362 ⟨(Nat.le_of_ble_eq_true rfl), (Nat.le_of_ble_eq_true rfl)⟩ ⟨Nat.zero_le _, Nat.zero_le _⟩ rfl hl.1 (rest := []) rfl (Nat.le_of_ble_eq_true rfl) dX7_quarrelOf_11 (fun H locs hW => ?_)
  refine lv_aload_n C.1.1 C.1.2.1 dX7_quarrelOf_14 rfl (lv_at hl 0 rfl) ?_
  have hk8 := sh7_44 hW hk_a0
  refine gf7_44 C hW hk_a0 w_1074 dX7_quarrelOf_15 ?_
  refine lv_iconst (v := 2) C.1.1 C.1.2.1 dX7_quarrelOf_18 (by decide) ?_
  refine lv_aload_n C.1.1 C.1.2.1 dX7_quarrelOf_19 rfl (lv_at hl 0 rfl) ?_
  have hk9 := sh7_48 hW hk_a0
  refine gf7_48 C hW hk_a0 w_1078 dX7_quarrelOf_20 ?_
  refine lv_bipush (v := 48) C.1.1 C.1.2.1 dX7_quarrelOf_23 (by decide) ?_
  refine lv_iload_n C.1.1 C.1.2.1 dX7_quarrelOf_25 rfl (lv_at hl 1 rfl) ?_
  refine lv_iadd C.1.1 C.1.2.1 dX7_quarrelOf_26 ?_
  obtain ⟨hv10, hf⟩ := gd hf
  refine wai C hW hk9 (vin_p hv10) dX7_quarrelOf_27 ?_
  refine wsi C hW hk8 (vin_p ⟨by decide, by decide⟩) dX7_quarrelOf_28 (fun H locs hW => ?_)
  refine lv_aload_n C.1.1 C.1.2.1 dX7_quarrelOf_29 rfl (lv_at hl 0 rfl) ?_
  refine lv_iconst (v := 1) C.1.1 C.1.2.1 dX7_quarrelOf_30 (by decide) ?_
  refine lv_aload_n C.1.1 C.1.2.1 dX7_quarrelOf_31 rfl (lv_at hl 0 rfl) ?_
  have hk12 := sh7_44 hW hk_a0
  refine gf7_44 C hW hk_a0 w_1074 dX7_quarrelOf_32 ?_
  refine lv_iconst (v := 2) C.1.1 C.1.2.1 dX7_quarrelOf_35 (by decide) ?_
  refine wai C hW hk12 (vin_p ⟨by decide, by decide⟩) dX7_quarrelOf_36 ?_
  obtain ⟨⟨r15, σ14⟩, hc13, hf⟩ := bd hf
  try dsimp only at hf
  refine cVi C hW (mX7_lawTells hk_a0 hc13) hk_a0 kvX7_lawTells w_1377 ⟨(Nat.le_of_ble_eq_true rfl), (Nat.le_of_ble_eq_true rfl)⟩ ⟨Nat.zero_le _, Nat.zero_le _⟩ rfl hl.1 (rest := []) rfl (Nat.le_of_ble_eq_true rfl) dX7_quarrelOf_37 (fun H locs hn16 hW => ?_)
  refine lv_iconst (v := 0) C.1.1 C.1.2.1 dX7_quarrelOf_40 (by decide) ?_
  refine lv_bipush (v := 99) C.1.1 C.1.2.1 dX7_quarrelOf_41 (by decide) ?_
  obtain ⟨⟨r20, σ19⟩, hc18, hf⟩ := bd hf
  try dsimp only at hf
  refine cSi C hW (mX7_within hc18) ksX7_within w_1385 ⟨(Nat.le_of_ble_eq_true rfl), (Nat.le_of_ble_eq_true rfl)⟩ ⟨Nat.zero_le _, Nat.zero_le _⟩ rfl hl.1 (rest := []) rfl (Nat.le_of_ble_eq_true rfl) dX7_quarrelOf_43 (fun H locs hn21 hW => ?_)
  exact ri hQ C hr hlk hW hf (rok_i _) dX7_quarrelOf_46
theorem kvX7_rentOf : KV 7 "RightKeysModel" yX7_rentOf cX7_rentOf 2 (some .int) 1 := ⟨⟨w_1360, w_70, w_116, w_1361⟩, ⟨rfl, by decide, by decide, by decide +kernel⟩, by decide, rfl⟩
noncomputable def fX7_rentOf (a0 : Nat) (p1 : Int32) (σ : Sg) : Option (Int32 × Sg) := if vin ((16 : Int32) + p1) 88 then ((fX7_looks a0 (σ.1 (a0 + 31) ((((16 : Int32) + p1)).toNatClampNeg)) p1 σ).bind (fun σ4 => (fX7_keysIn a0 p1 σ4).bind (fun q13 => let r11 := q13.1; let σ10 := q13.2; (let σ14 := wI σ10 (a0 + 28) 8 r11; (fX7_lawTells a0 (2 : Int32) (σ14.1 (a0 + 28) 6) σ14).bind (fun q20 => let r18 := q20.1; let σ17 := q20.2; (fX7_within r18 (0 : Int32) (99 : Int32) σ17).bind (fun q25 => let r23 := q25.1; let σ22 := q25.2; some (r23, σ22))))))) else none
set_option maxRecDepth 100000 in
set_option maxHeartbeats 4000000 in
theorem mX7_rentOf {l : Launch} {G : Gm} {a0 : Nat} {p1 : Int32} {σ : Sg} {r : Int32} {σ' : Sg} (hk_a0 : gK G a0 = 8) (hf : fX7_rentOf a0 p1 σ = some (r, σ')) : Mi l G yX7_rentOf cX7_rentOf 2 .int 2 53 [.ref (gB G + a0), .int p1] σ r σ' := by
  refine of_W "RightKeysModel" rfl (by decide) (Nat.le_of_ble_eq_true rfl) ?_
  intro p e s m args below meth c Q hQ C hr hlk hW ls hl
  have h00 := hW.1
  have hl : lv_has ls 2 [(0, .ref (gB G + a0)), (1, .int p1)] := hl
  delta fX7_rentOf at hf
  refine lv_aload_n C.1.1 C.1.2.1 dX7_rentOf_0 rfl (lv_at hl 0 rfl) ?_
  refine lv_aload_n C.1.1 C.1.2.1 dX7_rentOf_1 rfl (lv_at hl 0 rfl) ?_
  have hk1 := sh7_48 hW hk_a0
  refine gf7_48 C hW hk_a0 w_1078 dX7_rentOf_2 ?_
  refine lv_bipush (v := 16) C.1.1 C.1.2.1 dX7_rentOf_5 (by decide) ?_
  refine lv_iload_n C.1.1 C.1.2.1 dX7_rentOf_7 rfl (lv_at hl 1 rfl) ?_
  refine lv_iadd C.1.1 C.1.2.1 dX7_rentOf_8 ?_
  obtain ⟨hv2, hf⟩ := gd hf
  refine wai C hW hk1 (vin_p hv2) dX7_rentOf_9 ?_
  refine lv_iload_n C.1.1 C.1.2.1 dX7_rentOf_10 rfl (lv_at hl 1 rfl) ?_
  obtain ⟨σ4, hc3, hf⟩ := bd hf
  try dsimp only at hf
  refine cVv C hW (mX7_looks hk_a0 hc3) hk_a0 kvX7_looks w_1362 ⟨(Nat.le_of_ble_eq_true rfl), (Nat.le_of_ble_eq_true rfl)⟩ ⟨Nat.zero_le _, Nat.zero_le _⟩ rfl hl.1 (rest := []) rfl (Nat.le_of_ble_eq_true rfl) dX7_rentOf_11 (fun H locs hW => ?_)
  refine lv_aload_n C.1.1 C.1.2.1 dX7_rentOf_14 rfl (lv_at hl 0 rfl) ?_
  have hk8 := sh7_44 hW hk_a0
  refine gf7_44 C hW hk_a0 w_1074 dX7_rentOf_15 ?_
  refine lv_bipush (v := 8) C.1.1 C.1.2.1 dX7_rentOf_18 (by decide) ?_
  refine lv_aload_n C.1.1 C.1.2.1 dX7_rentOf_20 rfl (lv_at hl 0 rfl) ?_
  refine lv_iload_n C.1.1 C.1.2.1 dX7_rentOf_21 rfl (lv_at hl 1 rfl) ?_
  obtain ⟨⟨r11, σ10⟩, hc9, hf⟩ := bd hf
  try dsimp only at hf
  refine cVi C hW (mX7_keysIn hk_a0 hc9) hk_a0 kvX7_keysIn w_1373 ⟨(Nat.le_of_ble_eq_true rfl), (Nat.le_of_ble_eq_true rfl)⟩ ⟨Nat.zero_le _, Nat.zero_le _⟩ rfl hl.1 (rest := [.int _, .ref _]) rfl (Nat.le_of_ble_eq_true rfl) dX7_rentOf_22 (fun H locs hn12 hW => ?_)
  refine wsi C hW hk8 (vin_p ⟨by decide, by decide⟩) dX7_rentOf_25 (fun H locs hW => ?_)
  refine lv_aload_n C.1.1 C.1.2.1 dX7_rentOf_26 rfl (lv_at hl 0 rfl) ?_
  refine lv_iconst (v := 2) C.1.1 C.1.2.1 dX7_rentOf_27 (by decide) ?_
  refine lv_aload_n C.1.1 C.1.2.1 dX7_rentOf_28 rfl (lv_at hl 0 rfl) ?_
  have hk15 := sh7_44 hW hk_a0
  refine gf7_44 C hW hk_a0 w_1074 dX7_rentOf_29 ?_
  refine lv_bipush (v := 6) C.1.1 C.1.2.1 dX7_rentOf_32 (by decide) ?_
  refine wai C hW hk15 (vin_p ⟨by decide, by decide⟩) dX7_rentOf_34 ?_
  obtain ⟨⟨r18, σ17⟩, hc16, hf⟩ := bd hf
  try dsimp only at hf
  refine cVi C hW (mX7_lawTells hk_a0 hc16) hk_a0 kvX7_lawTells w_1377 ⟨(Nat.le_of_ble_eq_true rfl), (Nat.le_of_ble_eq_true rfl)⟩ ⟨Nat.zero_le _, Nat.zero_le _⟩ rfl hl.1 (rest := []) rfl (Nat.le_of_ble_eq_true rfl) dX7_rentOf_35 (fun H locs hn19 hW => ?_)
  refine lv_iconst (v := 0) C.1.1 C.1.2.1 dX7_rentOf_38 (by decide) ?_
  refine lv_bipush (v := 99) C.1.1 C.1.2.1 dX7_rentOf_39 (by decide) ?_
  obtain ⟨⟨r23, σ22⟩, hc21, hf⟩ := bd hf
  try dsimp only at hf
  refine cSi C hW (mX7_within hc21) ksX7_within w_1385 ⟨(Nat.le_of_ble_eq_true rfl), (Nat.le_of_ble_eq_true rfl)⟩ ⟨Nat.zero_le _, Nat.zero_le _⟩ rfl hl.1 (rest := []) rfl (Nat.le_of_ble_eq_true rfl) dX7_rentOf_41 (fun H locs hn24 hW => ?_)
  exact ri hQ C hr hlk hW hf (rok_i _) dX7_rentOf_44
theorem kvX7_lateOf : KV 7 "RightKeysModel" yX7_lateOf cX7_lateOf 2 (some .int) 1 := ⟨⟨w_1469, w_88, w_116, w_1470⟩, ⟨rfl, by decide, by decide, by decide +kernel⟩, by decide, rfl⟩
noncomputable def fX7_lateOf (a0 : Nat) (p1 : Int32) (σ : Sg) : Option (Int32 × Sg) := if vin ((16 : Int32) + p1) 88 then ((fX7_looks a0 (σ.1 (a0 + 31) ((((16 : Int32) + p1)).toNatClampNeg)) p1 σ).bind (fun σ4 => (fX7_lawTells a0 (3 : Int32) (0 : Int32) σ4).bind (fun q12 => let r10 := q12.1; let σ9 := q12.2; (fX7_within r10 (0 : Int32) (100 : Int32) σ9).bind (fun q17 => let r15 := q17.1; let σ14 := q17.2; some (r15, σ14))))) else none
set_option maxRecDepth 100000 in
set_option maxHeartbeats 4000000 in
theorem mX7_lateOf {l : Launch} {G : Gm} {a0 : Nat} {p1 : Int32} {σ : Sg} {r : Int32} {σ' : Sg} (hk_a0 : gK G a0 = 8) (hf : fX7_lateOf a0 p1 σ = some (r, σ')) : Mi l G yX7_lateOf cX7_lateOf 2 .int 2 53 [.ref (gB G + a0), .int p1] σ r σ' := by
  refine of_W "RightKeysModel" rfl (by decide) (Nat.le_of_ble_eq_true rfl) ?_
  intro p e s m args below meth c Q hQ C hr hlk hW ls hl
  have h00 := hW.1
  have hl : lv_has ls 2 [(0, .ref (gB G + a0)), (1, .int p1)] := hl
  delta fX7_lateOf at hf
  refine lv_aload_n C.1.1 C.1.2.1 dX7_lateOf_0 rfl (lv_at hl 0 rfl) ?_
  refine lv_aload_n C.1.1 C.1.2.1 dX7_lateOf_1 rfl (lv_at hl 0 rfl) ?_
  have hk1 := sh7_48 hW hk_a0
  refine gf7_48 C hW hk_a0 w_1078 dX7_lateOf_2 ?_
  refine lv_bipush (v := 16) C.1.1 C.1.2.1 dX7_lateOf_5 (by decide) ?_
  refine lv_iload_n C.1.1 C.1.2.1 dX7_lateOf_7 rfl (lv_at hl 1 rfl) ?_
  refine lv_iadd C.1.1 C.1.2.1 dX7_lateOf_8 ?_
  obtain ⟨hv2, hf⟩ := gd hf
  refine wai C hW hk1 (vin_p hv2) dX7_lateOf_9 ?_
  refine lv_iload_n C.1.1 C.1.2.1 dX7_lateOf_10 rfl (lv_at hl 1 rfl) ?_
  obtain ⟨σ4, hc3, hf⟩ := bd hf
  try dsimp only at hf
  refine cVv C hW (mX7_looks hk_a0 hc3) hk_a0 kvX7_looks w_1362 ⟨(Nat.le_of_ble_eq_true rfl), (Nat.le_of_ble_eq_true rfl)⟩ ⟨Nat.zero_le _, Nat.zero_le _⟩ rfl hl.1 (rest := []) rfl (Nat.le_of_ble_eq_true rfl) dX7_lateOf_11 (fun H locs hW => ?_)
  refine lv_aload_n C.1.1 C.1.2.1 dX7_lateOf_14 rfl (lv_at hl 0 rfl) ?_
  refine lv_iconst (v := 3) C.1.1 C.1.2.1 dX7_lateOf_15 (by decide) ?_
  refine lv_iconst (v := 0) C.1.1 C.1.2.1 dX7_lateOf_16 (by decide) ?_
  obtain ⟨⟨r10, σ9⟩, hc8, hf⟩ := bd hf
  try dsimp only at hf
  refine cVi C hW (mX7_lawTells hk_a0 hc8) hk_a0 kvX7_lawTells w_1377 ⟨(Nat.le_of_ble_eq_true rfl), (Nat.le_of_ble_eq_true rfl)⟩ ⟨Nat.zero_le _, Nat.zero_le _⟩ rfl hl.1 (rest := []) rfl (Nat.le_of_ble_eq_true rfl) dX7_lateOf_17 (fun H locs hn11 hW => ?_)
  refine lv_iconst (v := 0) C.1.1 C.1.2.1 dX7_lateOf_20 (by decide) ?_
  refine lv_bipush (v := 100) C.1.1 C.1.2.1 dX7_lateOf_21 (by decide) ?_
  obtain ⟨⟨r15, σ14⟩, hc13, hf⟩ := bd hf
  try dsimp only at hf
  refine cSi C hW (mX7_within hc13) ksX7_within w_1385 ⟨(Nat.le_of_ble_eq_true rfl), (Nat.le_of_ble_eq_true rfl)⟩ ⟨Nat.zero_le _, Nat.zero_le _⟩ rfl hl.1 (rest := []) rfl (Nat.le_of_ble_eq_true rfl) dX7_lateOf_23 (fun H locs hn16 hW => ?_)
  exact ri hQ C hr hlk hW hf (rok_i _) dX7_lateOf_26
theorem kvX7_isAlone : KV 7 "RightKeysModel" yX7_isAlone cX7_isAlone 1 (some .boolean) 0 := ⟨⟨w_1489, w_93, w_116, w_1490⟩, ⟨rfl, by decide, by decide, by decide +kernel⟩, by decide, rfl⟩
noncomputable def fX7_isAlone (a0 : Nat) (σ : Sg) : Option (Int32 × Sg) := if vin (σ.1 a0 18) 2 then (if (σ.1 (a0 + 9) (((σ.1 a0 18)).toNatClampNeg)) = (1 : Int32) then (some ((1 : Int32), σ)) else (some ((0 : Int32), σ))) else none
set_option maxRecDepth 100000 in
set_option maxHeartbeats 4000000 in
theorem mX7_isAlone {l : Launch} {G : Gm} {a0 : Nat} {σ : Sg} {r : Int32} {σ' : Sg} (hk_a0 : gK G a0 = 8) (hf : fX7_isAlone a0 σ = some (r, σ')) : Mi l G yX7_isAlone cX7_isAlone 1 .boolean 0 0 [.ref (gB G + a0)] σ r σ' := by
  refine of_W "RightKeysModel" rfl (by decide) (Nat.le_of_ble_eq_true rfl) ?_
  intro p e s m args below meth c Q hQ C hr hlk hW ls hl
  have h00 := hW.1
  have hl : lv_has ls 1 [(0, .ref (gB G + a0))] := hl
  delta fX7_isAlone at hf
  refine lv_aload_n C.1.1 C.1.2.1 dX7_isAlone_0 rfl (lv_at hl 0 rfl) ?_
  have hk1 := sh7_22 hW hk_a0
  refine gf7_22 C hW hk_a0 w_1052 dX7_isAlone_1 ?_
  refine lv_aload_n C.1.1 C.1.2.1 dX7_isAlone_4 rfl (lv_at hl 0 rfl) ?_
  refine gf7_18 C hW hk_a0 w_1048 dX7_isAlone_5 ?_
  obtain ⟨hv2, hf⟩ := gd hf
  refine wai C hW hk1 (vin_p hv2) dX7_isAlone_8 ?_
  refine lv_iconst (v := 1) C.1.1 C.1.2.1 dX7_isAlone_9 (by decide) ?_
  refine lv_icmp_ne (tgt := 17) C.1.1 C.1.2.1 dX7_isAlone_10 (by decide) (fun h9 => ?_) (fun h9 => ?_)
  · replace hf := (if_neg h9).symm.trans hf
    refine lv_iconst (v := 0) C.1.1 C.1.2.1 dX7_isAlone_17 (by decide) ?_
    exact ri hQ C hr hlk hW hf (rok_z (Or.inl rfl)) dX7_isAlone_18
  · replace hf := (if_pos h9).symm.trans hf
    refine lv_iconst (v := 1) C.1.1 C.1.2.1 dX7_isAlone_13 (by decide) ?_
    refine lv_goto (tgt := 18) C.1.1 C.1.2.1 dX7_isAlone_14 (by decide) ?_
    exact ri hQ C hr hlk hW hf (rok_z (Or.inr rfl)) dX7_isAlone_18
theorem kvX7_canOwn : KV 7 "RightKeysModel" yX7_canOwn cX7_canOwn 2 (some .boolean) 1 := ⟨⟨w_1485, w_92, w_116, w_1486⟩, ⟨rfl, by decide, by decide, by decide +kernel⟩, by decide, rfl⟩
noncomputable def jX7_canOwn_15 (a0 : Nat) (p1 : Int32) (σ : Sg) : Option (Int32 × Sg) := some ((1 : Int32), σ)
noncomputable def fX7_canOwn (a0 : Nat) (p1 : Int32) (σ : Sg) : Option (Int32 × Sg) := (fX7_isAlone a0 σ).bind (fun q5 => let r3 := q5.1; let σ2 := q5.2; if r3 = 0 then ((fX7_hasSpare a0 p1 σ2).bind (fun q10 => let r8 := q10.1; let σ7 := q10.2; if r8 = 0 then (some ((0 : Int32), σ7)) else (jX7_canOwn_15 a0 p1 σ7))) else (jX7_canOwn_15 a0 p1 σ2))
set_option maxRecDepth 100000 in
set_option maxHeartbeats 4000000 in
theorem mX7_canOwn {l : Launch} {G : Gm} {a0 : Nat} {p1 : Int32} {σ : Sg} {r : Int32} {σ' : Sg} (hk_a0 : gK G a0 = 8) (hf : fX7_canOwn a0 p1 σ = some (r, σ')) : Mi l G yX7_canOwn cX7_canOwn 2 .boolean 1 22 [.ref (gB G + a0), .int p1] σ r σ' := by
  refine of_W "RightKeysModel" rfl (by decide) (Nat.le_of_ble_eq_true rfl) ?_
  intro p e s m args below meth c Q hQ C hr hlk hW ls hl
  have h00 := hW.1
  have hl : lv_has ls 2 [(0, .ref (gB G + a0)), (1, .int p1)] := hl
  delta fX7_canOwn at hf
  have J15 : ∀ (σ : Sg) (H : Heap) (locs : List Loc) (ls : Array Slot), jX7_canOwn_15 a0 p1 σ = some (r, σ') → Ws G σ s.heap H locs → lv_has ls 2 [] → W p l e (rmOf 1 22) s m args below meth c H locs 0 0 Q (F0 m 15 ls []) := by
    intro σ H locs ls hf hW hl
    delta jX7_canOwn_15 at hf
    refine lv_iconst (v := 1) C.1.1 C.1.2.1 dX7_canOwn_15 (by decide) ?_
    refine lv_goto (tgt := 20) C.1.1 C.1.2.1 dX7_canOwn_16 (by decide) ?_
    exact ri hQ C hr hlk hW hf (rok_z (Or.inr rfl)) dX7_canOwn_20
  refine lv_aload_n C.1.1 C.1.2.1 dX7_canOwn_0 rfl (lv_at hl 0 rfl) ?_
  obtain ⟨⟨r3, σ2⟩, hc1, hf⟩ := bd hf
  try dsimp only at hf
  refine cVi C hW (mX7_isAlone hk_a0 hc1) hk_a0 kvX7_isAlone w_1487 ⟨(Nat.le_of_ble_eq_true rfl), (Nat.le_of_ble_eq_true rfl)⟩ ⟨Nat.zero_le _, Nat.zero_le _⟩ rfl hl.1 (rest := []) rfl (Nat.le_of_ble_eq_true rfl) dX7_canOwn_1 (fun H locs hn4 hW => ?_)
  refine lv_if_ne (tgt := 15) C.1.1 C.1.2.1 dX7_canOwn_4 (by decide) (fun h9 => ?_) (fun h9 => ?_)
  · replace hf := (if_neg h9).symm.trans hf
    exact J15 _ _ _ _ hf hW (lv_sub hl [] rfl)
  · replace hf := (if_pos h9).symm.trans hf
    refine lv_aload_n C.1.1 C.1.2.1 dX7_canOwn_7 rfl (lv_at hl 0 rfl) ?_
    refine lv_iload_n C.1.1 C.1.2.1 dX7_canOwn_8 rfl (lv_at hl 1 rfl) ?_
    obtain ⟨⟨r8, σ7⟩, hc6, hf⟩ := bd hf
    try dsimp only at hf
    refine cVi C hW (mX7_hasSpare hk_a0 hc6) hk_a0 kvX7_hasSpare w_1491 ⟨(Nat.le_of_ble_eq_true rfl), (Nat.le_of_ble_eq_true rfl)⟩ ⟨Nat.zero_le _, Nat.zero_le _⟩ rfl hl.1 (rest := []) rfl (Nat.le_of_ble_eq_true rfl) dX7_canOwn_9 (fun H locs hn9 hW => ?_)
    refine lv_if_eq (tgt := 19) C.1.1 C.1.2.1 dX7_canOwn_12 (by decide) (fun h9 => ?_) (fun h9 => ?_)
    · replace hf := (if_pos h9).symm.trans hf
      refine lv_iconst (v := 0) C.1.1 C.1.2.1 dX7_canOwn_19 (by decide) ?_
      exact ri hQ C hr hlk hW hf (rok_z (Or.inl rfl)) dX7_canOwn_20
    · replace hf := (if_neg h9).symm.trans hf
      exact J15 _ _ _ _ hf hW (lv_sub hl [] rfl)
theorem kvX7_canLeft : KV 7 "RightKeysModel" yX7_canLeft cX7_canLeft 2 (some .boolean) 1 := ⟨⟨w_1497, w_95, w_116, w_1498⟩, ⟨rfl, by decide, by decide, by decide +kernel⟩, by decide, rfl⟩
noncomputable def fX7_canLeft (a0 : Nat) (p1 : Int32) (σ : Sg) : Option (Int32 × Sg) := (fX7_isAlone a0 σ).bind (fun q5 => let r3 := q5.1; let σ2 := q5.2; if r3 = 0 then ((fX7_leftOf a0 p1 σ2).bind (fun q11 => let r9 := q11.1; let σ8 := q11.2; if vin ((40 : Int32) + r9) 88 then (if (σ8.1 (a0 + 31) ((((40 : Int32) + r9)).toNatClampNeg)) = (1 : Int32) then (some ((0 : Int32), σ8)) else (some ((1 : Int32), σ8))) else none)) else (some ((0 : Int32), σ2)))
set_option maxRecDepth 100000 in
set_option maxHeartbeats 4000000 in
theorem mX7_canLeft {l : Launch} {G : Gm} {a0 : Nat} {p1 : Int32} {σ : Sg} {r : Int32} {σ' : Sg} (hk_a0 : gK G a0 = 8) (hf : fX7_canLeft a0 p1 σ = some (r, σ')) : Mi l G yX7_canLeft cX7_canLeft 2 .boolean 1 21 [.ref (gB G + a0), .int p1] σ r σ' := by
  refine of_W "RightKeysModel" rfl (by decide) (Nat.le_of_ble_eq_true rfl) ?_
  intro p e s m args below meth c Q hQ C hr hlk hW ls hl
  have h00 := hW.1
  have hl : lv_has ls 2 [(0, .ref (gB G + a0)), (1, .int p1)] := hl
  delta fX7_canLeft at hf
  refine lv_aload_n C.1.1 C.1.2.1 dX7_canLeft_0 rfl (lv_at hl 0 rfl) ?_
  obtain ⟨⟨r3, σ2⟩, hc1, hf⟩ := bd hf
  try dsimp only at hf
  refine cVi C hW (mX7_isAlone hk_a0 hc1) hk_a0 kvX7_isAlone w_1487 ⟨(Nat.le_of_ble_eq_true rfl), (Nat.le_of_ble_eq_true rfl)⟩ ⟨Nat.zero_le _, Nat.zero_le _⟩ rfl hl.1 (rest := []) rfl (Nat.le_of_ble_eq_true rfl) dX7_canLeft_1 (fun H locs hn4 hW => ?_)
  refine lv_if_ne (tgt := 28) C.1.1 C.1.2.1 dX7_canLeft_4 (by decide) (fun h9 => ?_) (fun h9 => ?_)
  · replace hf := (if_neg h9).symm.trans hf
    refine lv_iconst (v := 0) C.1.1 C.1.2.1 dX7_canLeft_28 (by decide) ?_
    exact ri hQ C hr hlk hW hf (rok_z (Or.inl rfl)) dX7_canLeft_29
  · replace hf := (if_pos h9).symm.trans hf
    refine lv_aload_n C.1.1 C.1.2.1 dX7_canLeft_7 rfl (lv_at hl 0 rfl) ?_
    have hk6 := sh7_48 hW hk_a0
    refine gf7_48 C hW hk_a0 w_1078 dX7_canLeft_8 ?_
    refine lv_bipush (v := 40) C.1.1 C.1.2.1 dX7_canLeft_11 (by decide) ?_
    refine lv_aload_n C.1.1 C.1.2.1 dX7_canLeft_13 rfl (lv_at hl 0 rfl) ?_
    refine lv_iload_n C.1.1 C.1.2.1 dX7_canLeft_14 rfl (lv_at hl 1 rfl) ?_
    obtain ⟨⟨r9, σ8⟩, hc7, hf⟩ := bd hf
    try dsimp only at hf
    refine cVi C hW (mX7_leftOf hk_a0 hc7) hk_a0 kvX7_leftOf w_1499 ⟨(Nat.le_of_ble_eq_true rfl), (Nat.le_of_ble_eq_true rfl)⟩ ⟨Nat.zero_le _, Nat.zero_le _⟩ rfl hl.1 (rest := [.int _, .ref _]) rfl (Nat.le_of_ble_eq_true rfl) dX7_canLeft_15 (fun H locs hn10 hW => ?_)
    refine lv_iadd C.1.1 C.1.2.1 dX7_canLeft_18 ?_
    obtain ⟨hv12, hf⟩ := gd hf
    refine wai C hW hk6 (vin_p hv12) dX7_canLeft_19 ?_
    refine lv_iconst (v := 1) C.1.1 C.1.2.1 dX7_canLeft_20 (by decide) ?_
    refine lv_icmp_eq (tgt := 28) C.1.1 C.1.2.1 dX7_canLeft_21 (by decide) (fun h9 => ?_) (fun h9 => ?_)
    · replace hf := (if_pos h9).symm.trans hf
      refine lv_iconst (v := 0) C.1.1 C.1.2.1 dX7_canLeft_28 (by decide) ?_
      exact ri hQ C hr hlk hW hf (rok_z (Or.inl rfl)) dX7_canLeft_29
    · replace hf := (if_neg h9).symm.trans hf
      refine lv_iconst (v := 1) C.1.1 C.1.2.1 dX7_canLeft_24 (by decide) ?_
      refine lv_goto (tgt := 29) C.1.1 C.1.2.1 dX7_canLeft_25 (by decide) ?_
      exact ri hQ C hr hlk hW hf (rok_z (Or.inr rfl)) dX7_canLeft_29
theorem kvX7_canRight : KV 7 "RightKeysModel" yX7_canRight cX7_canRight 2 (some .boolean) 1 := ⟨⟨w_1505, w_97, w_116, w_1506⟩, ⟨rfl, by decide, by decide, by decide +kernel⟩, by decide, rfl⟩
noncomputable def fX7_canRight (a0 : Nat) (p1 : Int32) (σ : Sg) : Option (Int32 × Sg) := (fX7_isAlone a0 σ).bind (fun q5 => let r3 := q5.1; let σ2 := q5.2; if r3 = 0 then ((fX7_rightOf a0 p1 σ2).bind (fun q11 => let r9 := q11.1; let σ8 := q11.2; if vin ((40 : Int32) + r9) 88 then (if (σ8.1 (a0 + 31) ((((40 : Int32) + r9)).toNatClampNeg)) = (1 : Int32) then (some ((0 : Int32), σ8)) else ((fX7_rightOf a0 p1 σ8).bind (fun q18 => let r16 := q18.1; let σ15 := q18.2; if vin (((8 : Int32) * (σ8.1 a0 18)) + r16) 16 then (if (σ15.1 (a0 + 13) (((((8 : Int32) * (σ8.1 a0 18)) + r16)).toNatClampNeg)) = 0 then (some ((0 : Int32), σ15)) else (some ((1 : Int32), σ15))) else none))) else none)) else (some ((0 : Int32), σ2)))
set_option maxRecDepth 100000 in
set_option maxHeartbeats 4000000 in
theorem mX7_canRight {l : Launch} {G : Gm} {a0 : Nat} {p1 : Int32} {σ : Sg} {r : Int32} {σ' : Sg} (hk_a0 : gK G a0 = 8) (hf : fX7_canRight a0 p1 σ = some (r, σ')) : Mi l G yX7_canRight cX7_canRight 2 .boolean 1 21 [.ref (gB G + a0), .int p1] σ r σ' := by
  refine of_W "RightKeysModel" rfl (by decide) (Nat.le_of_ble_eq_true rfl) ?_
  intro p e s m args below meth c Q hQ C hr hlk hW ls hl
  have h00 := hW.1
  have hl : lv_has ls 2 [(0, .ref (gB G + a0)), (1, .int p1)] := hl
  delta fX7_canRight at hf
  refine lv_aload_n C.1.1 C.1.2.1 dX7_canRight_0 rfl (lv_at hl 0 rfl) ?_
  obtain ⟨⟨r3, σ2⟩, hc1, hf⟩ := bd hf
  try dsimp only at hf
  refine cVi C hW (mX7_isAlone hk_a0 hc1) hk_a0 kvX7_isAlone w_1487 ⟨(Nat.le_of_ble_eq_true rfl), (Nat.le_of_ble_eq_true rfl)⟩ ⟨Nat.zero_le _, Nat.zero_le _⟩ rfl hl.1 (rest := []) rfl (Nat.le_of_ble_eq_true rfl) dX7_canRight_1 (fun H locs hn4 hW => ?_)
  refine lv_if_ne (tgt := 49) C.1.1 C.1.2.1 dX7_canRight_4 (by decide) (fun h9 => ?_) (fun h9 => ?_)
  · replace hf := (if_neg h9).symm.trans hf
    refine lv_iconst (v := 0) C.1.1 C.1.2.1 dX7_canRight_49 (by decide) ?_
    exact ri hQ C hr hlk hW hf (rok_z (Or.inl rfl)) dX7_canRight_50
  · replace hf := (if_pos h9).symm.trans hf
    refine lv_aload_n C.1.1 C.1.2.1 dX7_canRight_7 rfl (lv_at hl 0 rfl) ?_
    have hk6 := sh7_48 hW hk_a0
    refine gf7_48 C hW hk_a0 w_1078 dX7_canRight_8 ?_
    refine lv_bipush (v := 40) C.1.1 C.1.2.1 dX7_canRight_11 (by decide) ?_
    refine lv_aload_n C.1.1 C.1.2.1 dX7_canRight_13 rfl (lv_at hl 0 rfl) ?_
    refine lv_iload_n C.1.1 C.1.2.1 dX7_canRight_14 rfl (lv_at hl 1 rfl) ?_
    obtain ⟨⟨r9, σ8⟩, hc7, hf⟩ := bd hf
    try dsimp only at hf
    refine cVi C hW (mX7_rightOf hk_a0 hc7) hk_a0 kvX7_rightOf w_1447 ⟨(Nat.le_of_ble_eq_true rfl), (Nat.le_of_ble_eq_true rfl)⟩ ⟨Nat.zero_le _, Nat.zero_le _⟩ rfl hl.1 (rest := [.int _, .ref _]) rfl (Nat.le_of_ble_eq_true rfl) dX7_canRight_15 (fun H locs hn10 hW => ?_)
    refine lv_iadd C.1.1 C.1.2.1 dX7_canRight_18 ?_
    obtain ⟨hv12, hf⟩ := gd hf
    refine wai C hW hk6 (vin_p hv12) dX7_canRight_19 ?_
    refine lv_iconst (v := 1) C.1.1 C.1.2.1 dX7_canRight_20 (by decide) ?_
    refine lv_icmp_eq (tgt := 49) C.1.1 C.1.2.1 dX7_canRight_21 (by decide) (fun h9 => ?_) (fun h9 => ?_)
    · replace hf := (if_pos h9).symm.trans hf
      refine lv_iconst (v := 0) C.1.1 C.1.2.1 dX7_canRight_49 (by decide) ?_
      exact ri hQ C hr hlk hW hf (rok_z (Or.inl rfl)) dX7_canRight_50
    · replace hf := (if_neg h9).symm.trans hf
      refine lv_aload_n C.1.1 C.1.2.1 dX7_canRight_24 rfl (lv_at hl 0 rfl) ?_
      have hk13 := sh7_26 hW hk_a0
      refine gf7_26 C hW hk_a0 w_1056 dX7_canRight_25 ?_
      refine lv_bipush (v := 8) C.1.1 C.1.2.1 dX7_canRight_28 (by decide) ?_
      refine lv_aload_n C.1.1 C.1.2.1 dX7_canRight_30 rfl (lv_at hl 0 rfl) ?_
      refine gf7_18 C hW hk_a0 w_1048 dX7_canRight_31 ?_
      refine lv_imul C.1.1 C.1.2.1 dX7_canRight_34 ?_
      refine lv_aload_n C.1.1 C.1.2.1 dX7_canRight_35 rfl (lv_at hl 0 rfl) ?_
      refine lv_iload_n C.1.1 C.1.2.1 dX7_canRight_36 rfl (lv_at hl 1 rfl) ?_
      obtain ⟨⟨r16, σ15⟩, hc14, hf⟩ := bd hf
      try dsimp only at hf
      refine cVi C hW (mX7_rightOf hk_a0 hc14) hk_a0 kvX7_rightOf w_1447 ⟨(Nat.le_of_ble_eq_true rfl), (Nat.le_of_ble_eq_true rfl)⟩ ⟨Nat.zero_le _, Nat.zero_le _⟩ rfl hl.1 (rest := [.int _, .ref _]) rfl (Nat.le_of_ble_eq_true rfl) dX7_canRight_37 (fun H locs hn17 hW => ?_)
      refine lv_iadd C.1.1 C.1.2.1 dX7_canRight_40 ?_
      obtain ⟨hv19, hf⟩ := gd hf
      refine waz C hW hk13 (vin_p hv19) dX7_canRight_41 ?_
      refine lv_if_eq (tgt := 49) C.1.1 C.1.2.1 dX7_canRight_42 (by decide) (fun h9 => ?_) (fun h9 => ?_)
      · replace hf := (if_pos h9).symm.trans hf
        refine lv_iconst (v := 0) C.1.1 C.1.2.1 dX7_canRight_49 (by decide) ?_
        exact ri hQ C hr hlk hW hf (rok_z (Or.inl rfl)) dX7_canRight_50
      · replace hf := (if_neg h9).symm.trans hf
        refine lv_iconst (v := 1) C.1.1 C.1.2.1 dX7_canRight_45 (by decide) ?_
        refine lv_goto (tgt := 50) C.1.1 C.1.2.1 dX7_canRight_46 (by decide) ?_
        exact ri hQ C hr hlk hW hf (rok_z (Or.inr rfl)) dX7_canRight_50
theorem kvX7_letterOf : KV 7 "RightKeysModel" yX7_letterOf cX7_letterOf 2 (some .int) 1 := ⟨⟨w_1481, w_91, w_116, w_1482⟩, ⟨rfl, by decide, by decide, by decide +kernel⟩, by decide, rfl⟩
noncomputable def jX7_letterOf_37 (a0 : Nat) (p1 : Int32) (σ : Sg) : Option (Int32 × Sg) := (fX7_canRight a0 p1 σ).bind (fun q15 => let r13 := q15.1; let σ12 := q15.2; if r13 = 0 then (some ((-1 : Int32), σ12)) else ((fX7_rightOf a0 p1 σ12).bind (fun q20 => let r18 := q20.1; let σ17 := q20.2; (fX7_doesLet a0 r18 p1 σ17).bind (fun q25 => let r23 := q25.1; let σ22 := q25.2; if r23 = 0 then (some ((-1 : Int32), σ22)) else ((fX7_rightOf a0 p1 σ22).bind (fun q30 => let r28 := q30.1; let σ27 := q30.2; some (r28, σ27)))))))
noncomputable def fX7_letterOf (a0 : Nat) (p1 : Int32) (σ : Sg) : Option (Int32 × Sg) := (fX7_canOwn a0 p1 σ).bind (fun q5 => let r3 := q5.1; let σ2 := q5.2; if r3 = 0 then ((fX7_canLeft a0 p1 σ2).bind (fun q10 => let r8 := q10.1; let σ7 := q10.2; if r8 = 0 then (jX7_letterOf_37 a0 p1 σ7) else ((fX7_leftOf a0 p1 σ7).bind (fun q35 => let r33 := q35.1; let σ32 := q35.2; (fX7_doesLet a0 r33 p1 σ32).bind (fun q40 => let r38 := q40.1; let σ37 := q40.2; if r38 = 0 then (jX7_letterOf_37 a0 p1 σ37) else ((fX7_leftOf a0 p1 σ37).bind (fun q45 => let r43 := q45.1; let σ42 := q45.2; some (r43, σ42)))))))) else (some (p1, σ2)))
set_option maxRecDepth 100000 in
set_option maxHeartbeats 4000000 in
theorem mX7_letterOf {l : Launch} {G : Gm} {a0 : Nat} {p1 : Int32} {σ : Sg} {r : Int32} {σ' : Sg} (hk_a0 : gK G a0 = 8) (hf : fX7_letterOf a0 p1 σ = some (r, σ')) : Mi l G yX7_letterOf cX7_letterOf 2 .int 3 75 [.ref (gB G + a0), .int p1] σ r σ' := by
  refine of_W "RightKeysModel" rfl (by decide) (Nat.le_of_ble_eq_true rfl) ?_
  intro p e s m args below meth c Q hQ C hr hlk hW ls hl
  have h00 := hW.1
  have hl : lv_has ls 2 [(0, .ref (gB G + a0)), (1, .int p1)] := hl
  delta fX7_letterOf at hf
  have J37 : ∀ (σ : Sg) (H : Heap) (locs : List Loc) (ls : Array Slot), jX7_letterOf_37 a0 p1 σ = some (r, σ') → Ws G σ s.heap H locs → lv_has ls 2 [(0, .ref (gB G + a0)), (1, .int p1)] → W p l e (rmOf 3 75) s m args below meth c H locs 0 0 Q (F0 m 37 ls []) := by
    intro σ H locs ls hf hW hl
    delta jX7_letterOf_37 at hf
    refine lv_aload_n C.1.1 C.1.2.1 dX7_letterOf_37 rfl (lv_at hl 0 rfl) ?_
    refine lv_iload_n C.1.1 C.1.2.1 dX7_letterOf_38 rfl (lv_at hl 1 rfl) ?_
    obtain ⟨⟨r13, σ12⟩, hc11, hf⟩ := bd hf
    try dsimp only at hf
    refine cVi C hW (mX7_canRight hk_a0 hc11) hk_a0 kvX7_canRight w_1503 ⟨(Nat.le_of_ble_eq_true rfl), (Nat.le_of_ble_eq_true rfl)⟩ ⟨Nat.zero_le _, Nat.zero_le _⟩ rfl hl.1 (rest := []) rfl (Nat.le_of_ble_eq_true rfl) dX7_letterOf_39 (fun H locs hn14 hW => ?_)
    refine lv_if_eq (tgt := 64) C.1.1 C.1.2.1 dX7_letterOf_42 (by decide) (fun h9 => ?_) (fun h9 => ?_)
    · replace hf := (if_pos h9).symm.trans hf
      refine lv_iconst (v := (-1)) C.1.1 C.1.2.1 dX7_letterOf_64 (by decide) ?_
      exact ri hQ C hr hlk hW hf (rok_i _) dX7_letterOf_65
    · replace hf := (if_neg h9).symm.trans hf
      refine lv_aload_n C.1.1 C.1.2.1 dX7_letterOf_45 rfl (lv_at hl 0 rfl) ?_
      refine lv_aload_n C.1.1 C.1.2.1 dX7_letterOf_46 rfl (lv_at hl 0 rfl) ?_
      refine lv_iload_n C.1.1 C.1.2.1 dX7_letterOf_47 rfl (lv_at hl 1 rfl) ?_
      obtain ⟨⟨r18, σ17⟩, hc16, hf⟩ := bd hf
      try dsimp only at hf
      refine cVi C hW (mX7_rightOf hk_a0 hc16) hk_a0 kvX7_rightOf w_1447 ⟨(Nat.le_of_ble_eq_true rfl), (Nat.le_of_ble_eq_true rfl)⟩ ⟨Nat.zero_le _, Nat.zero_le _⟩ rfl hl.1 (rest := [.ref _]) rfl (Nat.le_of_ble_eq_true rfl) dX7_letterOf_48 (fun H locs hn19 hW => ?_)
      refine lv_iload_n C.1.1 C.1.2.1 dX7_letterOf_51 rfl (lv_at hl 1 rfl) ?_
      obtain ⟨⟨r23, σ22⟩, hc21, hf⟩ := bd hf
      try dsimp only at hf
      refine cVi C hW (mX7_doesLet hk_a0 hc21) hk_a0 kvX7_doesLet w_1400 ⟨(Nat.le_of_ble_eq_true rfl), (Nat.le_of_ble_eq_true rfl)⟩ ⟨Nat.zero_le _, Nat.zero_le _⟩ rfl hl.1 (rest := []) rfl (Nat.le_of_ble_eq_true rfl) dX7_letterOf_52 (fun H locs hn24 hW => ?_)
      refine lv_if_eq (tgt := 64) C.1.1 C.1.2.1 dX7_letterOf_55 (by decide) (fun h9 => ?_) (fun h9 => ?_)
      · replace hf := (if_pos h9).symm.trans hf
        refine lv_iconst (v := (-1)) C.1.1 C.1.2.1 dX7_letterOf_64 (by decide) ?_
        exact ri hQ C hr hlk hW hf (rok_i _) dX7_letterOf_65
      · replace hf := (if_neg h9).symm.trans hf
        refine lv_aload_n C.1.1 C.1.2.1 dX7_letterOf_58 rfl (lv_at hl 0 rfl) ?_
        refine lv_iload_n C.1.1 C.1.2.1 dX7_letterOf_59 rfl (lv_at hl 1 rfl) ?_
        obtain ⟨⟨r28, σ27⟩, hc26, hf⟩ := bd hf
        try dsimp only at hf
        refine cVi C hW (mX7_rightOf hk_a0 hc26) hk_a0 kvX7_rightOf w_1447 ⟨(Nat.le_of_ble_eq_true rfl), (Nat.le_of_ble_eq_true rfl)⟩ ⟨Nat.zero_le _, Nat.zero_le _⟩ rfl hl.1 (rest := []) rfl (Nat.le_of_ble_eq_true rfl) dX7_letterOf_60 (fun H locs hn29 hW => ?_)
        exact ri hQ C hr hlk hW hf (rok_i _) dX7_letterOf_63
  refine lv_aload_n C.1.1 C.1.2.1 dX7_letterOf_0 rfl (lv_at hl 0 rfl) ?_
  refine lv_iload_n C.1.1 C.1.2.1 dX7_letterOf_1 rfl (lv_at hl 1 rfl) ?_
  obtain ⟨⟨r3, σ2⟩, hc1, hf⟩ := bd hf
  try dsimp only at hf
  refine cVi C hW (mX7_canOwn hk_a0 hc1) hk_a0 kvX7_canOwn w_1483 ⟨(Nat.le_of_ble_eq_true rfl), (Nat.le_of_ble_eq_true rfl)⟩ ⟨Nat.zero_le _, Nat.zero_le _⟩ rfl hl.1 (rest := []) rfl (Nat.le_of_ble_eq_true rfl) dX7_letterOf_2 (fun H locs hn4 hW => ?_)
  refine lv_if_eq (tgt := 10) C.1.1 C.1.2.1 dX7_letterOf_5 (by decide) (fun h9 => ?_) (fun h9 => ?_)
  · replace hf := (if_pos h9).symm.trans hf
    refine lv_aload_n C.1.1 C.1.2.1 dX7_letterOf_10 rfl (lv_at hl 0 rfl) ?_
    refine lv_iload_n C.1.1 C.1.2.1 dX7_letterOf_11 rfl (lv_at hl 1 rfl) ?_
    obtain ⟨⟨r8, σ7⟩, hc6, hf⟩ := bd hf
    try dsimp only at hf
    refine cVi C hW (mX7_canLeft hk_a0 hc6) hk_a0 kvX7_canLeft w_1495 ⟨(Nat.le_of_ble_eq_true rfl), (Nat.le_of_ble_eq_true rfl)⟩ ⟨Nat.zero_le _, Nat.zero_le _⟩ rfl hl.1 (rest := []) rfl (Nat.le_of_ble_eq_true rfl) dX7_letterOf_12 (fun H locs hn9 hW => ?_)
    refine lv_if_eq (tgt := 37) C.1.1 C.1.2.1 dX7_letterOf_15 (by decide) (fun h9 => ?_) (fun h9 => ?_)
    · replace hf := (if_pos h9).symm.trans hf
      exact J37 _ _ _ _ hf hW (lv_sub hl [0, 1] rfl)
    · replace hf := (if_neg h9).symm.trans hf
      refine lv_aload_n C.1.1 C.1.2.1 dX7_letterOf_18 rfl (lv_at hl 0 rfl) ?_
      refine lv_aload_n C.1.1 C.1.2.1 dX7_letterOf_19 rfl (lv_at hl 0 rfl) ?_
      refine lv_iload_n C.1.1 C.1.2.1 dX7_letterOf_20 rfl (lv_at hl 1 rfl) ?_
      obtain ⟨⟨r33, σ32⟩, hc31, hf⟩ := bd hf
      try dsimp only at hf
      refine cVi C hW (mX7_leftOf hk_a0 hc31) hk_a0 kvX7_leftOf w_1499 ⟨(Nat.le_of_ble_eq_true rfl), (Nat.le_of_ble_eq_true rfl)⟩ ⟨Nat.zero_le _, Nat.zero_le _⟩ rfl hl.1 (rest := [.ref _]) rfl (Nat.le_of_ble_eq_true rfl) dX7_letterOf_21 (fun H locs hn34 hW => ?_)
      refine lv_iload_n C.1.1 C.1.2.1 dX7_letterOf_24 rfl (lv_at hl 1 rfl) ?_
      obtain ⟨⟨r38, σ37⟩, hc36, hf⟩ := bd hf
      try dsimp only at hf
      refine cVi C hW (mX7_doesLet hk_a0 hc36) hk_a0 kvX7_doesLet w_1400 ⟨(Nat.le_of_ble_eq_true rfl), (Nat.le_of_ble_eq_true rfl)⟩ ⟨Nat.zero_le _, Nat.zero_le _⟩ rfl hl.1 (rest := []) rfl (Nat.le_of_ble_eq_true rfl) dX7_letterOf_25 (fun H locs hn39 hW => ?_)
      refine lv_if_eq (tgt := 37) C.1.1 C.1.2.1 dX7_letterOf_28 (by decide) (fun h9 => ?_) (fun h9 => ?_)
      · replace hf := (if_pos h9).symm.trans hf
        exact J37 _ _ _ _ hf hW (lv_sub hl [0, 1] rfl)
      · replace hf := (if_neg h9).symm.trans hf
        refine lv_aload_n C.1.1 C.1.2.1 dX7_letterOf_31 rfl (lv_at hl 0 rfl) ?_
        refine lv_iload_n C.1.1 C.1.2.1 dX7_letterOf_32 rfl (lv_at hl 1 rfl) ?_
        obtain ⟨⟨r43, σ42⟩, hc41, hf⟩ := bd hf
        try dsimp only at hf
        refine cVi C hW (mX7_leftOf hk_a0 hc41) hk_a0 kvX7_leftOf w_1499 ⟨(Nat.le_of_ble_eq_true rfl), (Nat.le_of_ble_eq_true rfl)⟩ ⟨Nat.zero_le _, Nat.zero_le _⟩ rfl hl.1 (rest := []) rfl (Nat.le_of_ble_eq_true rfl) dX7_letterOf_33 (fun H locs hn44 hW => ?_)
        exact ri hQ C hr hlk hW hf (rok_i _) dX7_letterOf_36
  · replace hf := (if_neg h9).symm.trans hf
    refine lv_iload_n C.1.1 C.1.2.1 dX7_letterOf_8 rfl (lv_at hl 1 rfl) ?_
    exact ri hQ C hr hlk hW hf (rok_i _) dX7_letterOf_9
theorem kvX7_comesIn : KV 7 "RightKeysModel" yX7_comesIn cX7_comesIn 3 (some .boolean) 1 := ⟨⟨w_1477, w_90, w_116, w_1478⟩, ⟨rfl, by decide, by decide, by decide +kernel⟩, by decide, rfl⟩
noncomputable def fX7_comesIn (a0 : Nat) (p1 : Int32) (σ : Sg) : Option (Int32 × Sg) := if vin ((40 : Int32) + p1) 88 then (if (σ.1 (a0 + 31) ((((40 : Int32) + p1)).toNatClampNeg)) = (2 : Int32) then ((fX7_letterOf a0 p1 σ).bind (fun q7 => let r5 := q7.1; let σ4 := q7.2; if 0 ≤ r5 then ((let σ9 := wI σ4 (a0 + 31) ((((40 : Int32) + p1)).toNatClampNeg) (0 : Int32); if vin ((48 : Int32) + p1) 88 then (let σ12 := wI σ9 (a0 + 31) ((((48 : Int32) + p1)).toNatClampNeg) (0 : Int32); if vin ((64 : Int32) + p1) 88 then (let σ15 := wI σ12 (a0 + 31) ((((64 : Int32) + p1)).toNatClampNeg) r5; (let σ17 := wI σ15 (a0 + 31) 86 ((σ15.1 (a0 + 31) 86) + (1 : Int32)); if r5 = p1 then ((fX7_hasSpare a0 p1 σ17).bind (fun q22 => let r20 := q22.1; let σ19 := q22.2; if r20 = 0 then (some ((1 : Int32), σ19)) else ((let σ24 := wI σ19 (a0 + 31) 87 ((σ19.1 (a0 + 31) 87) + (1 : Int32)); some ((1 : Int32), σ24))))) else (some ((1 : Int32), σ17)))) else none) else none)) else (some ((0 : Int32), σ4)))) else (some ((0 : Int32), σ))) else none
set_option maxRecDepth 100000 in
set_option maxHeartbeats 4000000 in
theorem mX7_comesIn {l : Launch} {G : Gm} {a0 : Nat} {p1 : Int32} {σ : Sg} {r : Int32} {σ' : Sg} (hk_a0 : gK G a0 = 8) (hf : fX7_comesIn a0 p1 σ = some (r, σ')) : Mi l G yX7_comesIn cX7_comesIn 3 .boolean 4 96 [.ref (gB G + a0), .int p1] σ r σ' := by
  refine of_W "RightKeysModel" rfl (by decide) (Nat.le_of_ble_eq_true rfl) ?_
  intro p e s m args below meth c Q hQ C hr hlk hW ls hl
  have h00 := hW.1
  have hl : lv_has ls 3 [(0, .ref (gB G + a0)), (1, .int p1)] := hl
  delta fX7_comesIn at hf
  refine lv_aload_n C.1.1 C.1.2.1 dX7_comesIn_0 rfl (lv_at hl 0 rfl) ?_
  have hk1 := sh7_48 hW hk_a0
  refine gf7_48 C hW hk_a0 w_1078 dX7_comesIn_1 ?_
  refine lv_bipush (v := 40) C.1.1 C.1.2.1 dX7_comesIn_4 (by decide) ?_
  refine lv_iload_n C.1.1 C.1.2.1 dX7_comesIn_6 rfl (lv_at hl 1 rfl) ?_
  refine lv_iadd C.1.1 C.1.2.1 dX7_comesIn_7 ?_
  obtain ⟨hv2, hf⟩ := gd hf
  refine wai C hW hk1 (vin_p hv2) dX7_comesIn_8 ?_
  refine lv_iconst (v := 2) C.1.1 C.1.2.1 dX7_comesIn_9 (by decide) ?_
  refine lv_icmp_eq (tgt := 15) C.1.1 C.1.2.1 dX7_comesIn_10 (by decide) (fun h9 => ?_) (fun h9 => ?_)
  · replace hf := (if_pos h9).symm.trans hf
    refine lv_aload_n C.1.1 C.1.2.1 dX7_comesIn_15 rfl (lv_at hl 0 rfl) ?_
    refine lv_iload_n C.1.1 C.1.2.1 dX7_comesIn_16 rfl (lv_at hl 1 rfl) ?_
    obtain ⟨⟨r5, σ4⟩, hc3, hf⟩ := bd hf
    try dsimp only at hf
    refine cVi C hW (mX7_letterOf hk_a0 hc3) hk_a0 kvX7_letterOf w_1479 ⟨(Nat.le_of_ble_eq_true rfl), (Nat.le_of_ble_eq_true rfl)⟩ ⟨Nat.zero_le _, Nat.zero_le _⟩ rfl hl.1 (rest := []) rfl (Nat.le_of_ble_eq_true rfl) dX7_comesIn_17 (fun H locs hn6 hW => ?_)
    refine lv_istore_n (lv' := [(2, .int _), (0, .ref _), (1, .int _)]) C.1.1 C.1.2.1 dX7_comesIn_20 rfl hl (by decide) rfl (fun ls hl => ?_)
    refine lv_iload_n C.1.1 C.1.2.1 dX7_comesIn_21 rfl (lv_at hl 0 rfl) ?_
    refine lv_if_ge (tgt := 27) C.1.1 C.1.2.1 dX7_comesIn_22 (by decide) (fun h9 => ?_) (fun h9 => ?_)
    · replace hf := (if_pos h9).symm.trans hf
      refine lv_aload_n C.1.1 C.1.2.1 dX7_comesIn_27 rfl (lv_at hl 1 rfl) ?_
      have hk8 := sh7_48 hW hk_a0
      refine gf7_48 C hW hk_a0 w_1078 dX7_comesIn_28 ?_
      refine lv_bipush (v := 40) C.1.1 C.1.2.1 dX7_comesIn_31 (by decide) ?_
      refine lv_iload_n C.1.1 C.1.2.1 dX7_comesIn_33 rfl (lv_at hl 2 rfl) ?_
      refine lv_iadd C.1.1 C.1.2.1 dX7_comesIn_34 ?_
      refine lv_iconst (v := 0) C.1.1 C.1.2.1 dX7_comesIn_35 (by decide) ?_
      refine wsi C hW hk8 (vin_p hv2) dX7_comesIn_36 (fun H locs hW => ?_)
      refine lv_aload_n C.1.1 C.1.2.1 dX7_comesIn_37 rfl (lv_at hl 1 rfl) ?_
      have hk10 := sh7_48 hW hk_a0
      refine gf7_48 C hW hk_a0 w_1078 dX7_comesIn_38 ?_
      refine lv_bipush (v := 48) C.1.1 C.1.2.1 dX7_comesIn_41 (by decide) ?_
      refine lv_iload_n C.1.1 C.1.2.1 dX7_comesIn_43 rfl (lv_at hl 2 rfl) ?_
      refine lv_iadd C.1.1 C.1.2.1 dX7_comesIn_44 ?_
      refine lv_iconst (v := 0) C.1.1 C.1.2.1 dX7_comesIn_45 (by decide) ?_
      obtain ⟨hv11, hf⟩ := gd hf
      refine wsi C hW hk10 (vin_p hv11) dX7_comesIn_46 (fun H locs hW => ?_)
      refine lv_aload_n C.1.1 C.1.2.1 dX7_comesIn_47 rfl (lv_at hl 1 rfl) ?_
      have hk13 := sh7_48 hW hk_a0
      refine gf7_48 C hW hk_a0 w_1078 dX7_comesIn_48 ?_
      refine lv_bipush (v := 64) C.1.1 C.1.2.1 dX7_comesIn_51 (by decide) ?_
      refine lv_iload_n C.1.1 C.1.2.1 dX7_comesIn_53 rfl (lv_at hl 2 rfl) ?_
      refine lv_iadd C.1.1 C.1.2.1 dX7_comesIn_54 ?_
      refine lv_iload_n C.1.1 C.1.2.1 dX7_comesIn_55 rfl (lv_at hl 0 rfl) ?_
      obtain ⟨hv14, hf⟩ := gd hf
      refine wsi C hW hk13 (vin_p hv14) dX7_comesIn_56 (fun H locs hW => ?_)
      refine lv_aload_n C.1.1 C.1.2.1 dX7_comesIn_57 rfl (lv_at hl 1 rfl) ?_
      have hk16 := sh7_48 hW hk_a0
      refine gf7_48 C hW hk_a0 w_1078 dX7_comesIn_58 ?_
      refine lv_bipush (v := 86) C.1.1 C.1.2.1 dX7_comesIn_61 (by decide) ?_
      refine lv_dup2_11 C.1.1 C.1.2.1 dX7_comesIn_63 rfl rfl ?_
      refine wai C hW hk16 (vin_p ⟨by decide, by decide⟩) dX7_comesIn_64 ?_
      refine lv_iconst (v := 1) C.1.1 C.1.2.1 dX7_comesIn_65 (by decide) ?_
      refine lv_iadd C.1.1 C.1.2.1 dX7_comesIn_66 ?_
      refine wsi C hW hk16 (vin_p ⟨by decide, by decide⟩) dX7_comesIn_67 (fun H locs hW => ?_)
      refine lv_iload_n C.1.1 C.1.2.1 dX7_comesIn_68 rfl (lv_at hl 0 rfl) ?_
      refine lv_iload_n C.1.1 C.1.2.1 dX7_comesIn_69 rfl (lv_at hl 2 rfl) ?_
      refine lv_icmp_ne (tgt := 92) C.1.1 C.1.2.1 dX7_comesIn_70 (by decide) (fun h9 => ?_) (fun h9 => ?_)
      · replace hf := (if_neg h9).symm.trans hf
        refine lv_iconst (v := 1) C.1.1 C.1.2.1 dX7_comesIn_92 (by decide) ?_
        exact ri hQ C hr hlk hW hf (rok_z (Or.inr rfl)) dX7_comesIn_93
      · replace hf := (if_pos h9).symm.trans hf
        refine lv_aload_n C.1.1 C.1.2.1 dX7_comesIn_73 rfl (lv_at hl 1 rfl) ?_
        refine lv_iload_n C.1.1 C.1.2.1 dX7_comesIn_74 rfl (lv_at hl 2 rfl) ?_
        obtain ⟨⟨r20, σ19⟩, hc18, hf⟩ := bd hf
        try dsimp only at hf
        refine cVi C hW (mX7_hasSpare hk_a0 hc18) hk_a0 kvX7_hasSpare w_1491 ⟨(Nat.le_of_ble_eq_true rfl), (Nat.le_of_ble_eq_true rfl)⟩ ⟨Nat.zero_le _, Nat.zero_le _⟩ rfl hl.1 (rest := []) rfl (Nat.le_of_ble_eq_true rfl) dX7_comesIn_75 (fun H locs hn21 hW => ?_)
        refine lv_if_eq (tgt := 92) C.1.1 C.1.2.1 dX7_comesIn_78 (by decide) (fun h9 => ?_) (fun h9 => ?_)
        · replace hf := (if_pos h9).symm.trans hf
          refine lv_iconst (v := 1) C.1.1 C.1.2.1 dX7_comesIn_92 (by decide) ?_
          exact ri hQ C hr hlk hW hf (rok_z (Or.inr rfl)) dX7_comesIn_93
        · replace hf := (if_neg h9).symm.trans hf
          refine lv_aload_n C.1.1 C.1.2.1 dX7_comesIn_81 rfl (lv_at hl 1 rfl) ?_
          have hk23 := sh7_48 hW hk_a0
          refine gf7_48 C hW hk_a0 w_1078 dX7_comesIn_82 ?_
          refine lv_bipush (v := 87) C.1.1 C.1.2.1 dX7_comesIn_85 (by decide) ?_
          refine lv_dup2_11 C.1.1 C.1.2.1 dX7_comesIn_87 rfl rfl ?_
          refine wai C hW hk23 (vin_p ⟨by decide, by decide⟩) dX7_comesIn_88 ?_
          refine lv_iconst (v := 1) C.1.1 C.1.2.1 dX7_comesIn_89 (by decide) ?_
          refine lv_iadd C.1.1 C.1.2.1 dX7_comesIn_90 ?_
          refine wsi C hW hk23 (vin_p ⟨by decide, by decide⟩) dX7_comesIn_91 (fun H locs hW => ?_)
          refine lv_iconst (v := 1) C.1.1 C.1.2.1 dX7_comesIn_92 (by decide) ?_
          exact ri hQ C hr hlk hW hf (rok_z (Or.inr rfl)) dX7_comesIn_93
    · replace hf := (if_neg h9).symm.trans hf
      refine lv_iconst (v := 0) C.1.1 C.1.2.1 dX7_comesIn_25 (by decide) ?_
      exact ri hQ C hr hlk hW hf (rok_z (Or.inl rfl)) dX7_comesIn_26
  · replace hf := (if_neg h9).symm.trans hf
    refine lv_iconst (v := 0) C.1.1 C.1.2.1 dX7_comesIn_13 (by decide) ?_
    exact ri hQ C hr hlk hW hf (rok_z (Or.inl rfl)) dX7_comesIn_14
theorem kvX7_lettersIn : KV 7 "RightKeysModel" yX7_lettersIn cX7_lettersIn 3 none 0 := ⟨⟨w_1473, w_89, w_116, w_1474⟩, ⟨rfl, by decide, by decide, by decide +kernel⟩, by decide, rfl⟩
noncomputable def jX7_lettersIn_33 (a0 : Nat) (x1 : Int32) (x2 : Int32) (σ : Sg) : Option ((Int32 × Int32 × Sg) ⊕ (Int32 × Sg)) := (let x2_8 := x2 + (1 : Int32); some (Sum.inl (x1, x2_8, σ)))
noncomputable def bX7_lettersIn_10 (a0 : Nat) (x1 : Int32) (x2 : Int32) (σ : Sg) : Option ((Int32 × Int32 × Sg) ⊕ (Int32 × Sg)) := if vin (σ.1 a0 18) 2 then (if (σ.1 (a0 + 9) (((σ.1 a0 18)).toNatClampNeg)) ≤ x2 then (some (Sum.inr (x1, σ))) else ((fX7_comesIn a0 x2 σ).bind (fun q7 => let r5 := q7.1; let σ4 := q7.2; if r5 = 0 then (jX7_lettersIn_33 a0 x1 x2 σ4) else (jX7_lettersIn_33 a0 (1 : Int32) x2 σ4)))) else none
noncomputable def bX7_lettersIn_2 (a0 : Nat) (x1 : Int32) (σ : Sg) : Option ((Int32 × Sg) ⊕ (Sg)) := if x1 = 0 then (some (Sum.inr σ)) else ((lp (fun st => bX7_lettersIn_10 a0 st.1 st.2.1 st.2.2) ((0 : Int32), (0 : Int32), σ)).bind (fun q12 => let y11 := q12.1; let σ10 := q12.2;  some (Sum.inl (y11, σ10))))
noncomputable def fX7_lettersIn (a0 : Nat) (σ : Sg) : Option (Sg) := (lp (fun st => bX7_lettersIn_2 a0 st.1 st.2) ((1 : Int32), σ)).bind (fun σ14 => some σ14)
set_option maxRecDepth 100000 in
set_option maxHeartbeats 4000000 in
theorem mX7_lettersIn {l : Launch} {G : Gm} {a0 : Nat} {σ : Sg} {σ' : Sg} (hk_a0 : gK G a0 = 8) (hf : fX7_lettersIn a0 σ = some σ') : Mv l G yX7_lettersIn cX7_lettersIn 3 5 118 [.ref (gB G + a0)] σ σ' := by
  refine of_W "RightKeysModel" rfl (by decide) (Nat.le_of_ble_eq_true rfl) ?_
  intro p e s m args below meth c Q hQ C hr hlk hW ls hl
  have h00 := hW.1
  have hl : lv_has ls 3 [(0, .ref (gB G + a0))] := hl
  delta fX7_lettersIn at hf
  have L2 : ∀ (n : Nat) (x1 : Int32) (σ : Sg) (H : Heap) (locs : List Loc) (ls : Array Slot) (out : (Sg)), iter (fun st => bX7_lettersIn_2 a0 st.1 st.2) n (x1, σ) = some out → Ws G σ s.heap H locs → lv_has ls 3 [(0, .ref (gB G + a0)), (1, .int x1)] → (∀ (σ : Sg) (H : Heap) (locs : List Loc) (ls : Array Slot), out = σ → Ws G σ s.heap H locs → lv_has ls 3 [] → W p l e (rmOf 5 118) s m args below meth c H locs 0 0 Q (F0 m 42 ls [])) → W p l e (rmOf 5 118) s m args below meth c H locs 0 0 Q (F0 m 2 ls []) := by
    intro n
    induction n with
    | zero =>
      intro x1 σ H locs ls out hf
      exact (it_0 hf).elim
    | succ n ih =>
      intro x1 σ H locs ls out hf hW hl K2_42
      obtain ⟨x, hf, hx⟩ := it_s hf
      have hf : bX7_lettersIn_2 a0 x1 σ = some x := hf
      delta bX7_lettersIn_2 at hf
      have L10 : ∀ (n : Nat) (x1 : Int32) (x2 : Int32) (σ : Sg) (H : Heap) (locs : List Loc) (ls : Array Slot) (out : (Int32 × Sg)), iter (fun st => bX7_lettersIn_10 a0 st.1 st.2.1 st.2.2) n (x1, x2, σ) = some out → Ws G σ s.heap H locs → lv_has ls 3 [(0, .ref (gB G + a0)), (1, .int x1), (2, .int x2)] → (∀ (y1 : Int32) (σ : Sg) (H : Heap) (locs : List Loc) (ls : Array Slot), out = (y1, σ) → Ws G σ s.heap H locs → lv_has ls 3 [(0, .ref (gB G + a0)), (1, .int y1)] → W p l e (rmOf 5 118) s m args below meth c H locs 0 0 Q (F0 m 39 ls [])) → W p l e (rmOf 5 118) s m args below meth c H locs 0 0 Q (F0 m 10 ls []) := by
        intro n
        induction n with
        | zero =>
          intro x1 x2 σ H locs ls out hf
          exact (it_0 hf).elim
        | succ n ih =>
          intro x1 x2 σ H locs ls out hf hW hl K10_39
          obtain ⟨x, hf, hx⟩ := it_s hf
          have hf : bX7_lettersIn_10 a0 x1 x2 σ = some x := hf
          delta bX7_lettersIn_10 at hf
          have J33 : ∀ (x1 : Int32) (x2 : Int32) (σ : Sg) (H : Heap) (locs : List Loc) (ls : Array Slot), jX7_lettersIn_33 a0 x1 x2 σ = some x → Ws G σ s.heap H locs → lv_has ls 3 [(0, .ref (gB G + a0)), (1, .int x1), (2, .int x2)] → W p l e (rmOf 5 118) s m args below meth c H locs 0 0 Q (F0 m 33 ls []) := by
            intro x1 x2 σ H locs ls hf hW hl
            delta jX7_lettersIn_33 at hf
            refine lv_iinc (v := _) (lv' := [(2, .int _), (0, .ref _), (1, .int _)]) C.1.1 C.1.2.1 dX7_lettersIn_33 hl (k := 2) rfl (ii (k := 1) (by decide)) (by decide) rfl (fun ls hl => ?_)
            refine lv_goto (tgt := 10) C.1.1 C.1.2.1 dX7_lettersIn_36 (by decide) ?_
            cases hf
            exact ih _ _ _ _ _ _ _ hx hW (lv_sub hl [1, 2, 0] rfl) K10_39
          refine lv_iload_n C.1.1 C.1.2.1 dX7_lettersIn_10 rfl (lv_at hl 2 rfl) ?_
          refine lv_aload_n C.1.1 C.1.2.1 dX7_lettersIn_11 rfl (lv_at hl 0 rfl) ?_
          have hk1 := sh7_22 hW hk_a0
          refine gf7_22 C hW hk_a0 w_1052 dX7_lettersIn_12 ?_
          refine lv_aload_n C.1.1 C.1.2.1 dX7_lettersIn_15 rfl (lv_at hl 0 rfl) ?_
          refine gf7_18 C hW hk_a0 w_1048 dX7_lettersIn_16 ?_
          obtain ⟨hv2, hf⟩ := gd hf
          refine wai C hW hk1 (vin_p hv2) dX7_lettersIn_19 ?_
          refine lv_icmp_ge (tgt := 39) C.1.1 C.1.2.1 dX7_lettersIn_20 (by decide) (fun h9 => ?_) (fun h9 => ?_)
          · replace hf := (if_pos h9).symm.trans hf
            cases hf
            cases hx
            exact K10_39 _ _ _ _ _ rfl hW (lv_sub hl [0, 1] rfl)
          · replace hf := (if_neg h9).symm.trans hf
            refine lv_aload_n C.1.1 C.1.2.1 dX7_lettersIn_23 rfl (lv_at hl 0 rfl) ?_
            refine lv_iload_n C.1.1 C.1.2.1 dX7_lettersIn_24 rfl (lv_at hl 2 rfl) ?_
            obtain ⟨⟨r5, σ4⟩, hc3, hf⟩ := bd hf
            try dsimp only at hf
            refine cVi C hW (mX7_comesIn hk_a0 hc3) hk_a0 kvX7_comesIn w_1475 ⟨(Nat.le_of_ble_eq_true rfl), (Nat.le_of_ble_eq_true rfl)⟩ ⟨Nat.zero_le _, Nat.zero_le _⟩ rfl hl.1 (rest := []) rfl (Nat.le_of_ble_eq_true rfl) dX7_lettersIn_25 (fun H locs hn6 hW => ?_)
            refine lv_if_eq (tgt := 33) C.1.1 C.1.2.1 dX7_lettersIn_28 (by decide) (fun h9 => ?_) (fun h9 => ?_)
            · replace hf := (if_pos h9).symm.trans hf
              exact J33 _ _ _ _ _ _ hf hW (lv_sub hl [0, 1, 2] rfl)
            · replace hf := (if_neg h9).symm.trans hf
              refine lv_iconst (v := 1) C.1.1 C.1.2.1 dX7_lettersIn_31 (by decide) ?_
              refine lv_istore_n (lv' := [(1, .int _), (0, .ref _), (2, .int _)]) C.1.1 C.1.2.1 dX7_lettersIn_32 rfl hl (by decide) rfl (fun ls hl => ?_)
              exact J33 _ _ _ _ _ _ hf hW (lv_sub hl [1, 0, 2] rfl)
      refine lv_iload_n C.1.1 C.1.2.1 dX7_lettersIn_2 rfl (lv_at hl 1 rfl) ?_
      refine lv_if_eq (tgt := 42) C.1.1 C.1.2.1 dX7_lettersIn_3 (by decide) (fun h9 => ?_) (fun h9 => ?_)
      · replace hf := (if_pos h9).symm.trans hf
        cases hf
        cases hx
        exact K2_42 _ _ _ _ rfl hW (lv_sub hl [] rfl)
      · replace hf := (if_neg h9).symm.trans hf
        refine lv_iconst (v := 0) C.1.1 C.1.2.1 dX7_lettersIn_6 (by decide) ?_
        refine lv_istore_n (lv' := [(1, .int _), (0, .ref _)]) C.1.1 C.1.2.1 dX7_lettersIn_7 rfl hl (by decide) rfl (fun ls hl => ?_)
        refine lv_iconst (v := 0) C.1.1 C.1.2.1 dX7_lettersIn_8 (by decide) ?_
        refine lv_istore_n (lv' := [(2, .int _), (1, .int _), (0, .ref _)]) C.1.1 C.1.2.1 dX7_lettersIn_9 rfl hl (by decide) rfl (fun ls hl => ?_)
        obtain ⟨o9, ho, hf⟩ := bd hf
        obtain ⟨n, ho⟩ := lp_it ho
        refine L10 n _ _ _ _ _ _ o9 ho hW (lv_sub hl [2, 1, 0] rfl) ?_
        intro y11 σ10 H locs ls e9 hW hl
        subst e9
        try dsimp only at hf
        refine lv_goto (tgt := 2) C.1.1 C.1.2.1 dX7_lettersIn_39 (by decide) ?_
        cases hf
        exact ih _ _ _ _ _ _ hx hW (lv_sub hl [0, 1] rfl) K2_42
  refine lv_iconst (v := 1) C.1.1 C.1.2.1 dX7_lettersIn_0 (by decide) ?_
  refine lv_istore_n (lv' := [(1, .int _), (0, .ref _)]) C.1.1 C.1.2.1 dX7_lettersIn_1 rfl hl (by decide) rfl (fun ls hl => ?_)
  obtain ⟨o13, ho, hf⟩ := bd hf
  obtain ⟨n, ho⟩ := lp_it ho
  refine L2 n _ _ _ _ _ o13 ho hW (lv_sub hl [1, 0] rfl) ?_
  intro  σ14 H locs ls e9 hW hl
  subst e9
  try dsimp only at hf
  exact rv hQ C hr hlk hW hf dX7_lettersIn_42
theorem kvX7_sparesGo : KV 7 "RightKeysModel" yX7_sparesGo cX7_sparesGo 2 none 0 := ⟨⟨w_1445, w_83, w_116, w_1446⟩, ⟨rfl, by decide, by decide, by decide +kernel⟩, by decide, rfl⟩
noncomputable def jX7_sparesGo_70 (a0 : Nat) (x1 : Int32) (σ : Sg) : Option ((Int32 × Sg) ⊕ (Sg)) := (let x1_5 := x1 + (1 : Int32); some (Sum.inl (x1_5, σ)))
noncomputable def bX7_sparesGo_2 (a0 : Nat) (x1 : Int32) (σ : Sg) : Option ((Int32 × Sg) ⊕ (Sg)) := if vin (σ.1 a0 18) 2 then (if (σ.1 (a0 + 14) (((σ.1 a0 18)).toNatClampNeg)) ≤ x1 then (some (Sum.inr σ)) else (if vin ((78 : Int32) + x1) 88 then (if (σ.1 (a0 + 31) ((((78 : Int32) + x1)).toNatClampNeg)) < 0 then (jX7_sparesGo_70 a0 x1 σ) else (if vin ((72 : Int32) + x1) 88 then (if (σ.1 (a0 + 31) ((((78 : Int32) + x1)).toNatClampNeg)) = (σ.1 (a0 + 31) ((((72 : Int32) + x1)).toNatClampNeg)) then (jX7_sparesGo_70 a0 x1 σ) else ((fX7_rightOf a0 (σ.1 (a0 + 31) ((((72 : Int32) + x1)).toNatClampNeg)) σ).bind (fun q15 => let r13 := q15.1; let σ12 := q15.2; (let σ16 := wI σ12 (a0 + 31) ((((72 : Int32) + x1)).toNatClampNeg) r13; jX7_sparesGo_70 a0 x1 σ16)))) else none)) else none)) else none
noncomputable def fX7_sparesGo (a0 : Nat) (σ : Sg) : Option (Sg) := (lp (fun st => bX7_sparesGo_2 a0 st.1 st.2) ((0 : Int32), σ)).bind (fun σ18 => some σ18)
set_option maxRecDepth 100000 in
set_option maxHeartbeats 4000000 in
theorem mX7_sparesGo {l : Launch} {G : Gm} {a0 : Nat} {σ : Sg} {σ' : Sg} (hk_a0 : gK G a0 = 8) (hf : fX7_sparesGo a0 σ = some σ') : Mv l G yX7_sparesGo cX7_sparesGo 2 1 21 [.ref (gB G + a0)] σ σ' := by
  refine of_W "RightKeysModel" rfl (by decide) (Nat.le_of_ble_eq_true rfl) ?_
  intro p e s m args below meth c Q hQ C hr hlk hW ls hl
  have h00 := hW.1
  have hl : lv_has ls 2 [(0, .ref (gB G + a0))] := hl
  delta fX7_sparesGo at hf
  have L2 : ∀ (n : Nat) (x1 : Int32) (σ : Sg) (H : Heap) (locs : List Loc) (ls : Array Slot) (out : (Sg)), iter (fun st => bX7_sparesGo_2 a0 st.1 st.2) n (x1, σ) = some out → Ws G σ s.heap H locs → lv_has ls 2 [(0, .ref (gB G + a0)), (1, .int x1)] → (∀ (σ : Sg) (H : Heap) (locs : List Loc) (ls : Array Slot), out = σ → Ws G σ s.heap H locs → lv_has ls 2 [] → W p l e (rmOf 1 21) s m args below meth c H locs 0 0 Q (F0 m 76 ls [])) → W p l e (rmOf 1 21) s m args below meth c H locs 0 0 Q (F0 m 2 ls []) := by
    intro n
    induction n with
    | zero =>
      intro x1 σ H locs ls out hf
      exact (it_0 hf).elim
    | succ n ih =>
      intro x1 σ H locs ls out hf hW hl K2_76
      obtain ⟨x, hf, hx⟩ := it_s hf
      have hf : bX7_sparesGo_2 a0 x1 σ = some x := hf
      delta bX7_sparesGo_2 at hf
      have J70 : ∀ (x1 : Int32) (σ : Sg) (H : Heap) (locs : List Loc) (ls : Array Slot), jX7_sparesGo_70 a0 x1 σ = some x → Ws G σ s.heap H locs → lv_has ls 2 [(0, .ref (gB G + a0)), (1, .int x1)] → W p l e (rmOf 1 21) s m args below meth c H locs 0 0 Q (F0 m 70 ls []) := by
        intro x1 σ H locs ls hf hW hl
        delta jX7_sparesGo_70 at hf
        refine lv_iinc (v := _) (lv' := [(1, .int _), (0, .ref _)]) C.1.1 C.1.2.1 dX7_sparesGo_70 hl (k := 1) rfl (ii (k := 1) (by decide)) (by decide) rfl (fun ls hl => ?_)
        refine lv_goto (tgt := 2) C.1.1 C.1.2.1 dX7_sparesGo_73 (by decide) ?_
        cases hf
        exact ih _ _ _ _ _ _ hx hW (lv_sub hl [1, 0] rfl) K2_76
      refine lv_iload_n C.1.1 C.1.2.1 dX7_sparesGo_2 rfl (lv_at hl 1 rfl) ?_
      refine lv_aload_n C.1.1 C.1.2.1 dX7_sparesGo_3 rfl (lv_at hl 0 rfl) ?_
      have hk1 := sh7_27 hW hk_a0
      refine gf7_27 C hW hk_a0 w_1057 dX7_sparesGo_4 ?_
      refine lv_aload_n C.1.1 C.1.2.1 dX7_sparesGo_7 rfl (lv_at hl 0 rfl) ?_
      refine gf7_18 C hW hk_a0 w_1048 dX7_sparesGo_8 ?_
      obtain ⟨hv2, hf⟩ := gd hf
      refine wai C hW hk1 (vin_p hv2) dX7_sparesGo_11 ?_
      refine lv_icmp_ge (tgt := 76) C.1.1 C.1.2.1 dX7_sparesGo_12 (by decide) (fun h9 => ?_) (fun h9 => ?_)
      · replace hf := (if_pos h9).symm.trans hf
        cases hf
        cases hx
        exact K2_76 _ _ _ _ rfl hW (lv_sub hl [] rfl)
      · replace hf := (if_neg h9).symm.trans hf
        refine lv_aload_n C.1.1 C.1.2.1 dX7_sparesGo_15 rfl (lv_at hl 0 rfl) ?_
        have hk3 := sh7_48 hW hk_a0
        refine gf7_48 C hW hk_a0 w_1078 dX7_sparesGo_16 ?_
        refine lv_bipush (v := 78) C.1.1 C.1.2.1 dX7_sparesGo_19 (by decide) ?_
        refine lv_iload_n C.1.1 C.1.2.1 dX7_sparesGo_21 rfl (lv_at hl 1 rfl) ?_
        refine lv_iadd C.1.1 C.1.2.1 dX7_sparesGo_22 ?_
        obtain ⟨hv4, hf⟩ := gd hf
        refine wai C hW hk3 (vin_p hv4) dX7_sparesGo_23 ?_
        refine lv_if_lt (tgt := 70) C.1.1 C.1.2.1 dX7_sparesGo_24 (by decide) (fun h9 => ?_) (fun h9 => ?_)
        · replace hf := (if_pos h9).symm.trans hf
          exact J70 _ _ _ _ _ hf hW (lv_sub hl [0, 1] rfl)
        · replace hf := (if_neg h9).symm.trans hf
          refine lv_aload_n C.1.1 C.1.2.1 dX7_sparesGo_27 rfl (lv_at hl 0 rfl) ?_
          have hk6 := sh7_48 hW hk_a0
          refine gf7_48 C hW hk_a0 w_1078 dX7_sparesGo_28 ?_
          refine lv_bipush (v := 78) C.1.1 C.1.2.1 dX7_sparesGo_31 (by decide) ?_
          refine lv_iload_n C.1.1 C.1.2.1 dX7_sparesGo_33 rfl (lv_at hl 1 rfl) ?_
          refine lv_iadd C.1.1 C.1.2.1 dX7_sparesGo_34 ?_
          refine wai C hW hk6 (vin_p hv4) dX7_sparesGo_35 ?_
          refine lv_aload_n C.1.1 C.1.2.1 dX7_sparesGo_36 rfl (lv_at hl 0 rfl) ?_
          have hk7 := sh7_48 hW hk_a0
          refine gf7_48 C hW hk_a0 w_1078 dX7_sparesGo_37 ?_
          refine lv_bipush (v := 72) C.1.1 C.1.2.1 dX7_sparesGo_40 (by decide) ?_
          refine lv_iload_n C.1.1 C.1.2.1 dX7_sparesGo_42 rfl (lv_at hl 1 rfl) ?_
          refine lv_iadd C.1.1 C.1.2.1 dX7_sparesGo_43 ?_
          obtain ⟨hv8, hf⟩ := gd hf
          refine wai C hW hk7 (vin_p hv8) dX7_sparesGo_44 ?_
          refine lv_icmp_eq (tgt := 70) C.1.1 C.1.2.1 dX7_sparesGo_45 (by decide) (fun h9 => ?_) (fun h9 => ?_)
          · replace hf := (if_pos h9).symm.trans hf
            exact J70 _ _ _ _ _ hf hW (lv_sub hl [0, 1] rfl)
          · replace hf := (if_neg h9).symm.trans hf
            refine lv_aload_n C.1.1 C.1.2.1 dX7_sparesGo_48 rfl (lv_at hl 0 rfl) ?_
            have hk9 := sh7_48 hW hk_a0
            refine gf7_48 C hW hk_a0 w_1078 dX7_sparesGo_49 ?_
            refine lv_bipush (v := 72) C.1.1 C.1.2.1 dX7_sparesGo_52 (by decide) ?_
            refine lv_iload_n C.1.1 C.1.2.1 dX7_sparesGo_54 rfl (lv_at hl 1 rfl) ?_
            refine lv_iadd C.1.1 C.1.2.1 dX7_sparesGo_55 ?_
            refine lv_aload_n C.1.1 C.1.2.1 dX7_sparesGo_56 rfl (lv_at hl 0 rfl) ?_
            refine lv_aload_n C.1.1 C.1.2.1 dX7_sparesGo_57 rfl (lv_at hl 0 rfl) ?_
            have hk10 := sh7_48 hW hk_a0
            refine gf7_48 C hW hk_a0 w_1078 dX7_sparesGo_58 ?_
            refine lv_bipush (v := 72) C.1.1 C.1.2.1 dX7_sparesGo_61 (by decide) ?_
            refine lv_iload_n C.1.1 C.1.2.1 dX7_sparesGo_63 rfl (lv_at hl 1 rfl) ?_
            refine lv_iadd C.1.1 C.1.2.1 dX7_sparesGo_64 ?_
            refine wai C hW hk10 (vin_p hv8) dX7_sparesGo_65 ?_
            obtain ⟨⟨r13, σ12⟩, hc11, hf⟩ := bd hf
            try dsimp only at hf
            refine cVi C hW (mX7_rightOf hk_a0 hc11) hk_a0 kvX7_rightOf w_1447 ⟨(Nat.le_of_ble_eq_true rfl), (Nat.le_of_ble_eq_true rfl)⟩ ⟨Nat.zero_le _, Nat.zero_le _⟩ rfl hl.1 (rest := [.int _, .ref _]) rfl (Nat.le_of_ble_eq_true rfl) dX7_sparesGo_66 (fun H locs hn14 hW => ?_)
            refine wsi C hW hk9 (vin_p hv8) dX7_sparesGo_69 (fun H locs hW => ?_)
            exact J70 _ _ _ _ _ hf hW (lv_sub hl [0, 1] rfl)
  refine lv_iconst (v := 0) C.1.1 C.1.2.1 dX7_sparesGo_0 (by decide) ?_
  refine lv_istore_n (lv' := [(1, .int _), (0, .ref _)]) C.1.1 C.1.2.1 dX7_sparesGo_1 rfl hl (by decide) rfl (fun ls hl => ?_)
  obtain ⟨o17, ho, hf⟩ := bd hf
  obtain ⟨n, ho⟩ := lp_it ho
  refine L2 n _ _ _ _ _ o17 ho hW (lv_sub hl [1, 0] rfl) ?_
  intro  σ18 H locs ls e9 hW hl
  subst e9
  try dsimp only at hf
  exact rv hQ C hr hlk hW hf dX7_sparesGo_76
theorem kvX7_theyGo : KV 7 "RightKeysModel" yX7_theyGo cX7_theyGo 3 none 1 := ⟨⟨w_1453, w_85, w_116, w_1454⟩, ⟨rfl, by decide, by decide, by decide +kernel⟩, by decide, rfl⟩
noncomputable def jX7_theyGo_93 (a0 : Nat) (p1 : Int32) (x2 : Int32) (σ : Sg) : Option ((Int32 × Sg) ⊕ (Sg)) := (let x2_16 := x2 + (1 : Int32); some (Sum.inl (x2_16, σ)))
noncomputable def jX7_theyGo_60 (a0 : Nat) (p1 : Int32) (x2 : Int32) (s0 : Nat) (s1 : Int32) (s2 : Int32) (σ : Sg) : Option ((Int32 × Sg) ⊕ (Sg)) := if vin s1 8 then (let σ7 := wI σ s0 ((s1).toNatClampNeg) (vp_nar .boolean s2); if vin x2 8 then (if (σ7.1 (a0 + 32) ((x2).toNatClampNeg)) = 0 then (jX7_theyGo_93 a0 p1 x2 σ7) else (if vin ((40 : Int32) + x2) 88 then (let σ12 := wI σ7 (a0 + 31) ((((40 : Int32) + x2)).toNatClampNeg) (1 : Int32); if vin ((48 : Int32) + x2) 88 then (let σ15 := wI σ12 (a0 + 31) ((((48 : Int32) + x2)).toNatClampNeg) (0 : Int32); jX7_theyGo_93 a0 p1 x2 σ15) else none) else none)) else none) else none
noncomputable def jX7_theyGo_59 (a0 : Nat) (p1 : Int32) (x2 : Int32) (s0 : Nat) (s1 : Int32) (σ : Sg) : Option ((Int32 × Sg) ⊕ (Sg)) := jX7_theyGo_60 a0 p1 x2 s0 s1 (0 : Int32) σ
noncomputable def bX7_theyGo_2 (a0 : Nat) (p1 : Int32) (x2 : Int32) (σ : Sg) : Option ((Int32 × Sg) ⊕ (Sg)) := if vin (σ.1 a0 18) 2 then (if (σ.1 (a0 + 9) (((σ.1 a0 18)).toNatClampNeg)) ≤ x2 then (some (Sum.inr σ)) else (if vin x2 88 then (if (σ.1 (a0 + 31) ((x2).toNatClampNeg)) = p1 then (if vin ((40 : Int32) + x2) 88 then (if (σ.1 (a0 + 31) ((((40 : Int32) + x2)).toNatClampNeg)) = (1 : Int32) then (jX7_theyGo_59 a0 p1 x2 (a0 + 32) x2 σ) else (if vin ((32 : Int32) + x2) 88 then (if (σ.1 (a0 + 31) ((((32 : Int32) + x2)).toNatClampNeg)) = 0 then (jX7_theyGo_60 a0 p1 x2 (a0 + 32) x2 (1 : Int32) σ) else (jX7_theyGo_59 a0 p1 x2 (a0 + 32) x2 σ)) else none)) else none) else (jX7_theyGo_59 a0 p1 x2 (a0 + 32) x2 σ)) else none)) else none
noncomputable def fX7_theyGo (a0 : Nat) (p1 : Int32) (σ : Sg) : Option (Sg) := (lp (fun st => bX7_theyGo_2 a0 p1 st.1 st.2) ((0 : Int32), σ)).bind (fun σ22 => some σ22)
set_option maxRecDepth 100000 in
set_option maxHeartbeats 4000000 in
theorem mX7_theyGo {l : Launch} {G : Gm} {a0 : Nat} {p1 : Int32} {σ : Sg} {σ' : Sg} (hk_a0 : gK G a0 = 8) (hf : fX7_theyGo a0 p1 σ = some σ') : Mv l G yX7_theyGo cX7_theyGo 3 0 0 [.ref (gB G + a0), .int p1] σ σ' := by
  refine of_W "RightKeysModel" rfl (by decide) (Nat.le_of_ble_eq_true rfl) ?_
  intro p e s m args below meth c Q hQ C hr hlk hW ls hl
  have h00 := hW.1
  have hl : lv_has ls 3 [(0, .ref (gB G + a0)), (1, .int p1)] := hl
  delta fX7_theyGo at hf
  have L2 : ∀ (n : Nat) (x2 : Int32) (σ : Sg) (H : Heap) (locs : List Loc) (ls : Array Slot) (out : (Sg)), iter (fun st => bX7_theyGo_2 a0 p1 st.1 st.2) n (x2, σ) = some out → Ws G σ s.heap H locs → lv_has ls 3 [(0, .ref (gB G + a0)), (1, .int p1), (2, .int x2)] → (∀ (σ : Sg) (H : Heap) (locs : List Loc) (ls : Array Slot), out = σ → Ws G σ s.heap H locs → lv_has ls 3 [] → W p l e (rmOf 0 0) s m args below meth c H locs 0 0 Q (F0 m 99 ls [])) → W p l e (rmOf 0 0) s m args below meth c H locs 0 0 Q (F0 m 2 ls []) := by
    intro n
    induction n with
    | zero =>
      intro x2 σ H locs ls out hf
      exact (it_0 hf).elim
    | succ n ih =>
      intro x2 σ H locs ls out hf hW hl K2_99
      obtain ⟨x, hf, hx⟩ := it_s hf
      have hf : bX7_theyGo_2 a0 p1 x2 σ = some x := hf
      delta bX7_theyGo_2 at hf
      have J93 : ∀ (x2 : Int32) (σ : Sg) (H : Heap) (locs : List Loc) (ls : Array Slot), jX7_theyGo_93 a0 p1 x2 σ = some x → Ws G σ s.heap H locs → lv_has ls 3 [(0, .ref (gB G + a0)), (1, .int p1), (2, .int x2)] → W p l e (rmOf 0 0) s m args below meth c H locs 0 0 Q (F0 m 93 ls []) := by
        intro x2 σ H locs ls hf hW hl
        delta jX7_theyGo_93 at hf
        refine lv_iinc (v := _) (lv' := [(2, .int _), (0, .ref _), (1, .int _)]) C.1.1 C.1.2.1 dX7_theyGo_93 hl (k := 2) rfl (ii (k := 1) (by decide)) (by decide) rfl (fun ls hl => ?_)
        refine lv_goto (tgt := 2) C.1.1 C.1.2.1 dX7_theyGo_96 (by decide) ?_
        cases hf
        exact ih _ _ _ _ _ _ hx hW (lv_sub hl [1, 2, 0] rfl) K2_99
      have J60 : ∀ (x2 : Int32) (s0 : Nat) (s1 : Int32) (s2 : Int32) (σ : Sg) (H : Heap) (locs : List Loc) (ls : Array Slot) (hk_s0 : gK G s0 = kA 3 8), jX7_theyGo_60 a0 p1 x2 s0 s1 s2 σ = some x → Ws G σ s.heap H locs → lv_has ls 3 [(0, .ref (gB G + a0)), (1, .int p1), (2, .int x2)] → W p l e (rmOf 0 0) s m args below meth c H locs 0 0 Q (F0 m 60 ls [.int s2, .int s1, .ref (gB G + s0)]) := by
        intro x2 s0 s1 s2 σ H locs ls hk_s0 hf hW hl
        delta jX7_theyGo_60 at hf
        obtain ⟨hv6, hf⟩ := gd hf
        refine wsz C hW hk_s0 (vin_p hv6) dX7_theyGo_60 (fun H locs hW => ?_)
        refine lv_aload_n C.1.1 C.1.2.1 dX7_theyGo_61 rfl (lv_at hl 0 rfl) ?_
        have hk8 := sh7_52 hW hk_a0
        refine gf7_52 C hW hk_a0 w_1082 dX7_theyGo_62 ?_
        refine lv_iload_n C.1.1 C.1.2.1 dX7_theyGo_65 rfl (lv_at hl 2 rfl) ?_
        obtain ⟨hv9, hf⟩ := gd hf
        refine waz C hW hk8 (vin_p hv9) dX7_theyGo_66 ?_
        refine lv_if_ne (tgt := 73) C.1.1 C.1.2.1 dX7_theyGo_67 (by decide) (fun h9 => ?_) (fun h9 => ?_)
        · replace hf := (if_neg h9).symm.trans hf
          refine lv_aload_n C.1.1 C.1.2.1 dX7_theyGo_73 rfl (lv_at hl 0 rfl) ?_
          have hk10 := sh7_48 hW hk_a0
          refine gf7_48 C hW hk_a0 w_1078 dX7_theyGo_74 ?_
          refine lv_bipush (v := 40) C.1.1 C.1.2.1 dX7_theyGo_77 (by decide) ?_
          refine lv_iload_n C.1.1 C.1.2.1 dX7_theyGo_79 rfl (lv_at hl 2 rfl) ?_
          refine lv_iadd C.1.1 C.1.2.1 dX7_theyGo_80 ?_
          refine lv_iconst (v := 1) C.1.1 C.1.2.1 dX7_theyGo_81 (by decide) ?_
          obtain ⟨hv11, hf⟩ := gd hf
          refine wsi C hW hk10 (vin_p hv11) dX7_theyGo_82 (fun H locs hW => ?_)
          refine lv_aload_n C.1.1 C.1.2.1 dX7_theyGo_83 rfl (lv_at hl 0 rfl) ?_
          have hk13 := sh7_48 hW hk_a0
          refine gf7_48 C hW hk_a0 w_1078 dX7_theyGo_84 ?_
          refine lv_bipush (v := 48) C.1.1 C.1.2.1 dX7_theyGo_87 (by decide) ?_
          refine lv_iload_n C.1.1 C.1.2.1 dX7_theyGo_89 rfl (lv_at hl 2 rfl) ?_
          refine lv_iadd C.1.1 C.1.2.1 dX7_theyGo_90 ?_
          refine lv_iconst (v := 0) C.1.1 C.1.2.1 dX7_theyGo_91 (by decide) ?_
          obtain ⟨hv14, hf⟩ := gd hf
          refine wsi C hW hk13 (vin_p hv14) dX7_theyGo_92 (fun H locs hW => ?_)
          exact J93 _ _ _ _ _ hf hW (lv_sub hl [0, 1, 2] rfl)
        · replace hf := (if_pos h9).symm.trans hf
          refine lv_goto (tgt := 93) C.1.1 C.1.2.1 dX7_theyGo_70 (by decide) ?_
          exact J93 _ _ _ _ _ hf hW (lv_sub hl [0, 1, 2] rfl)
      have J59 : ∀ (x2 : Int32) (s0 : Nat) (s1 : Int32) (σ : Sg) (H : Heap) (locs : List Loc) (ls : Array Slot) (hk_s0 : gK G s0 = kA 3 8), jX7_theyGo_59 a0 p1 x2 s0 s1 σ = some x → Ws G σ s.heap H locs → lv_has ls 3 [(0, .ref (gB G + a0)), (1, .int p1), (2, .int x2)] → W p l e (rmOf 0 0) s m args below meth c H locs 0 0 Q (F0 m 59 ls [.int s1, .ref (gB G + s0)]) := by
        intro x2 s0 s1 σ H locs ls hk_s0 hf hW hl
        delta jX7_theyGo_59 at hf
        refine lv_iconst (v := 0) C.1.1 C.1.2.1 dX7_theyGo_59 (by decide) ?_
        exact J60 _ _ _ _ _ _ _ _ hk_s0 hf hW (lv_sub hl [0, 1, 2] rfl)
      refine lv_iload_n C.1.1 C.1.2.1 dX7_theyGo_2 rfl (lv_at hl 2 rfl) ?_
      refine lv_aload_n C.1.1 C.1.2.1 dX7_theyGo_3 rfl (lv_at hl 0 rfl) ?_
      have hk1 := sh7_22 hW hk_a0
      refine gf7_22 C hW hk_a0 w_1052 dX7_theyGo_4 ?_
      refine lv_aload_n C.1.1 C.1.2.1 dX7_theyGo_7 rfl (lv_at hl 0 rfl) ?_
      refine gf7_18 C hW hk_a0 w_1048 dX7_theyGo_8 ?_
      obtain ⟨hv2, hf⟩ := gd hf
      refine wai C hW hk1 (vin_p hv2) dX7_theyGo_11 ?_
      refine lv_icmp_ge (tgt := 99) C.1.1 C.1.2.1 dX7_theyGo_12 (by decide) (fun h9 => ?_) (fun h9 => ?_)
      · replace hf := (if_pos h9).symm.trans hf
        cases hf
        cases hx
        exact K2_99 _ _ _ _ rfl hW (lv_sub hl [] rfl)
      · replace hf := (if_neg h9).symm.trans hf
        refine lv_aload_n C.1.1 C.1.2.1 dX7_theyGo_15 rfl (lv_at hl 0 rfl) ?_
        have hk3 := sh7_52 hW hk_a0
        refine gf7_52 C hW hk_a0 w_1082 dX7_theyGo_16 ?_
        refine lv_iload_n C.1.1 C.1.2.1 dX7_theyGo_19 rfl (lv_at hl 2 rfl) ?_
        refine lv_aload_n C.1.1 C.1.2.1 dX7_theyGo_20 rfl (lv_at hl 0 rfl) ?_
        have hk4 := sh7_48 hW hk_a0
        refine gf7_48 C hW hk_a0 w_1078 dX7_theyGo_21 ?_
        refine lv_iload_n C.1.1 C.1.2.1 dX7_theyGo_24 rfl (lv_at hl 2 rfl) ?_
        obtain ⟨hv5, hf⟩ := gd hf
        refine wai C hW hk4 (vin_p hv5) dX7_theyGo_25 ?_
        refine lv_iload_n C.1.1 C.1.2.1 dX7_theyGo_26 rfl (lv_at hl 1 rfl) ?_
        refine lv_icmp_ne (tgt := 59) C.1.1 C.1.2.1 dX7_theyGo_27 (by decide) (fun h9 => ?_) (fun h9 => ?_)
        · replace hf := (if_neg h9).symm.trans hf
          exact J59 _ _ _ _ _ _ _ hk3 hf hW (lv_sub hl [0, 1, 2] rfl)
        · replace hf := (if_pos h9).symm.trans hf
          refine lv_aload_n C.1.1 C.1.2.1 dX7_theyGo_30 rfl (lv_at hl 0 rfl) ?_
          have hk17 := sh7_48 hW hk_a0
          refine gf7_48 C hW hk_a0 w_1078 dX7_theyGo_31 ?_
          refine lv_bipush (v := 40) C.1.1 C.1.2.1 dX7_theyGo_34 (by decide) ?_
          refine lv_iload_n C.1.1 C.1.2.1 dX7_theyGo_36 rfl (lv_at hl 2 rfl) ?_
          refine lv_iadd C.1.1 C.1.2.1 dX7_theyGo_37 ?_
          obtain ⟨hv18, hf⟩ := gd hf
          refine wai C hW hk17 (vin_p hv18) dX7_theyGo_38 ?_
          refine lv_iconst (v := 1) C.1.1 C.1.2.1 dX7_theyGo_39 (by decide) ?_
          refine lv_icmp_eq (tgt := 59) C.1.1 C.1.2.1 dX7_theyGo_40 (by decide) (fun h9 => ?_) (fun h9 => ?_)
          · replace hf := (if_pos h9).symm.trans hf
            exact J59 _ _ _ _ _ _ _ hk3 hf hW (lv_sub hl [0, 1, 2] rfl)
          · replace hf := (if_neg h9).symm.trans hf
            refine lv_aload_n C.1.1 C.1.2.1 dX7_theyGo_43 rfl (lv_at hl 0 rfl) ?_
            have hk19 := sh7_48 hW hk_a0
            refine gf7_48 C hW hk_a0 w_1078 dX7_theyGo_44 ?_
            refine lv_bipush (v := 32) C.1.1 C.1.2.1 dX7_theyGo_47 (by decide) ?_
            refine lv_iload_n C.1.1 C.1.2.1 dX7_theyGo_49 rfl (lv_at hl 2 rfl) ?_
            refine lv_iadd C.1.1 C.1.2.1 dX7_theyGo_50 ?_
            obtain ⟨hv20, hf⟩ := gd hf
            refine wai C hW hk19 (vin_p hv20) dX7_theyGo_51 ?_
            refine lv_if_ne (tgt := 59) C.1.1 C.1.2.1 dX7_theyGo_52 (by decide) (fun h9 => ?_) (fun h9 => ?_)
            · replace hf := (if_neg h9).symm.trans hf
              exact J59 _ _ _ _ _ _ _ hk3 hf hW (lv_sub hl [0, 1, 2] rfl)
            · replace hf := (if_pos h9).symm.trans hf
              refine lv_iconst (v := 1) C.1.1 C.1.2.1 dX7_theyGo_55 (by decide) ?_
              refine lv_goto (tgt := 60) C.1.1 C.1.2.1 dX7_theyGo_56 (by decide) ?_
              exact J60 _ _ _ _ _ _ _ _ hk3 hf hW (lv_sub hl [0, 1, 2] rfl)
  refine lv_iconst (v := 0) C.1.1 C.1.2.1 dX7_theyGo_0 (by decide) ?_
  refine lv_istore_n (lv' := [(2, .int _), (0, .ref _), (1, .int _)]) C.1.1 C.1.2.1 dX7_theyGo_1 rfl hl (by decide) rfl (fun ls hl => ?_)
  obtain ⟨o21, ho, hf⟩ := bd hf
  obtain ⟨n, ho⟩ := lp_it ho
  refine L2 n _ _ _ _ _ o21 ho hW (lv_sub hl [1, 2, 0] rfl) ?_
  intro  σ22 H locs ls e9 hW hl
  subst e9
  try dsimp only at hf
  exact rv hQ C hr hlk hW hf dX7_theyGo_99
theorem kvX7_theyCome : KV 7 "RightKeysModel" yX7_theyCome cX7_theyCome 4 none 1 := ⟨⟨w_1457, w_86, w_116, w_1458⟩, ⟨rfl, by decide, by decide, by decide +kernel⟩, by decide, rfl⟩
noncomputable def jX7_theyCome_152 (a0 : Nat) (p1 : Int32) (x2 : Int32) (σ : Sg) : Option ((Int32 × Sg) ⊕ (Sg)) := (let x2_10 := x2 + (1 : Int32); some (Sum.inl (x2_10, σ)))
noncomputable def jX7_theyCome_142 (a0 : Nat) (p1 : Int32) (x2 : Int32) (σ : Sg) : Option ((Int32 × Sg) ⊕ (Sg)) := if vin ((40 : Int32) + x2) 88 then (let σ17 := wI σ (a0 + 31) ((((40 : Int32) + x2)).toNatClampNeg) (2 : Int32); jX7_theyCome_152 a0 p1 x2 σ17) else none
noncomputable def jX7_theyCome_94 (a0 : Nat) (p1 : Int32) (x2 : Int32) (x3 : Int32) (σ : Sg) : Option ((Int32 × Sg) ⊕ (Sg)) := if x3 = 0 then (if (σ.1 a0 50) = 0 then ((fX7_lotOf a0 (((32 : Int32) * (σ.1 (a0 + 31) 84)) + x2) σ).bind (fun q23 => let r21 := q23.1; let σ20 := q23.2; (fX7_lateOf a0 x2 σ20).bind (fun q28 => let r26 := q28.1; let σ25 := q28.2; if r26 ≤ r21 then (jX7_theyCome_142 a0 p1 x2 σ25) else (if vin ((56 : Int32) + x2) 88 then (let σ31 := wI σ25 (a0 + 31) ((((56 : Int32) + x2)).toNatClampNeg) (1 : Int32); jX7_theyCome_152 a0 p1 x2 σ31) else none)))) else (jX7_theyCome_142 a0 p1 x2 σ)) else (jX7_theyCome_142 a0 p1 x2 σ)
noncomputable def jX7_theyCome_33 (a0 : Nat) (p1 : Int32) (x2 : Int32) (s0 : Int32) (σ : Sg) : Option ((Int32 × Sg) ⊕ (Sg)) := if vin ((56 : Int32) + x2) 88 then (let σ7 := wI σ (a0 + 31) ((((56 : Int32) + x2)).toNatClampNeg) (0 : Int32); if vin ((40 : Int32) + x2) 88 then (if (σ7.1 (a0 + 31) ((((40 : Int32) + x2)).toNatClampNeg)) = (1 : Int32) then (if vin x2 8 then (if (σ7.1 (a0 + 32) ((x2).toNatClampNeg)) = 0 then (if x2 = (σ7.1 a0 51) then (jX7_theyCome_152 a0 p1 x2 σ7) else (if vin ((8 : Int32) + x2) 88 then (if (σ7.1 (a0 + 31) ((((8 : Int32) + x2)).toNatClampNeg)) = p1 then (jX7_theyCome_94 a0 p1 x2 s0 σ7) else (if s0 = 0 then (jX7_theyCome_152 a0 p1 x2 σ7) else (jX7_theyCome_94 a0 p1 x2 s0 σ7))) else none)) else (jX7_theyCome_152 a0 p1 x2 σ7)) else none) else (jX7_theyCome_152 a0 p1 x2 σ7)) else none) else none
noncomputable def bX7_theyCome_2 (a0 : Nat) (p1 : Int32) (x2 : Int32) (σ : Sg) : Option ((Int32 × Sg) ⊕ (Sg)) := if vin (σ.1 a0 18) 2 then (if (σ.1 (a0 + 9) (((σ.1 a0 18)).toNatClampNeg)) ≤ x2 then (some (Sum.inr σ)) else (if vin ((56 : Int32) + x2) 88 then (if (σ.1 (a0 + 31) ((((56 : Int32) + x2)).toNatClampNeg)) = (1 : Int32) then (jX7_theyCome_33 a0 p1 x2 (1 : Int32) σ) else (jX7_theyCome_33 a0 p1 x2 (0 : Int32) σ)) else none)) else none
noncomputable def fX7_theyCome (a0 : Nat) (p1 : Int32) (σ : Sg) : Option (Sg) := (lp (fun st => bX7_theyCome_2 a0 p1 st.1 st.2) ((0 : Int32), σ)).bind (fun σ33 => some σ33)
set_option maxRecDepth 100000 in
set_option maxHeartbeats 4000000 in
theorem mX7_theyCome {l : Launch} {G : Gm} {a0 : Nat} {p1 : Int32} {σ : Sg} {σ' : Sg} (hk_a0 : gK G a0 = 8) (hf : fX7_theyCome a0 p1 σ = some σ') : Mv l G yX7_theyCome cX7_theyCome 4 3 74 [.ref (gB G + a0), .int p1] σ σ' := by
  refine of_W "RightKeysModel" rfl (by decide) (Nat.le_of_ble_eq_true rfl) ?_
  intro p e s m args below meth c Q hQ C hr hlk hW ls hl
  have h00 := hW.1
  have hl : lv_has ls 4 [(0, .ref (gB G + a0)), (1, .int p1)] := hl
  delta fX7_theyCome at hf
  have L2 : ∀ (n : Nat) (x2 : Int32) (σ : Sg) (H : Heap) (locs : List Loc) (ls : Array Slot) (out : (Sg)), iter (fun st => bX7_theyCome_2 a0 p1 st.1 st.2) n (x2, σ) = some out → Ws G σ s.heap H locs → lv_has ls 4 [(0, .ref (gB G + a0)), (1, .int p1), (2, .int x2)] → (∀ (σ : Sg) (H : Heap) (locs : List Loc) (ls : Array Slot), out = σ → Ws G σ s.heap H locs → lv_has ls 4 [] → W p l e (rmOf 3 74) s m args below meth c H locs 0 0 Q (F0 m 158 ls [])) → W p l e (rmOf 3 74) s m args below meth c H locs 0 0 Q (F0 m 2 ls []) := by
    intro n
    induction n with
    | zero =>
      intro x2 σ H locs ls out hf
      exact (it_0 hf).elim
    | succ n ih =>
      intro x2 σ H locs ls out hf hW hl K2_158
      obtain ⟨x, hf, hx⟩ := it_s hf
      have hf : bX7_theyCome_2 a0 p1 x2 σ = some x := hf
      delta bX7_theyCome_2 at hf
      have J152 : ∀ (x2 : Int32) (σ : Sg) (H : Heap) (locs : List Loc) (ls : Array Slot), jX7_theyCome_152 a0 p1 x2 σ = some x → Ws G σ s.heap H locs → lv_has ls 4 [(0, .ref (gB G + a0)), (1, .int p1), (2, .int x2)] → W p l e (rmOf 3 74) s m args below meth c H locs 0 0 Q (F0 m 152 ls []) := by
        intro x2 σ H locs ls hf hW hl
        delta jX7_theyCome_152 at hf
        refine lv_iinc (v := _) (lv' := [(2, .int _), (0, .ref _), (1, .int _)]) C.1.1 C.1.2.1 dX7_theyCome_152 hl (k := 2) rfl (ii (k := 1) (by decide)) (by decide) rfl (fun ls hl => ?_)
        refine lv_goto (tgt := 2) C.1.1 C.1.2.1 dX7_theyCome_155 (by decide) ?_
        cases hf
        exact ih _ _ _ _ _ _ hx hW (lv_sub hl [1, 2, 0] rfl) K2_158
      have J142 : ∀ (x2 : Int32) (σ : Sg) (H : Heap) (locs : List Loc) (ls : Array Slot), jX7_theyCome_142 a0 p1 x2 σ = some x → Ws G σ s.heap H locs → lv_has ls 4 [(0, .ref (gB G + a0)), (1, .int p1), (2, .int x2)] → W p l e (rmOf 3 74) s m args below meth c H locs 0 0 Q (F0 m 142 ls []) := by
        intro x2 σ H locs ls hf hW hl
        delta jX7_theyCome_142 at hf
        refine lv_aload_n C.1.1 C.1.2.1 dX7_theyCome_142 rfl (lv_at hl 0 rfl) ?_
        have hk15 := sh7_48 hW hk_a0
        refine gf7_48 C hW hk_a0 w_1078 dX7_theyCome_143 ?_
        refine lv_bipush (v := 40) C.1.1 C.1.2.1 dX7_theyCome_146 (by decide) ?_
        refine lv_iload_n C.1.1 C.1.2.1 dX7_theyCome_148 rfl (lv_at hl 2 rfl) ?_
        refine lv_iadd C.1.1 C.1.2.1 dX7_theyCome_149 ?_
        refine lv_iconst (v := 2) C.1.1 C.1.2.1 dX7_theyCome_150 (by decide) ?_
        obtain ⟨hv16, hf⟩ := gd hf
        refine wsi C hW hk15 (vin_p hv16) dX7_theyCome_151 (fun H locs hW => ?_)
        exact J152 _ _ _ _ _ hf hW (lv_sub hl [0, 1, 2] rfl)
      have J94 : ∀ (x2 : Int32) (x3 : Int32) (σ : Sg) (H : Heap) (locs : List Loc) (ls : Array Slot), jX7_theyCome_94 a0 p1 x2 x3 σ = some x → Ws G σ s.heap H locs → lv_has ls 4 [(0, .ref (gB G + a0)), (1, .int p1), (2, .int x2), (3, .int x3)] → W p l e (rmOf 3 74) s m args below meth c H locs 0 0 Q (F0 m 94 ls []) := by
        intro x2 x3 σ H locs ls hf hW hl
        delta jX7_theyCome_94 at hf
        refine lv_iload_n C.1.1 C.1.2.1 dX7_theyCome_94 rfl (lv_at hl 3 rfl) ?_
        refine lv_if_ne (tgt := 142) C.1.1 C.1.2.1 dX7_theyCome_95 (by decide) (fun h9 => ?_) (fun h9 => ?_)
        · replace hf := (if_neg h9).symm.trans hf
          exact J142 _ _ _ _ _ hf hW (lv_sub hl [0, 1, 2] rfl)
        · replace hf := (if_pos h9).symm.trans hf
          refine lv_aload_n C.1.1 C.1.2.1 dX7_theyCome_98 rfl (lv_at hl 0 rfl) ?_
          refine gf7_50 C hW hk_a0 w_1080 dX7_theyCome_99 ?_
          refine lv_if_ne (tgt := 142) C.1.1 C.1.2.1 dX7_theyCome_102 (by decide) (fun h9 => ?_) (fun h9 => ?_)
          · replace hf := (if_neg h9).symm.trans hf
            exact J142 _ _ _ _ _ hf hW (lv_sub hl [0, 1, 2] rfl)
          · replace hf := (if_pos h9).symm.trans hf
            refine lv_aload_n C.1.1 C.1.2.1 dX7_theyCome_105 rfl (lv_at hl 0 rfl) ?_
            refine lv_bipush (v := 32) C.1.1 C.1.2.1 dX7_theyCome_106 (by decide) ?_
            refine lv_aload_n C.1.1 C.1.2.1 dX7_theyCome_108 rfl (lv_at hl 0 rfl) ?_
            have hk18 := sh7_48 hW hk_a0
            refine gf7_48 C hW hk_a0 w_1078 dX7_theyCome_109 ?_
            refine lv_bipush (v := 84) C.1.1 C.1.2.1 dX7_theyCome_112 (by decide) ?_
            refine wai C hW hk18 (vin_p ⟨by decide, by decide⟩) dX7_theyCome_114 ?_
            refine lv_imul C.1.1 C.1.2.1 dX7_theyCome_115 ?_
            refine lv_iload_n C.1.1 C.1.2.1 dX7_theyCome_116 rfl (lv_at hl 2 rfl) ?_
            refine lv_iadd C.1.1 C.1.2.1 dX7_theyCome_117 ?_
            obtain ⟨⟨r21, σ20⟩, hc19, hf⟩ := bd hf
            try dsimp only at hf
            refine cVi C hW (mX7_lotOf hk_a0 hc19) hk_a0 kvX7_lotOf w_1459 ⟨(Nat.le_of_ble_eq_true rfl), (Nat.le_of_ble_eq_true rfl)⟩ ⟨Nat.zero_le _, Nat.zero_le _⟩ rfl hl.1 (rest := []) rfl (Nat.le_of_ble_eq_true rfl) dX7_theyCome_118 (fun H locs hn22 hW => ?_)
            refine lv_aload_n C.1.1 C.1.2.1 dX7_theyCome_121 rfl (lv_at hl 0 rfl) ?_
            refine lv_iload_n C.1.1 C.1.2.1 dX7_theyCome_122 rfl (lv_at hl 2 rfl) ?_
            obtain ⟨⟨r26, σ25⟩, hc24, hf⟩ := bd hf
            try dsimp only at hf
            refine cVi C hW (mX7_lateOf hk_a0 hc24) hk_a0 kvX7_lateOf w_1467 ⟨(Nat.le_of_ble_eq_true rfl), (Nat.le_of_ble_eq_true rfl)⟩ ⟨Nat.zero_le _, Nat.zero_le _⟩ rfl hl.1 (rest := [.int _]) rfl (Nat.le_of_ble_eq_true rfl) dX7_theyCome_123 (fun H locs hn27 hW => ?_)
            refine lv_icmp_ge (tgt := 142) C.1.1 C.1.2.1 dX7_theyCome_126 (by decide) (fun h9 => ?_) (fun h9 => ?_)
            · replace hf := (if_pos h9).symm.trans hf
              exact J142 _ _ _ _ _ hf hW (lv_sub hl [0, 1, 2] rfl)
            · replace hf := (if_neg h9).symm.trans hf
              refine lv_aload_n C.1.1 C.1.2.1 dX7_theyCome_129 rfl (lv_at hl 0 rfl) ?_
              have hk29 := sh7_48 hW hk_a0
              refine gf7_48 C hW hk_a0 w_1078 dX7_theyCome_130 ?_
              refine lv_bipush (v := 56) C.1.1 C.1.2.1 dX7_theyCome_133 (by decide) ?_
              refine lv_iload_n C.1.1 C.1.2.1 dX7_theyCome_135 rfl (lv_at hl 2 rfl) ?_
              refine lv_iadd C.1.1 C.1.2.1 dX7_theyCome_136 ?_
              refine lv_iconst (v := 1) C.1.1 C.1.2.1 dX7_theyCome_137 (by decide) ?_
              obtain ⟨hv30, hf⟩ := gd hf
              refine wsi C hW hk29 (vin_p hv30) dX7_theyCome_138 (fun H locs hW => ?_)
              refine lv_goto (tgt := 152) C.1.1 C.1.2.1 dX7_theyCome_139 (by decide) ?_
              exact J152 _ _ _ _ _ hf hW (lv_sub hl [0, 1, 2] rfl)
      have J33 : ∀ (x2 : Int32) (s0 : Int32) (σ : Sg) (H : Heap) (locs : List Loc) (ls : Array Slot), jX7_theyCome_33 a0 p1 x2 s0 σ = some x → Ws G σ s.heap H locs → lv_has ls 4 [(0, .ref (gB G + a0)), (1, .int p1), (2, .int x2)] → W p l e (rmOf 3 74) s m args below meth c H locs 0 0 Q (F0 m 33 ls [.int s0]) := by
        intro x2 s0 σ H locs ls hf hW hl
        delta jX7_theyCome_33 at hf
        refine lv_istore_n (lv' := [(3, .int _), (0, .ref _), (1, .int _), (2, .int _)]) C.1.1 C.1.2.1 dX7_theyCome_33 rfl hl (by decide) rfl (fun ls hl => ?_)
        refine lv_aload_n C.1.1 C.1.2.1 dX7_theyCome_34 rfl (lv_at hl 1 rfl) ?_
        have hk5 := sh7_48 hW hk_a0
        refine gf7_48 C hW hk_a0 w_1078 dX7_theyCome_35 ?_
        refine lv_bipush (v := 56) C.1.1 C.1.2.1 dX7_theyCome_38 (by decide) ?_
        refine lv_iload_n C.1.1 C.1.2.1 dX7_theyCome_40 rfl (lv_at hl 3 rfl) ?_
        refine lv_iadd C.1.1 C.1.2.1 dX7_theyCome_41 ?_
        refine lv_iconst (v := 0) C.1.1 C.1.2.1 dX7_theyCome_42 (by decide) ?_
        obtain ⟨hv6, hf⟩ := gd hf
        refine wsi C hW hk5 (vin_p hv6) dX7_theyCome_43 (fun H locs hW => ?_)
        refine lv_aload_n C.1.1 C.1.2.1 dX7_theyCome_44 rfl (lv_at hl 1 rfl) ?_
        have hk8 := sh7_48 hW hk_a0
        refine gf7_48 C hW hk_a0 w_1078 dX7_theyCome_45 ?_
        refine lv_bipush (v := 40) C.1.1 C.1.2.1 dX7_theyCome_48 (by decide) ?_
        refine lv_iload_n C.1.1 C.1.2.1 dX7_theyCome_50 rfl (lv_at hl 3 rfl) ?_
        refine lv_iadd C.1.1 C.1.2.1 dX7_theyCome_51 ?_
        obtain ⟨hv9, hf⟩ := gd hf
        refine wai C hW hk8 (vin_p hv9) dX7_theyCome_52 ?_
        refine lv_iconst (v := 1) C.1.1 C.1.2.1 dX7_theyCome_53 (by decide) ?_
        refine lv_icmp_ne (tgt := 152) C.1.1 C.1.2.1 dX7_theyCome_54 (by decide) (fun h9 => ?_) (fun h9 => ?_)
        · replace hf := (if_neg h9).symm.trans hf
          exact J152 _ _ _ _ _ hf hW (lv_sub hl [1, 2, 3] rfl)
        · replace hf := (if_pos h9).symm.trans hf
          refine lv_aload_n C.1.1 C.1.2.1 dX7_theyCome_57 rfl (lv_at hl 1 rfl) ?_
          have hk11 := sh7_52 hW hk_a0
          refine gf7_52 C hW hk_a0 w_1082 dX7_theyCome_58 ?_
          refine lv_iload_n C.1.1 C.1.2.1 dX7_theyCome_61 rfl (lv_at hl 3 rfl) ?_
          obtain ⟨hv12, hf⟩ := gd hf
          refine waz C hW hk11 (vin_p hv12) dX7_theyCome_62 ?_
          refine lv_if_ne (tgt := 152) C.1.1 C.1.2.1 dX7_theyCome_63 (by decide) (fun h9 => ?_) (fun h9 => ?_)
          · replace hf := (if_neg h9).symm.trans hf
            exact J152 _ _ _ _ _ hf hW (lv_sub hl [1, 2, 3] rfl)
          · replace hf := (if_pos h9).symm.trans hf
            refine lv_iload_n C.1.1 C.1.2.1 dX7_theyCome_66 rfl (lv_at hl 3 rfl) ?_
            refine lv_aload_n C.1.1 C.1.2.1 dX7_theyCome_67 rfl (lv_at hl 1 rfl) ?_
            refine gf7_51 C hW hk_a0 w_1081 dX7_theyCome_68 ?_
            refine lv_icmp_eq (tgt := 152) C.1.1 C.1.2.1 dX7_theyCome_71 (by decide) (fun h9 => ?_) (fun h9 => ?_)
            · replace hf := (if_pos h9).symm.trans hf
              exact J152 _ _ _ _ _ hf hW (lv_sub hl [1, 2, 3] rfl)
            · replace hf := (if_neg h9).symm.trans hf
              refine lv_aload_n C.1.1 C.1.2.1 dX7_theyCome_74 rfl (lv_at hl 1 rfl) ?_
              have hk13 := sh7_48 hW hk_a0
              refine gf7_48 C hW hk_a0 w_1078 dX7_theyCome_75 ?_
              refine lv_bipush (v := 8) C.1.1 C.1.2.1 dX7_theyCome_78 (by decide) ?_
              refine lv_iload_n C.1.1 C.1.2.1 dX7_theyCome_80 rfl (lv_at hl 3 rfl) ?_
              refine lv_iadd C.1.1 C.1.2.1 dX7_theyCome_81 ?_
              obtain ⟨hv14, hf⟩ := gd hf
              refine wai C hW hk13 (vin_p hv14) dX7_theyCome_82 ?_
              refine lv_iload_n C.1.1 C.1.2.1 dX7_theyCome_83 rfl (lv_at hl 2 rfl) ?_
              refine lv_icmp_eq (tgt := 94) C.1.1 C.1.2.1 dX7_theyCome_84 (by decide) (fun h9 => ?_) (fun h9 => ?_)
              · replace hf := (if_pos h9).symm.trans hf
                exact J94 _ _ _ _ _ _ hf hW (lv_sub hl [1, 2, 3, 0] rfl)
              · replace hf := (if_neg h9).symm.trans hf
                refine lv_iload_n C.1.1 C.1.2.1 dX7_theyCome_87 rfl (lv_at hl 0 rfl) ?_
                refine lv_if_ne (tgt := 94) C.1.1 C.1.2.1 dX7_theyCome_88 (by decide) (fun h9 => ?_) (fun h9 => ?_)
                · replace hf := (if_neg h9).symm.trans hf
                  exact J94 _ _ _ _ _ _ hf hW (lv_sub hl [1, 2, 3, 0] rfl)
                · replace hf := (if_pos h9).symm.trans hf
                  refine lv_goto (tgt := 152) C.1.1 C.1.2.1 dX7_theyCome_91 (by decide) ?_
                  exact J152 _ _ _ _ _ hf hW (lv_sub hl [1, 2, 3] rfl)
      refine lv_iload_n C.1.1 C.1.2.1 dX7_theyCome_2 rfl (lv_at hl 2 rfl) ?_
      refine lv_aload_n C.1.1 C.1.2.1 dX7_theyCome_3 rfl (lv_at hl 0 rfl) ?_
      have hk1 := sh7_22 hW hk_a0
      refine gf7_22 C hW hk_a0 w_1052 dX7_theyCome_4 ?_
      refine lv_aload_n C.1.1 C.1.2.1 dX7_theyCome_7 rfl (lv_at hl 0 rfl) ?_
      refine gf7_18 C hW hk_a0 w_1048 dX7_theyCome_8 ?_
      obtain ⟨hv2, hf⟩ := gd hf
      refine wai C hW hk1 (vin_p hv2) dX7_theyCome_11 ?_
      refine lv_icmp_ge (tgt := 158) C.1.1 C.1.2.1 dX7_theyCome_12 (by decide) (fun h9 => ?_) (fun h9 => ?_)
      · replace hf := (if_pos h9).symm.trans hf
        cases hf
        cases hx
        exact K2_158 _ _ _ _ rfl hW (lv_sub hl [] rfl)
      · replace hf := (if_neg h9).symm.trans hf
        refine lv_aload_n C.1.1 C.1.2.1 dX7_theyCome_15 rfl (lv_at hl 0 rfl) ?_
        have hk3 := sh7_48 hW hk_a0
        refine gf7_48 C hW hk_a0 w_1078 dX7_theyCome_16 ?_
        refine lv_bipush (v := 56) C.1.1 C.1.2.1 dX7_theyCome_19 (by decide) ?_
        refine lv_iload_n C.1.1 C.1.2.1 dX7_theyCome_21 rfl (lv_at hl 2 rfl) ?_
        refine lv_iadd C.1.1 C.1.2.1 dX7_theyCome_22 ?_
        obtain ⟨hv4, hf⟩ := gd hf
        refine wai C hW hk3 (vin_p hv4) dX7_theyCome_23 ?_
        refine lv_iconst (v := 1) C.1.1 C.1.2.1 dX7_theyCome_24 (by decide) ?_
        refine lv_icmp_ne (tgt := 32) C.1.1 C.1.2.1 dX7_theyCome_25 (by decide) (fun h9 => ?_) (fun h9 => ?_)
        · replace hf := (if_neg h9).symm.trans hf
          refine lv_iconst (v := 0) C.1.1 C.1.2.1 dX7_theyCome_32 (by decide) ?_
          exact J33 _ _ _ _ _ _ hf hW (lv_sub hl [0, 1, 2] rfl)
        · replace hf := (if_pos h9).symm.trans hf
          refine lv_iconst (v := 1) C.1.1 C.1.2.1 dX7_theyCome_28 (by decide) ?_
          refine lv_goto (tgt := 33) C.1.1 C.1.2.1 dX7_theyCome_29 (by decide) ?_
          exact J33 _ _ _ _ _ _ hf hW (lv_sub hl [0, 1, 2] rfl)
  refine lv_iconst (v := 0) C.1.1 C.1.2.1 dX7_theyCome_0 (by decide) ?_
  refine lv_istore_n (lv' := [(2, .int _), (0, .ref _), (1, .int _)]) C.1.1 C.1.2.1 dX7_theyCome_1 rfl hl (by decide) rfl (fun ls hl => ?_)
  obtain ⟨o32, ho, hf⟩ := bd hf
  obtain ⟨n, ho⟩ := lp_it ho
  refine L2 n _ _ _ _ _ o32 ho hW (lv_sub hl [1, 2, 0] rfl) ?_
  intro  σ33 H locs ls e9 hW hl
  subst e9
  try dsimp only at hf
  exact rv hQ C hr hlk hW hf dX7_theyCome_158
theorem kvX7_theyWait : KV 7 "RightKeysModel" yX7_theyWait cX7_theyWait 2 none 0 := ⟨⟨w_1509, w_98, w_116, w_1510⟩, ⟨rfl, by decide, by decide, by decide +kernel⟩, by decide, rfl⟩
noncomputable def jX7_theyWait_71 (a0 : Nat) (x1 : Int32) (σ : Sg) : Option ((Int32 × Sg) ⊕ (Sg)) := (let x1_21 := x1 + (1 : Int32); some (Sum.inl (x1_21, σ)))
noncomputable def bX7_theyWait_2 (a0 : Nat) (x1 : Int32) (σ : Sg) : Option ((Int32 × Sg) ⊕ (Sg)) := if vin (σ.1 a0 18) 2 then (if (σ.1 (a0 + 9) (((σ.1 a0 18)).toNatClampNeg)) ≤ x1 then (some (Sum.inr σ)) else (if vin ((40 : Int32) + x1) 88 then (if (σ.1 (a0 + 31) ((((40 : Int32) + x1)).toNatClampNeg)) = (2 : Int32) then (if vin ((48 : Int32) + x1) 88 then ((let σ7 := wI σ (a0 + 31) ((((48 : Int32) + x1)).toNatClampNeg) ((σ.1 (a0 + 31) ((((48 : Int32) + x1)).toNatClampNeg)) + (1 : Int32)); (fX7_quarrelOf a0 x1 σ7).bind (fun q14 => let r12 := q14.1; let σ11 := q14.2; (fX7_within ((σ7.1 (a0 + 31) 85) + r12) (0 : Int32) (99999 : Int32) σ11).bind (fun q19 => let r17 := q19.1; let σ16 := q19.2; (let σ20 := wI σ16 (a0 + 31) 85 r17; jX7_theyWait_71 a0 x1 σ20))))) else none) else (jX7_theyWait_71 a0 x1 σ)) else none)) else none
noncomputable def fX7_theyWait (a0 : Nat) (σ : Sg) : Option (Sg) := (lp (fun st => bX7_theyWait_2 a0 st.1 st.2) ((0 : Int32), σ)).bind (fun σ23 => some σ23)
set_option maxRecDepth 100000 in
set_option maxHeartbeats 4000000 in
theorem mX7_theyWait {l : Launch} {G : Gm} {a0 : Nat} {σ : Sg} {σ' : Sg} (hk_a0 : gK G a0 = 8) (hf : fX7_theyWait a0 σ = some σ') : Mv l G yX7_theyWait cX7_theyWait 2 3 74 [.ref (gB G + a0)] σ σ' := by
  refine of_W "RightKeysModel" rfl (by decide) (Nat.le_of_ble_eq_true rfl) ?_
  intro p e s m args below meth c Q hQ C hr hlk hW ls hl
  have h00 := hW.1
  have hl : lv_has ls 2 [(0, .ref (gB G + a0))] := hl
  delta fX7_theyWait at hf
  have L2 : ∀ (n : Nat) (x1 : Int32) (σ : Sg) (H : Heap) (locs : List Loc) (ls : Array Slot) (out : (Sg)), iter (fun st => bX7_theyWait_2 a0 st.1 st.2) n (x1, σ) = some out → Ws G σ s.heap H locs → lv_has ls 2 [(0, .ref (gB G + a0)), (1, .int x1)] → (∀ (σ : Sg) (H : Heap) (locs : List Loc) (ls : Array Slot), out = σ → Ws G σ s.heap H locs → lv_has ls 2 [] → W p l e (rmOf 3 74) s m args below meth c H locs 0 0 Q (F0 m 77 ls [])) → W p l e (rmOf 3 74) s m args below meth c H locs 0 0 Q (F0 m 2 ls []) := by
    intro n
    induction n with
    | zero =>
      intro x1 σ H locs ls out hf
      exact (it_0 hf).elim
    | succ n ih =>
      intro x1 σ H locs ls out hf hW hl K2_77
      obtain ⟨x, hf, hx⟩ := it_s hf
      have hf : bX7_theyWait_2 a0 x1 σ = some x := hf
      delta bX7_theyWait_2 at hf
      have J71 : ∀ (x1 : Int32) (σ : Sg) (H : Heap) (locs : List Loc) (ls : Array Slot), jX7_theyWait_71 a0 x1 σ = some x → Ws G σ s.heap H locs → lv_has ls 2 [(0, .ref (gB G + a0)), (1, .int x1)] → W p l e (rmOf 3 74) s m args below meth c H locs 0 0 Q (F0 m 71 ls []) := by
        intro x1 σ H locs ls hf hW hl
        delta jX7_theyWait_71 at hf
        refine lv_iinc (v := _) (lv' := [(1, .int _), (0, .ref _)]) C.1.1 C.1.2.1 dX7_theyWait_71 hl (k := 1) rfl (ii (k := 1) (by decide)) (by decide) rfl (fun ls hl => ?_)
        refine lv_goto (tgt := 2) C.1.1 C.1.2.1 dX7_theyWait_74 (by decide) ?_
        cases hf
        exact ih _ _ _ _ _ _ hx hW (lv_sub hl [1, 0] rfl) K2_77
      refine lv_iload_n C.1.1 C.1.2.1 dX7_theyWait_2 rfl (lv_at hl 1 rfl) ?_
      refine lv_aload_n C.1.1 C.1.2.1 dX7_theyWait_3 rfl (lv_at hl 0 rfl) ?_
      have hk1 := sh7_22 hW hk_a0
      refine gf7_22 C hW hk_a0 w_1052 dX7_theyWait_4 ?_
      refine lv_aload_n C.1.1 C.1.2.1 dX7_theyWait_7 rfl (lv_at hl 0 rfl) ?_
      refine gf7_18 C hW hk_a0 w_1048 dX7_theyWait_8 ?_
      obtain ⟨hv2, hf⟩ := gd hf
      refine wai C hW hk1 (vin_p hv2) dX7_theyWait_11 ?_
      refine lv_icmp_ge (tgt := 77) C.1.1 C.1.2.1 dX7_theyWait_12 (by decide) (fun h9 => ?_) (fun h9 => ?_)
      · replace hf := (if_pos h9).symm.trans hf
        cases hf
        cases hx
        exact K2_77 _ _ _ _ rfl hW (lv_sub hl [] rfl)
      · replace hf := (if_neg h9).symm.trans hf
        refine lv_aload_n C.1.1 C.1.2.1 dX7_theyWait_15 rfl (lv_at hl 0 rfl) ?_
        have hk3 := sh7_48 hW hk_a0
        refine gf7_48 C hW hk_a0 w_1078 dX7_theyWait_16 ?_
        refine lv_bipush (v := 40) C.1.1 C.1.2.1 dX7_theyWait_19 (by decide) ?_
        refine lv_iload_n C.1.1 C.1.2.1 dX7_theyWait_21 rfl (lv_at hl 1 rfl) ?_
        refine lv_iadd C.1.1 C.1.2.1 dX7_theyWait_22 ?_
        obtain ⟨hv4, hf⟩ := gd hf
        refine wai C hW hk3 (vin_p hv4) dX7_theyWait_23 ?_
        refine lv_iconst (v := 2) C.1.1 C.1.2.1 dX7_theyWait_24 (by decide) ?_
        refine lv_icmp_eq (tgt := 31) C.1.1 C.1.2.1 dX7_theyWait_25 (by decide) (fun h9 => ?_) (fun h9 => ?_)
        · replace hf := (if_pos h9).symm.trans hf
          refine lv_aload_n C.1.1 C.1.2.1 dX7_theyWait_31 rfl (lv_at hl 0 rfl) ?_
          have hk5 := sh7_48 hW hk_a0
          refine gf7_48 C hW hk_a0 w_1078 dX7_theyWait_32 ?_
          refine lv_bipush (v := 48) C.1.1 C.1.2.1 dX7_theyWait_35 (by decide) ?_
          refine lv_iload_n C.1.1 C.1.2.1 dX7_theyWait_37 rfl (lv_at hl 1 rfl) ?_
          refine lv_iadd C.1.1 C.1.2.1 dX7_theyWait_38 ?_
          refine lv_dup2_11 C.1.1 C.1.2.1 dX7_theyWait_39 rfl rfl ?_
          obtain ⟨hv6, hf⟩ := gd hf
          refine wai C hW hk5 (vin_p hv6) dX7_theyWait_40 ?_
          refine lv_iconst (v := 1) C.1.1 C.1.2.1 dX7_theyWait_41 (by decide) ?_
          refine lv_iadd C.1.1 C.1.2.1 dX7_theyWait_42 ?_
          refine wsi C hW hk5 (vin_p hv6) dX7_theyWait_43 (fun H locs hW => ?_)
          refine lv_aload_n C.1.1 C.1.2.1 dX7_theyWait_44 rfl (lv_at hl 0 rfl) ?_
          have hk8 := sh7_48 hW hk_a0
          refine gf7_48 C hW hk_a0 w_1078 dX7_theyWait_45 ?_
          refine lv_bipush (v := 85) C.1.1 C.1.2.1 dX7_theyWait_48 (by decide) ?_
          refine lv_aload_n C.1.1 C.1.2.1 dX7_theyWait_50 rfl (lv_at hl 0 rfl) ?_
          have hk9 := sh7_48 hW hk_a0
          refine gf7_48 C hW hk_a0 w_1078 dX7_theyWait_51 ?_
          refine lv_bipush (v := 85) C.1.1 C.1.2.1 dX7_theyWait_54 (by decide) ?_
          refine wai C hW hk9 (vin_p ⟨by decide, by decide⟩) dX7_theyWait_56 ?_
          refine lv_aload_n C.1.1 C.1.2.1 dX7_theyWait_57 rfl (lv_at hl 0 rfl) ?_
          refine lv_iload_n C.1.1 C.1.2.1 dX7_theyWait_58 rfl (lv_at hl 1 rfl) ?_
          obtain ⟨⟨r12, σ11⟩, hc10, hf⟩ := bd hf
          try dsimp only at hf
          refine cVi C hW (mX7_quarrelOf hk_a0 hc10) hk_a0 kvX7_quarrelOf w_1511 ⟨(Nat.le_of_ble_eq_true rfl), (Nat.le_of_ble_eq_true rfl)⟩ ⟨Nat.zero_le _, Nat.zero_le _⟩ rfl hl.1 (rest := [.int _, .int _, .ref _]) rfl (Nat.le_of_ble_eq_true rfl) dX7_theyWait_59 (fun H locs hn13 hW => ?_)
          refine lv_iadd C.1.1 C.1.2.1 dX7_theyWait_62 ?_
          refine lv_iconst (v := 0) C.1.1 C.1.2.1 dX7_theyWait_63 (by decide) ?_
          refine lv_ldcw (v := 99999) C.1.1 C.1.2.1 C.1.2.2.2.1 (C.w w_1515) dX7_theyWait_64 ?_
          obtain ⟨⟨r17, σ16⟩, hc15, hf⟩ := bd hf
          try dsimp only at hf
          refine cSi C hW (mX7_within hc15) ksX7_within w_1385 ⟨(Nat.le_of_ble_eq_true rfl), (Nat.le_of_ble_eq_true rfl)⟩ ⟨Nat.zero_le _, Nat.zero_le _⟩ rfl hl.1 (rest := [.int _, .ref _]) rfl (Nat.le_of_ble_eq_true rfl) dX7_theyWait_67 (fun H locs hn18 hW => ?_)
          refine wsi C hW hk8 (vin_p ⟨by decide, by decide⟩) dX7_theyWait_70 (fun H locs hW => ?_)
          exact J71 _ _ _ _ _ hf hW (lv_sub hl [0, 1] rfl)
        · replace hf := (if_neg h9).symm.trans hf
          refine lv_goto (tgt := 71) C.1.1 C.1.2.1 dX7_theyWait_28 (by decide) ?_
          exact J71 _ _ _ _ _ hf hW (lv_sub hl [0, 1] rfl)
  refine lv_iconst (v := 0) C.1.1 C.1.2.1 dX7_theyWait_0 (by decide) ?_
  refine lv_istore_n (lv' := [(1, .int _), (0, .ref _)]) C.1.1 C.1.2.1 dX7_theyWait_1 rfl hl (by decide) rfl (fun ls hl => ?_)
  obtain ⟨o22, ho, hf⟩ := bd hf
  obtain ⟨n, ho⟩ := lp_it ho
  refine L2 n _ _ _ _ _ o22 ho hW (lv_sub hl [1, 0] rfl) ?_
  intro  σ23 H locs ls e9 hW hl
  subst e9
  try dsimp only at hf
  exact rv hQ C hr hlk hW hf dX7_theyWait_77
theorem kvX7_hourGoes : KV 7 "RightKeysModel" yX7_hourGoes cX7_hourGoes 2 none 0 := ⟨⟨w_1441, w_82, w_116, w_1442⟩, ⟨rfl, by decide, by decide, by decide +kernel⟩, by decide, rfl⟩
noncomputable def jX7_hourGoes_19 (a0 : Nat) (x1 : Int32) (σ : Sg) : Option (Sg) := (fX7_theyGo a0 x1 σ).bind (fun σ4 => (fX7_theyCome a0 x1 σ4).bind (fun σ9 => (fX7_lettersIn a0 σ9).bind (fun σ14 => (fX7_theyWait a0 σ14).bind (fun σ19 => (let σ24 := wI σ19 (a0 + 31) 84 ((σ19.1 (a0 + 31) 84) + (1 : Int32)); some σ24)))))
noncomputable def fX7_hourGoes (a0 : Nat) (σ : Sg) : Option (Sg) := (let x1_2 := (irem (σ.1 (a0 + 31) 84) (24 : Int32)); if x1_2 = 0 then ((fX7_sparesGo a0 σ).bind (fun σ26 => jX7_hourGoes_19 a0 x1_2 σ26)) else (jX7_hourGoes_19 a0 x1_2 σ))
set_option maxRecDepth 100000 in
set_option maxHeartbeats 4000000 in
theorem mX7_hourGoes {l : Launch} {G : Gm} {a0 : Nat} {σ : Sg} {σ' : Sg} (hk_a0 : gK G a0 = 8) (hf : fX7_hourGoes a0 σ = some σ') : Mv l G yX7_hourGoes cX7_hourGoes 2 6 140 [.ref (gB G + a0)] σ σ' := by
  refine of_W "RightKeysModel" rfl (by decide) (Nat.le_of_ble_eq_true rfl) ?_
  intro p e s m args below meth c Q hQ C hr hlk hW ls hl
  have h00 := hW.1
  have hl : lv_has ls 2 [(0, .ref (gB G + a0))] := hl
  delta fX7_hourGoes at hf
  have J19 : ∀ (x1 : Int32) (σ : Sg) (H : Heap) (locs : List Loc) (ls : Array Slot), jX7_hourGoes_19 a0 x1 σ = some σ' → Ws G σ s.heap H locs → lv_has ls 2 [(0, .ref (gB G + a0)), (1, .int x1)] → W p l e (rmOf 6 140) s m args below meth c H locs 0 0 Q (F0 m 19 ls []) := by
    intro x1 σ H locs ls hf hW hl
    delta jX7_hourGoes_19 at hf
    refine lv_aload_n C.1.1 C.1.2.1 dX7_hourGoes_19 rfl (lv_at hl 0 rfl) ?_
    refine lv_iload_n C.1.1 C.1.2.1 dX7_hourGoes_20 rfl (lv_at hl 1 rfl) ?_
    obtain ⟨σ4, hc3, hf⟩ := bd hf
    try dsimp only at hf
    refine cVv C hW (mX7_theyGo hk_a0 hc3) hk_a0 kvX7_theyGo w_1451 ⟨(Nat.le_of_ble_eq_true rfl), (Nat.le_of_ble_eq_true rfl)⟩ ⟨Nat.zero_le _, Nat.zero_le _⟩ rfl hl.1 (rest := []) rfl (Nat.le_of_ble_eq_true rfl) dX7_hourGoes_21 (fun H locs hW => ?_)
    refine lv_aload_n C.1.1 C.1.2.1 dX7_hourGoes_24 rfl (lv_at hl 0 rfl) ?_
    refine lv_iload_n C.1.1 C.1.2.1 dX7_hourGoes_25 rfl (lv_at hl 1 rfl) ?_
    obtain ⟨σ9, hc8, hf⟩ := bd hf
    try dsimp only at hf
    refine cVv C hW (mX7_theyCome hk_a0 hc8) hk_a0 kvX7_theyCome w_1455 ⟨(Nat.le_of_ble_eq_true rfl), (Nat.le_of_ble_eq_true rfl)⟩ ⟨Nat.zero_le _, Nat.zero_le _⟩ rfl hl.1 (rest := []) rfl (Nat.le_of_ble_eq_true rfl) dX7_hourGoes_26 (fun H locs hW => ?_)
    refine lv_aload_n C.1.1 C.1.2.1 dX7_hourGoes_29 rfl (lv_at hl 0 rfl) ?_
    obtain ⟨σ14, hc13, hf⟩ := bd hf
    try dsimp only at hf
    refine cVv C hW (mX7_lettersIn hk_a0 hc13) hk_a0 kvX7_lettersIn w_1471 ⟨(Nat.le_of_ble_eq_true rfl), (Nat.le_of_ble_eq_true rfl)⟩ ⟨Nat.zero_le _, Nat.zero_le _⟩ rfl hl.1 (rest := []) rfl (Nat.le_of_ble_eq_true rfl) dX7_hourGoes_30 (fun H locs hW => ?_)
    refine lv_aload_n C.1.1 C.1.2.1 dX7_hourGoes_33 rfl (lv_at hl 0 rfl) ?_
    obtain ⟨σ19, hc18, hf⟩ := bd hf
    try dsimp only at hf
    refine cVv C hW (mX7_theyWait hk_a0 hc18) hk_a0 kvX7_theyWait w_1507 ⟨(Nat.le_of_ble_eq_true rfl), (Nat.le_of_ble_eq_true rfl)⟩ ⟨Nat.zero_le _, Nat.zero_le _⟩ rfl hl.1 (rest := []) rfl (Nat.le_of_ble_eq_true rfl) dX7_hourGoes_34 (fun H locs hW => ?_)
    refine lv_aload_n C.1.1 C.1.2.1 dX7_hourGoes_37 rfl (lv_at hl 0 rfl) ?_
    have hk23 := sh7_48 hW hk_a0
    refine gf7_48 C hW hk_a0 w_1078 dX7_hourGoes_38 ?_
    refine lv_bipush (v := 84) C.1.1 C.1.2.1 dX7_hourGoes_41 (by decide) ?_
    refine lv_dup2_11 C.1.1 C.1.2.1 dX7_hourGoes_43 rfl rfl ?_
    refine wai C hW hk23 (vin_p ⟨by decide, by decide⟩) dX7_hourGoes_44 ?_
    refine lv_iconst (v := 1) C.1.1 C.1.2.1 dX7_hourGoes_45 (by decide) ?_
    refine lv_iadd C.1.1 C.1.2.1 dX7_hourGoes_46 ?_
    refine wsi C hW hk23 (vin_p ⟨by decide, by decide⟩) dX7_hourGoes_47 (fun H locs hW => ?_)
    exact rv hQ C hr hlk hW hf dX7_hourGoes_48
  refine lv_aload_n C.1.1 C.1.2.1 dX7_hourGoes_0 rfl (lv_at hl 0 rfl) ?_
  have hk1 := sh7_48 hW hk_a0
  refine gf7_48 C hW hk_a0 w_1078 dX7_hourGoes_1 ?_
  refine lv_bipush (v := 84) C.1.1 C.1.2.1 dX7_hourGoes_4 (by decide) ?_
  refine wai C hW hk1 (vin_p ⟨by decide, by decide⟩) dX7_hourGoes_6 ?_
  refine lv_bipush (v := 24) C.1.1 C.1.2.1 dX7_hourGoes_7 (by decide) ?_
  refine lv_irem C.1.1 C.1.2.1 dX7_hourGoes_9 (by decide) ?_
  refine lv_istore_n (lv' := [(1, .int _), (0, .ref _)]) C.1.1 C.1.2.1 dX7_hourGoes_10 rfl hl (by decide) rfl (fun ls hl => ?_)
  refine lv_iload_n C.1.1 C.1.2.1 dX7_hourGoes_11 rfl (lv_at hl 0 rfl) ?_
  refine lv_if_ne (tgt := 19) C.1.1 C.1.2.1 dX7_hourGoes_12 (by decide) (fun h9 => ?_) (fun h9 => ?_)
  · replace hf := (if_neg h9).symm.trans hf
    exact J19 _ _ _ _ _ hf hW (lv_sub hl [1, 0] rfl)
  · replace hf := (if_pos h9).symm.trans hf
    refine lv_aload_n C.1.1 C.1.2.1 dX7_hourGoes_15 rfl (lv_at hl 1 rfl) ?_
    obtain ⟨σ26, hc25, hf⟩ := bd hf
    try dsimp only at hf
    refine cVv C hW (mX7_sparesGo hk_a0 hc25) hk_a0 kvX7_sparesGo w_1443 ⟨(Nat.le_of_ble_eq_true rfl), (Nat.le_of_ble_eq_true rfl)⟩ ⟨Nat.zero_le _, Nat.zero_le _⟩ rfl hl.1 (rest := []) rfl (Nat.le_of_ble_eq_true rfl) dX7_hourGoes_16 (fun H locs hW => ?_)
    exact J19 _ _ _ _ _ hf hW (lv_sub hl [1, 0] rfl)
theorem kvX7_goes : KV 7 "RightKeysModel" yX7_goes cX7_goes 3 none 1 := ⟨⟨w_1437, w_81, w_116, w_1438⟩, ⟨rfl, by decide, by decide, by decide +kernel⟩, by decide, rfl⟩
noncomputable def bX7_goes_2 (a0 : Nat) (p1 : Int32) (x2 : Int32) (σ : Sg) : Option ((Int32 × Sg) ⊕ (Sg)) := if p1 ≤ x2 then (some (Sum.inr σ)) else ((fX7_hourGoes a0 σ).bind (fun σ2 => (let x2_6 := x2 + (1 : Int32); some (Sum.inl (x2_6, σ2)))))
noncomputable def fX7_goes (a0 : Nat) (p1 : Int32) (σ : Sg) : Option (Sg) := (lp (fun st => bX7_goes_2 a0 p1 st.1 st.2) ((0 : Int32), σ)).bind (fun σ8 => some σ8)
set_option maxRecDepth 100000 in
set_option maxHeartbeats 4000000 in
theorem mX7_goes {l : Launch} {G : Gm} {a0 : Nat} {p1 : Int32} {σ : Sg} {σ' : Sg} (hk_a0 : gK G a0 = 8) (hf : fX7_goes a0 p1 σ = some σ') : Mv l G yX7_goes cX7_goes 3 7 161 [.ref (gB G + a0), .int p1] σ σ' := by
  refine of_W "RightKeysModel" rfl (by decide) (Nat.le_of_ble_eq_true rfl) ?_
  intro p e s m args below meth c Q hQ C hr hlk hW ls hl
  have h00 := hW.1
  have hl : lv_has ls 3 [(0, .ref (gB G + a0)), (1, .int p1)] := hl
  delta fX7_goes at hf
  have L2 : ∀ (n : Nat) (x2 : Int32) (σ : Sg) (H : Heap) (locs : List Loc) (ls : Array Slot) (out : (Sg)), iter (fun st => bX7_goes_2 a0 p1 st.1 st.2) n (x2, σ) = some out → Ws G σ s.heap H locs → lv_has ls 3 [(0, .ref (gB G + a0)), (1, .int p1), (2, .int x2)] → (∀ (σ : Sg) (H : Heap) (locs : List Loc) (ls : Array Slot), out = σ → Ws G σ s.heap H locs → lv_has ls 3 [] → W p l e (rmOf 7 161) s m args below meth c H locs 0 0 Q (F0 m 17 ls [])) → W p l e (rmOf 7 161) s m args below meth c H locs 0 0 Q (F0 m 2 ls []) := by
    intro n
    induction n with
    | zero =>
      intro x2 σ H locs ls out hf
      exact (it_0 hf).elim
    | succ n ih =>
      intro x2 σ H locs ls out hf hW hl K2_17
      obtain ⟨x, hf, hx⟩ := it_s hf
      have hf : bX7_goes_2 a0 p1 x2 σ = some x := hf
      delta bX7_goes_2 at hf
      refine lv_iload_n C.1.1 C.1.2.1 dX7_goes_2 rfl (lv_at hl 2 rfl) ?_
      refine lv_iload_n C.1.1 C.1.2.1 dX7_goes_3 rfl (lv_at hl 1 rfl) ?_
      refine lv_icmp_ge (tgt := 17) C.1.1 C.1.2.1 dX7_goes_4 (by decide) (fun h9 => ?_) (fun h9 => ?_)
      · replace hf := (if_pos h9).symm.trans hf
        cases hf
        cases hx
        exact K2_17 _ _ _ _ rfl hW (lv_sub hl [] rfl)
      · replace hf := (if_neg h9).symm.trans hf
        refine lv_aload_n C.1.1 C.1.2.1 dX7_goes_7 rfl (lv_at hl 0 rfl) ?_
        obtain ⟨σ2, hc1, hf⟩ := bd hf
        try dsimp only at hf
        refine cVv C hW (mX7_hourGoes hk_a0 hc1) hk_a0 kvX7_hourGoes w_1439 ⟨(Nat.le_of_ble_eq_true rfl), (Nat.le_of_ble_eq_true rfl)⟩ ⟨Nat.zero_le _, Nat.zero_le _⟩ rfl hl.1 (rest := []) rfl (Nat.le_of_ble_eq_true rfl) dX7_goes_8 (fun H locs hW => ?_)
        refine lv_iinc (v := _) (lv' := [(2, .int _), (0, .ref _), (1, .int _)]) C.1.1 C.1.2.1 dX7_goes_11 hl (k := 2) rfl (ii (k := 1) (by decide)) (by decide) rfl (fun ls hl => ?_)
        refine lv_goto (tgt := 2) C.1.1 C.1.2.1 dX7_goes_14 (by decide) ?_
        cases hf
        exact ih _ _ _ _ _ _ hx hW (lv_sub hl [1, 2, 0] rfl) K2_17
  refine lv_iconst (v := 0) C.1.1 C.1.2.1 dX7_goes_0 (by decide) ?_
  refine lv_istore_n (lv' := [(2, .int _), (0, .ref _), (1, .int _)]) C.1.1 C.1.2.1 dX7_goes_1 rfl hl (by decide) rfl (fun ls hl => ?_)
  obtain ⟨o7, ho, hf⟩ := bd hf
  obtain ⟨n, ho⟩ := lp_it ho
  refine L2 n _ _ _ _ _ o7 ho hW (lv_sub hl [1, 2, 0] rfl) ?_
  intro  σ8 H locs ls e9 hW hl
  subst e9
  try dsimp only at hf
  exact rv hQ C hr hlk hW hf dX7_goes_17
theorem kvX7_house : KV 7 "RightKeysModel" yX7_house cX7_house 3 (some .int) 2 := ⟨⟨w_1344, w_1345, w_116, w_1346⟩, ⟨rfl, by decide, by decide, by decide +kernel⟩, by decide, rfl⟩
noncomputable def fX7_house (a0 : Nat) (p1 : Int32) (p2 : Int32) (σ : Sg) : Option (Int32 × Sg) := (fX7_isHouse a0 p1 σ).bind (fun q5 => let r3 := q5.1; let σ2 := q5.2; if r3 = 0 then (some ((-1 : Int32), σ2)) else ((fX7_copies a0 σ2).bind (fun σ7 => if p2 = 0 then (if vin p1 88 then (some ((σ7.1 (a0 + 31) ((p1).toNatClampNeg)), σ7)) else none) else (if p2 = 1 then (if vin ((8 : Int32) + p1) 88 then (some ((σ7.1 (a0 + 31) ((((8 : Int32) + p1)).toNatClampNeg)), σ7)) else none) else (if p2 = 2 then (if vin ((16 : Int32) + p1) 88 then (some ((σ7.1 (a0 + 31) ((((16 : Int32) + p1)).toNatClampNeg)), σ7)) else none) else (if p2 = 3 then (if vin ((40 : Int32) + p1) 88 then (some ((σ7.1 (a0 + 31) ((((40 : Int32) + p1)).toNatClampNeg)), σ7)) else none) else (if p2 = 4 then (if vin ((48 : Int32) + p1) 88 then (some ((σ7.1 (a0 + 31) ((((48 : Int32) + p1)).toNatClampNeg)), σ7)) else none) else (if p2 = 5 then (if vin ((32 : Int32) + p1) 88 then (some ((σ7.1 (a0 + 31) ((((32 : Int32) + p1)).toNatClampNeg)), σ7)) else none) else (if p2 = 6 then (if vin (((8 : Int32) * (σ7.1 a0 18)) + p1) 16 then (if (σ7.1 (a0 + 13) (((((8 : Int32) * (σ7.1 a0 18)) + p1)).toNatClampNeg)) = 0 then (some ((0 : Int32), σ7)) else (some ((1 : Int32), σ7))) else none) else (if p2 = 7 then (if vin ((24 : Int32) + p1) 88 then (some ((σ7.1 (a0 + 31) ((((24 : Int32) + p1)).toNatClampNeg)), σ7)) else none) else (if p2 = 8 then (if vin ((56 : Int32) + p1) 88 then (some ((σ7.1 (a0 + 31) ((((56 : Int32) + p1)).toNatClampNeg)), σ7)) else none) else (if p2 = 9 then ((fX7_rentOf a0 p1 σ7).bind (fun q43 => let r41 := q43.1; let σ40 := q43.2; some (r41, σ40))) else ((some ((-1 : Int32), σ7)))))))))))))))
set_option maxRecDepth 100000 in
set_option maxHeartbeats 4000000 in
theorem mX7_house {l : Launch} {G : Gm} {a0 : Nat} {p1 : Int32} {p2 : Int32} {σ : Sg} {r : Int32} {σ' : Sg} (hk_a0 : gK G a0 = 8) (hf : fX7_house a0 p1 p2 σ = some (r, σ')) : Mi l G yX7_house cX7_house 3 .int 3 74 [.ref (gB G + a0), .int p1, .int p2] σ r σ' := by
  refine of_W "RightKeysModel" rfl (by decide) (Nat.le_of_ble_eq_true rfl) ?_
  intro p e s m args below meth c Q hQ C hr hlk hW ls hl
  have h00 := hW.1
  have hl : lv_has ls 3 [(0, .ref (gB G + a0)), (1, .int p1), (2, .int p2)] := hl
  delta fX7_house at hf
  refine lv_aload_n C.1.1 C.1.2.1 dX7_house_0 rfl (lv_at hl 0 rfl) ?_
  refine lv_iload_n C.1.1 C.1.2.1 dX7_house_1 rfl (lv_at hl 1 rfl) ?_
  obtain ⟨⟨r3, σ2⟩, hc1, hf⟩ := bd hf
  try dsimp only at hf
  refine cVi C hW (mX7_isHouse hk_a0 hc1) hk_a0 kvX7_isHouse w_1347 ⟨(Nat.le_of_ble_eq_true rfl), (Nat.le_of_ble_eq_true rfl)⟩ ⟨Nat.zero_le _, Nat.zero_le _⟩ rfl hl.1 (rest := []) rfl (Nat.le_of_ble_eq_true rfl) dX7_house_2 (fun H locs hn4 hW => ?_)
  refine lv_if_ne (tgt := 10) C.1.1 C.1.2.1 dX7_house_5 (by decide) (fun h9 => ?_) (fun h9 => ?_)
  · replace hf := (if_neg h9).symm.trans hf
    refine lv_aload_n C.1.1 C.1.2.1 dX7_house_10 rfl (lv_at hl 0 rfl) ?_
    obtain ⟨σ7, hc6, hf⟩ := bd hf
    try dsimp only at hf
    refine cVv C hW (mX7_copies hk_a0 hc6) hk_a0 kvX7_copies w_1354 ⟨(Nat.le_of_ble_eq_true rfl), (Nat.le_of_ble_eq_true rfl)⟩ ⟨Nat.zero_le _, Nat.zero_le _⟩ rfl hl.1 (rest := []) rfl (Nat.le_of_ble_eq_true rfl) dX7_house_11 (fun H locs hW => ?_)
    refine lv_iload_n C.1.1 C.1.2.1 dX7_house_14 rfl (lv_at hl 2 rfl) ?_
    refine sw_c (k := 0) (fun hs11 => ?_) (fun hs11 => ?_)
    · replace hf := (if_pos hs11).symm.trans hf
      refine lv_tableIn (tgt := 68) C.1.1 C.1.2.1 dX7_house_15 (by rw [hs11]; decide) (by rw [hs11]; decide) (off := 53) (by rw [hs11]; rfl) (by decide) ?_
      refine lv_aload_n C.1.1 C.1.2.1 dX7_house_68 rfl (lv_at hl 0 rfl) ?_
      have hk12 := sh7_48 hW hk_a0
      refine gf7_48 C hW hk_a0 w_1078 dX7_house_69 ?_
      refine lv_iload_n C.1.1 C.1.2.1 dX7_house_72 rfl (lv_at hl 1 rfl) ?_
      obtain ⟨hv13, hf⟩ := gd hf
      refine wai C hW hk12 (vin_p hv13) dX7_house_73 ?_
      exact ri hQ C hr hlk hW hf (rok_i _) dX7_house_74
    · replace hf := (if_neg hs11).symm.trans hf
      refine sw_c (k := 1) (fun hs14 => ?_) (fun hs14 => ?_)
      · replace hf := (if_pos hs14).symm.trans hf
        refine lv_tableIn (tgt := 75) C.1.1 C.1.2.1 dX7_house_15 (by rw [hs14]; decide) (by rw [hs14]; decide) (off := 60) (by rw [hs14]; rfl) (by decide) ?_
        refine lv_aload_n C.1.1 C.1.2.1 dX7_house_75 rfl (lv_at hl 0 rfl) ?_
        have hk15 := sh7_48 hW hk_a0
        refine gf7_48 C hW hk_a0 w_1078 dX7_house_76 ?_
        refine lv_bipush (v := 8) C.1.1 C.1.2.1 dX7_house_79 (by decide) ?_
        refine lv_iload_n C.1.1 C.1.2.1 dX7_house_81 rfl (lv_at hl 1 rfl) ?_
        refine lv_iadd C.1.1 C.1.2.1 dX7_house_82 ?_
        obtain ⟨hv16, hf⟩ := gd hf
        refine wai C hW hk15 (vin_p hv16) dX7_house_83 ?_
        exact ri hQ C hr hlk hW hf (rok_i _) dX7_house_84
      · replace hf := (if_neg hs14).symm.trans hf
        refine sw_c (k := 2) (fun hs17 => ?_) (fun hs17 => ?_)
        · replace hf := (if_pos hs17).symm.trans hf
          refine lv_tableIn (tgt := 85) C.1.1 C.1.2.1 dX7_house_15 (by rw [hs17]; decide) (by rw [hs17]; decide) (off := 70) (by rw [hs17]; rfl) (by decide) ?_
          refine lv_aload_n C.1.1 C.1.2.1 dX7_house_85 rfl (lv_at hl 0 rfl) ?_
          have hk18 := sh7_48 hW hk_a0
          refine gf7_48 C hW hk_a0 w_1078 dX7_house_86 ?_
          refine lv_bipush (v := 16) C.1.1 C.1.2.1 dX7_house_89 (by decide) ?_
          refine lv_iload_n C.1.1 C.1.2.1 dX7_house_91 rfl (lv_at hl 1 rfl) ?_
          refine lv_iadd C.1.1 C.1.2.1 dX7_house_92 ?_
          obtain ⟨hv19, hf⟩ := gd hf
          refine wai C hW hk18 (vin_p hv19) dX7_house_93 ?_
          exact ri hQ C hr hlk hW hf (rok_i _) dX7_house_94
        · replace hf := (if_neg hs17).symm.trans hf
          refine sw_c (k := 3) (fun hs20 => ?_) (fun hs20 => ?_)
          · replace hf := (if_pos hs20).symm.trans hf
            refine lv_tableIn (tgt := 95) C.1.1 C.1.2.1 dX7_house_15 (by rw [hs20]; decide) (by rw [hs20]; decide) (off := 80) (by rw [hs20]; rfl) (by decide) ?_
            refine lv_aload_n C.1.1 C.1.2.1 dX7_house_95 rfl (lv_at hl 0 rfl) ?_
            have hk21 := sh7_48 hW hk_a0
            refine gf7_48 C hW hk_a0 w_1078 dX7_house_96 ?_
            refine lv_bipush (v := 40) C.1.1 C.1.2.1 dX7_house_99 (by decide) ?_
            refine lv_iload_n C.1.1 C.1.2.1 dX7_house_101 rfl (lv_at hl 1 rfl) ?_
            refine lv_iadd C.1.1 C.1.2.1 dX7_house_102 ?_
            obtain ⟨hv22, hf⟩ := gd hf
            refine wai C hW hk21 (vin_p hv22) dX7_house_103 ?_
            exact ri hQ C hr hlk hW hf (rok_i _) dX7_house_104
          · replace hf := (if_neg hs20).symm.trans hf
            refine sw_c (k := 4) (fun hs23 => ?_) (fun hs23 => ?_)
            · replace hf := (if_pos hs23).symm.trans hf
              refine lv_tableIn (tgt := 105) C.1.1 C.1.2.1 dX7_house_15 (by rw [hs23]; decide) (by rw [hs23]; decide) (off := 90) (by rw [hs23]; rfl) (by decide) ?_
              refine lv_aload_n C.1.1 C.1.2.1 dX7_house_105 rfl (lv_at hl 0 rfl) ?_
              have hk24 := sh7_48 hW hk_a0
              refine gf7_48 C hW hk_a0 w_1078 dX7_house_106 ?_
              refine lv_bipush (v := 48) C.1.1 C.1.2.1 dX7_house_109 (by decide) ?_
              refine lv_iload_n C.1.1 C.1.2.1 dX7_house_111 rfl (lv_at hl 1 rfl) ?_
              refine lv_iadd C.1.1 C.1.2.1 dX7_house_112 ?_
              obtain ⟨hv25, hf⟩ := gd hf
              refine wai C hW hk24 (vin_p hv25) dX7_house_113 ?_
              exact ri hQ C hr hlk hW hf (rok_i _) dX7_house_114
            · replace hf := (if_neg hs23).symm.trans hf
              refine sw_c (k := 5) (fun hs26 => ?_) (fun hs26 => ?_)
              · replace hf := (if_pos hs26).symm.trans hf
                refine lv_tableIn (tgt := 115) C.1.1 C.1.2.1 dX7_house_15 (by rw [hs26]; decide) (by rw [hs26]; decide) (off := 100) (by rw [hs26]; rfl) (by decide) ?_
                refine lv_aload_n C.1.1 C.1.2.1 dX7_house_115 rfl (lv_at hl 0 rfl) ?_
                have hk27 := sh7_48 hW hk_a0
                refine gf7_48 C hW hk_a0 w_1078 dX7_house_116 ?_
                refine lv_bipush (v := 32) C.1.1 C.1.2.1 dX7_house_119 (by decide) ?_
                refine lv_iload_n C.1.1 C.1.2.1 dX7_house_121 rfl (lv_at hl 1 rfl) ?_
                refine lv_iadd C.1.1 C.1.2.1 dX7_house_122 ?_
                obtain ⟨hv28, hf⟩ := gd hf
                refine wai C hW hk27 (vin_p hv28) dX7_house_123 ?_
                exact ri hQ C hr hlk hW hf (rok_i _) dX7_house_124
              · replace hf := (if_neg hs26).symm.trans hf
                refine sw_c (k := 6) (fun hs29 => ?_) (fun hs29 => ?_)
                · replace hf := (if_pos hs29).symm.trans hf
                  refine lv_tableIn (tgt := 125) C.1.1 C.1.2.1 dX7_house_15 (by rw [hs29]; decide) (by rw [hs29]; decide) (off := 110) (by rw [hs29]; rfl) (by decide) ?_
                  refine lv_aload_n C.1.1 C.1.2.1 dX7_house_125 rfl (lv_at hl 0 rfl) ?_
                  have hk30 := sh7_26 hW hk_a0
                  refine gf7_26 C hW hk_a0 w_1056 dX7_house_126 ?_
                  refine lv_bipush (v := 8) C.1.1 C.1.2.1 dX7_house_129 (by decide) ?_
                  refine lv_aload_n C.1.1 C.1.2.1 dX7_house_131 rfl (lv_at hl 0 rfl) ?_
                  refine gf7_18 C hW hk_a0 w_1048 dX7_house_132 ?_
                  refine lv_imul C.1.1 C.1.2.1 dX7_house_135 ?_
                  refine lv_iload_n C.1.1 C.1.2.1 dX7_house_136 rfl (lv_at hl 1 rfl) ?_
                  refine lv_iadd C.1.1 C.1.2.1 dX7_house_137 ?_
                  obtain ⟨hv31, hf⟩ := gd hf
                  refine waz C hW hk30 (vin_p hv31) dX7_house_138 ?_
                  refine lv_if_eq (tgt := 146) C.1.1 C.1.2.1 dX7_house_139 (by decide) (fun h9 => ?_) (fun h9 => ?_)
                  · replace hf := (if_pos h9).symm.trans hf
                    refine lv_iconst (v := 0) C.1.1 C.1.2.1 dX7_house_146 (by decide) ?_
                    exact ri hQ C hr hlk hW hf (rok_i _) dX7_house_147
                  · replace hf := (if_neg h9).symm.trans hf
                    refine lv_iconst (v := 1) C.1.1 C.1.2.1 dX7_house_142 (by decide) ?_
                    refine lv_goto (tgt := 147) C.1.1 C.1.2.1 dX7_house_143 (by decide) ?_
                    exact ri hQ C hr hlk hW hf (rok_i _) dX7_house_147
                · replace hf := (if_neg hs29).symm.trans hf
                  refine sw_c (k := 7) (fun hs32 => ?_) (fun hs32 => ?_)
                  · replace hf := (if_pos hs32).symm.trans hf
                    refine lv_tableIn (tgt := 148) C.1.1 C.1.2.1 dX7_house_15 (by rw [hs32]; decide) (by rw [hs32]; decide) (off := 133) (by rw [hs32]; rfl) (by decide) ?_
                    refine lv_aload_n C.1.1 C.1.2.1 dX7_house_148 rfl (lv_at hl 0 rfl) ?_
                    have hk33 := sh7_48 hW hk_a0
                    refine gf7_48 C hW hk_a0 w_1078 dX7_house_149 ?_
                    refine lv_bipush (v := 24) C.1.1 C.1.2.1 dX7_house_152 (by decide) ?_
                    refine lv_iload_n C.1.1 C.1.2.1 dX7_house_154 rfl (lv_at hl 1 rfl) ?_
                    refine lv_iadd C.1.1 C.1.2.1 dX7_house_155 ?_
                    obtain ⟨hv34, hf⟩ := gd hf
                    refine wai C hW hk33 (vin_p hv34) dX7_house_156 ?_
                    exact ri hQ C hr hlk hW hf (rok_i _) dX7_house_157
                  · replace hf := (if_neg hs32).symm.trans hf
                    refine sw_c (k := 8) (fun hs35 => ?_) (fun hs35 => ?_)
                    · replace hf := (if_pos hs35).symm.trans hf
                      refine lv_tableIn (tgt := 158) C.1.1 C.1.2.1 dX7_house_15 (by rw [hs35]; decide) (by rw [hs35]; decide) (off := 143) (by rw [hs35]; rfl) (by decide) ?_
                      refine lv_aload_n C.1.1 C.1.2.1 dX7_house_158 rfl (lv_at hl 0 rfl) ?_
                      have hk36 := sh7_48 hW hk_a0
                      refine gf7_48 C hW hk_a0 w_1078 dX7_house_159 ?_
                      refine lv_bipush (v := 56) C.1.1 C.1.2.1 dX7_house_162 (by decide) ?_
                      refine lv_iload_n C.1.1 C.1.2.1 dX7_house_164 rfl (lv_at hl 1 rfl) ?_
                      refine lv_iadd C.1.1 C.1.2.1 dX7_house_165 ?_
                      obtain ⟨hv37, hf⟩ := gd hf
                      refine wai C hW hk36 (vin_p hv37) dX7_house_166 ?_
                      exact ri hQ C hr hlk hW hf (rok_i _) dX7_house_167
                    · replace hf := (if_neg hs35).symm.trans hf
                      refine sw_c (k := 9) (fun hs38 => ?_) (fun hs38 => ?_)
                      · replace hf := (if_pos hs38).symm.trans hf
                        refine lv_tableIn (tgt := 168) C.1.1 C.1.2.1 dX7_house_15 (by rw [hs38]; decide) (by rw [hs38]; decide) (off := 153) (by rw [hs38]; rfl) (by decide) ?_
                        refine lv_aload_n C.1.1 C.1.2.1 dX7_house_168 rfl (lv_at hl 0 rfl) ?_
                        refine lv_iload_n C.1.1 C.1.2.1 dX7_house_169 rfl (lv_at hl 1 rfl) ?_
                        obtain ⟨⟨r41, σ40⟩, hc39, hf⟩ := bd hf
                        try dsimp only at hf
                        refine cVi C hW (mX7_rentOf hk_a0 hc39) hk_a0 kvX7_rentOf w_1358 ⟨(Nat.le_of_ble_eq_true rfl), (Nat.le_of_ble_eq_true rfl)⟩ ⟨Nat.zero_le _, Nat.zero_le _⟩ rfl hl.1 (rest := []) rfl (Nat.le_of_ble_eq_true rfl) dX7_house_170 (fun H locs hn42 hW => ?_)
                        exact ri hQ C hr hlk hW hf (rok_i _) dX7_house_173
                      · replace hf := (if_neg hs38).symm.trans hf
                        refine lv_tableOut (tgt := 174) C.1.1 C.1.2.1 dX7_house_15 (by have := sw_n 0 (by decide) hs11; have := sw_n 1 (by decide) hs14; have := sw_n 2 (by decide) hs17; have := sw_n 3 (by decide) hs20; have := sw_n 4 (by decide) hs23; have := sw_n 5 (by decide) hs26; have := sw_n 6 (by decide) hs29; have := sw_n 7 (by decide) hs32; have := sw_n 8 (by decide) hs35; have := sw_n 9 (by decide) hs38; omega) (by decide) ?_
                        refine lv_iconst (v := (-1)) C.1.1 C.1.2.1 dX7_house_174 (by decide) ?_
                        exact ri hQ C hr hlk hW hf (rok_i _) dX7_house_175
  · replace hf := (if_pos h9).symm.trans hf
    refine lv_iconst (v := (-1)) C.1.1 C.1.2.1 dX7_house_8 (by decide) ?_
    exact ri hQ C hr hlk hW hf (rok_i _) dX7_house_9
theorem kvX7_spare : KV 7 "RightKeysModel" yX7_spare cX7_spare 3 (some .int) 2 := ⟨⟨w_1389, w_1390, w_116, w_1391⟩, ⟨rfl, by decide, by decide, by decide +kernel⟩, by decide, rfl⟩
noncomputable def fX7_spare (a0 : Nat) (p1 : Int32) (p2 : Int32) (σ : Sg) : Option (Int32 × Sg) := (fX7_isSpare a0 p1 σ).bind (fun q5 => let r3 := q5.1; let σ2 := q5.2; if r3 = 0 then (some ((-1 : Int32), σ2)) else (if p2 = 0 then (if vin (((6 : Int32) * (σ2.1 a0 18)) + p1) 12 then (some ((σ2.1 (a0 + 15) (((((6 : Int32) * (σ2.1 a0 18)) + p1)).toNatClampNeg)), σ2)) else none) else (if p2 = 1 then (if vin ((72 : Int32) + p1) 88 then (some ((σ2.1 (a0 + 30) ((((72 : Int32) + p1)).toNatClampNeg)), σ2)) else none) else (if p2 = 2 then (if vin ((78 : Int32) + p1) 88 then (some ((σ2.1 (a0 + 30) ((((78 : Int32) + p1)).toNatClampNeg)), σ2)) else none) else ((some ((-1 : Int32), σ2)))))))
set_option maxRecDepth 100000 in
set_option maxHeartbeats 4000000 in
theorem mX7_spare {l : Launch} {G : Gm} {a0 : Nat} {p1 : Int32} {p2 : Int32} {σ : Sg} {r : Int32} {σ' : Sg} (hk_a0 : gK G a0 = 8) (hf : fX7_spare a0 p1 p2 σ = some (r, σ')) : Mi l G yX7_spare cX7_spare 3 .int 2 43 [.ref (gB G + a0), .int p1, .int p2] σ r σ' := by
  refine of_W "RightKeysModel" rfl (by decide) (Nat.le_of_ble_eq_true rfl) ?_
  intro p e s m args below meth c Q hQ C hr hlk hW ls hl
  have h00 := hW.1
  have hl : lv_has ls 3 [(0, .ref (gB G + a0)), (1, .int p1), (2, .int p2)] := hl
  delta fX7_spare at hf
  refine lv_aload_n C.1.1 C.1.2.1 dX7_spare_0 rfl (lv_at hl 0 rfl) ?_
  refine lv_iload_n C.1.1 C.1.2.1 dX7_spare_1 rfl (lv_at hl 1 rfl) ?_
  obtain ⟨⟨r3, σ2⟩, hc1, hf⟩ := bd hf
  try dsimp only at hf
  refine cVi C hW (mX7_isSpare hk_a0 hc1) hk_a0 kvX7_isSpare w_1392 ⟨(Nat.le_of_ble_eq_true rfl), (Nat.le_of_ble_eq_true rfl)⟩ ⟨Nat.zero_le _, Nat.zero_le _⟩ rfl hl.1 (rest := []) rfl (Nat.le_of_ble_eq_true rfl) dX7_spare_2 (fun H locs hn4 hW => ?_)
  refine lv_if_ne (tgt := 10) C.1.1 C.1.2.1 dX7_spare_5 (by decide) (fun h9 => ?_) (fun h9 => ?_)
  · replace hf := (if_neg h9).symm.trans hf
    refine lv_iload_n C.1.1 C.1.2.1 dX7_spare_10 rfl (lv_at hl 2 rfl) ?_
    refine sw_c (k := 0) (fun hs6 => ?_) (fun hs6 => ?_)
    · replace hf := (if_pos hs6).symm.trans hf
      refine lv_tableIn (tgt := 36) C.1.1 C.1.2.1 dX7_spare_11 (by rw [hs6]; decide) (by rw [hs6]; decide) (off := 25) (by rw [hs6]; rfl) (by decide) ?_
      refine lv_aload_n C.1.1 C.1.2.1 dX7_spare_36 rfl (lv_at hl 0 rfl) ?_
      have hk7 := sh7_28 hW hk_a0
      refine gf7_28 C hW hk_a0 w_1058 dX7_spare_37 ?_
      refine lv_bipush (v := 6) C.1.1 C.1.2.1 dX7_spare_40 (by decide) ?_
      refine lv_aload_n C.1.1 C.1.2.1 dX7_spare_42 rfl (lv_at hl 0 rfl) ?_
      refine gf7_18 C hW hk_a0 w_1048 dX7_spare_43 ?_
      refine lv_imul C.1.1 C.1.2.1 dX7_spare_46 ?_
      refine lv_iload_n C.1.1 C.1.2.1 dX7_spare_47 rfl (lv_at hl 1 rfl) ?_
      refine lv_iadd C.1.1 C.1.2.1 dX7_spare_48 ?_
      obtain ⟨hv8, hf⟩ := gd hf
      refine wai C hW hk7 (vin_p hv8) dX7_spare_49 ?_
      exact ri hQ C hr hlk hW hf (rok_i _) dX7_spare_50
    · replace hf := (if_neg hs6).symm.trans hf
      refine sw_c (k := 1) (fun hs9 => ?_) (fun hs9 => ?_)
      · replace hf := (if_pos hs9).symm.trans hf
        refine lv_tableIn (tgt := 51) C.1.1 C.1.2.1 dX7_spare_11 (by rw [hs9]; decide) (by rw [hs9]; decide) (off := 40) (by rw [hs9]; rfl) (by decide) ?_
        refine lv_aload_n C.1.1 C.1.2.1 dX7_spare_51 rfl (lv_at hl 0 rfl) ?_
        have hk10 := sh7_47 hW hk_a0
        refine gf7_47 C hW hk_a0 w_1077 dX7_spare_52 ?_
        refine lv_bipush (v := 72) C.1.1 C.1.2.1 dX7_spare_55 (by decide) ?_
        refine lv_iload_n C.1.1 C.1.2.1 dX7_spare_57 rfl (lv_at hl 1 rfl) ?_
        refine lv_iadd C.1.1 C.1.2.1 dX7_spare_58 ?_
        obtain ⟨hv11, hf⟩ := gd hf
        refine wai C hW hk10 (vin_p hv11) dX7_spare_59 ?_
        exact ri hQ C hr hlk hW hf (rok_i _) dX7_spare_60
      · replace hf := (if_neg hs9).symm.trans hf
        refine sw_c (k := 2) (fun hs12 => ?_) (fun hs12 => ?_)
        · replace hf := (if_pos hs12).symm.trans hf
          refine lv_tableIn (tgt := 61) C.1.1 C.1.2.1 dX7_spare_11 (by rw [hs12]; decide) (by rw [hs12]; decide) (off := 50) (by rw [hs12]; rfl) (by decide) ?_
          refine lv_aload_n C.1.1 C.1.2.1 dX7_spare_61 rfl (lv_at hl 0 rfl) ?_
          have hk13 := sh7_47 hW hk_a0
          refine gf7_47 C hW hk_a0 w_1077 dX7_spare_62 ?_
          refine lv_bipush (v := 78) C.1.1 C.1.2.1 dX7_spare_65 (by decide) ?_
          refine lv_iload_n C.1.1 C.1.2.1 dX7_spare_67 rfl (lv_at hl 1 rfl) ?_
          refine lv_iadd C.1.1 C.1.2.1 dX7_spare_68 ?_
          obtain ⟨hv14, hf⟩ := gd hf
          refine wai C hW hk13 (vin_p hv14) dX7_spare_69 ?_
          exact ri hQ C hr hlk hW hf (rok_i _) dX7_spare_70
        · replace hf := (if_neg hs12).symm.trans hf
          refine lv_tableOut (tgt := 71) C.1.1 C.1.2.1 dX7_spare_11 (by have := sw_n 0 (by decide) hs6; have := sw_n 1 (by decide) hs9; have := sw_n 2 (by decide) hs12; omega) (by decide) ?_
          refine lv_iconst (v := (-1)) C.1.1 C.1.2.1 dX7_spare_71 (by decide) ?_
          exact ri hQ C hr hlk hW hf (rok_i _) dX7_spare_72
  · replace hf := (if_pos h9).symm.trans hf
    refine lv_iconst (v := (-1)) C.1.1 C.1.2.1 dX7_spare_8 (by decide) ?_
    exact ri hQ C hr hlk hW hf (rok_i _) dX7_spare_9
theorem kvX7_lets : KV 7 "RightKeysModel" yX7_lets cX7_lets 3 (some .int) 2 := ⟨⟨w_1397, w_1398, w_116, w_1399⟩, ⟨rfl, by decide, by decide, by decide +kernel⟩, by decide, rfl⟩
noncomputable def fX7_lets (a0 : Nat) (p1 : Int32) (p2 : Int32) (σ : Sg) : Option (Int32 × Sg) := (fX7_isHouse a0 p1 σ).bind (fun q5 => let r3 := q5.1; let σ2 := q5.2; if r3 = 0 then (some ((-1 : Int32), σ2)) else ((fX7_isHouse a0 p2 σ2).bind (fun q10 => let r8 := q10.1; let σ7 := q10.2; if r8 = 0 then (some ((-1 : Int32), σ7)) else (if p1 = p2 then (some ((-1 : Int32), σ7)) else ((fX7_copies a0 σ7).bind (fun σ12 => (fX7_doesLet a0 p1 p2 σ12).bind (fun q20 => let r18 := q20.1; let σ17 := q20.2; if r18 = 0 then (some ((0 : Int32), σ17)) else (some ((1 : Int32), σ17)))))))))
set_option maxRecDepth 100000 in
set_option maxHeartbeats 4000000 in
theorem mX7_lets {l : Launch} {G : Gm} {a0 : Nat} {p1 : Int32} {p2 : Int32} {σ : Sg} {r : Int32} {σ' : Sg} (hk_a0 : gK G a0 = 8) (hf : fX7_lets a0 p1 p2 σ = some (r, σ')) : Mi l G yX7_lets cX7_lets 3 .int 3 75 [.ref (gB G + a0), .int p1, .int p2] σ r σ' := by
  refine of_W "RightKeysModel" rfl (by decide) (Nat.le_of_ble_eq_true rfl) ?_
  intro p e s m args below meth c Q hQ C hr hlk hW ls hl
  have h00 := hW.1
  have hl : lv_has ls 3 [(0, .ref (gB G + a0)), (1, .int p1), (2, .int p2)] := hl
  delta fX7_lets at hf
  refine lv_aload_n C.1.1 C.1.2.1 dX7_lets_0 rfl (lv_at hl 0 rfl) ?_
  refine lv_iload_n C.1.1 C.1.2.1 dX7_lets_1 rfl (lv_at hl 1 rfl) ?_
  obtain ⟨⟨r3, σ2⟩, hc1, hf⟩ := bd hf
  try dsimp only at hf
  refine cVi C hW (mX7_isHouse hk_a0 hc1) hk_a0 kvX7_isHouse w_1347 ⟨(Nat.le_of_ble_eq_true rfl), (Nat.le_of_ble_eq_true rfl)⟩ ⟨Nat.zero_le _, Nat.zero_le _⟩ rfl hl.1 (rest := []) rfl (Nat.le_of_ble_eq_true rfl) dX7_lets_2 (fun H locs hn4 hW => ?_)
  refine lv_if_eq (tgt := 21) C.1.1 C.1.2.1 dX7_lets_5 (by decide) (fun h9 => ?_) (fun h9 => ?_)
  · replace hf := (if_pos h9).symm.trans hf
    refine lv_iconst (v := (-1)) C.1.1 C.1.2.1 dX7_lets_21 (by decide) ?_
    exact ri hQ C hr hlk hW hf (rok_i _) dX7_lets_22
  · replace hf := (if_neg h9).symm.trans hf
    refine lv_aload_n C.1.1 C.1.2.1 dX7_lets_8 rfl (lv_at hl 0 rfl) ?_
    refine lv_iload_n C.1.1 C.1.2.1 dX7_lets_9 rfl (lv_at hl 2 rfl) ?_
    obtain ⟨⟨r8, σ7⟩, hc6, hf⟩ := bd hf
    try dsimp only at hf
    refine cVi C hW (mX7_isHouse hk_a0 hc6) hk_a0 kvX7_isHouse w_1347 ⟨(Nat.le_of_ble_eq_true rfl), (Nat.le_of_ble_eq_true rfl)⟩ ⟨Nat.zero_le _, Nat.zero_le _⟩ rfl hl.1 (rest := []) rfl (Nat.le_of_ble_eq_true rfl) dX7_lets_10 (fun H locs hn9 hW => ?_)
    refine lv_if_eq (tgt := 21) C.1.1 C.1.2.1 dX7_lets_13 (by decide) (fun h9 => ?_) (fun h9 => ?_)
    · replace hf := (if_pos h9).symm.trans hf
      refine lv_iconst (v := (-1)) C.1.1 C.1.2.1 dX7_lets_21 (by decide) ?_
      exact ri hQ C hr hlk hW hf (rok_i _) dX7_lets_22
    · replace hf := (if_neg h9).symm.trans hf
      refine lv_iload_n C.1.1 C.1.2.1 dX7_lets_16 rfl (lv_at hl 1 rfl) ?_
      refine lv_iload_n C.1.1 C.1.2.1 dX7_lets_17 rfl (lv_at hl 2 rfl) ?_
      refine lv_icmp_ne (tgt := 23) C.1.1 C.1.2.1 dX7_lets_18 (by decide) (fun h9 => ?_) (fun h9 => ?_)
      · replace hf := (if_neg h9).symm.trans hf
        refine lv_aload_n C.1.1 C.1.2.1 dX7_lets_23 rfl (lv_at hl 0 rfl) ?_
        obtain ⟨σ12, hc11, hf⟩ := bd hf
        try dsimp only at hf
        refine cVv C hW (mX7_copies hk_a0 hc11) hk_a0 kvX7_copies w_1354 ⟨(Nat.le_of_ble_eq_true rfl), (Nat.le_of_ble_eq_true rfl)⟩ ⟨Nat.zero_le _, Nat.zero_le _⟩ rfl hl.1 (rest := []) rfl (Nat.le_of_ble_eq_true rfl) dX7_lets_24 (fun H locs hW => ?_)
        refine lv_aload_n C.1.1 C.1.2.1 dX7_lets_27 rfl (lv_at hl 0 rfl) ?_
        refine lv_iload_n C.1.1 C.1.2.1 dX7_lets_28 rfl (lv_at hl 1 rfl) ?_
        refine lv_iload_n C.1.1 C.1.2.1 dX7_lets_29 rfl (lv_at hl 2 rfl) ?_
        obtain ⟨⟨r18, σ17⟩, hc16, hf⟩ := bd hf
        try dsimp only at hf
        refine cVi C hW (mX7_doesLet hk_a0 hc16) hk_a0 kvX7_doesLet w_1400 ⟨(Nat.le_of_ble_eq_true rfl), (Nat.le_of_ble_eq_true rfl)⟩ ⟨Nat.zero_le _, Nat.zero_le _⟩ rfl hl.1 (rest := []) rfl (Nat.le_of_ble_eq_true rfl) dX7_lets_30 (fun H locs hn19 hW => ?_)
        refine lv_if_eq (tgt := 40) C.1.1 C.1.2.1 dX7_lets_33 (by decide) (fun h9 => ?_) (fun h9 => ?_)
        · replace hf := (if_pos h9).symm.trans hf
          refine lv_iconst (v := 0) C.1.1 C.1.2.1 dX7_lets_40 (by decide) ?_
          exact ri hQ C hr hlk hW hf (rok_i _) dX7_lets_41
        · replace hf := (if_neg h9).symm.trans hf
          refine lv_iconst (v := 1) C.1.1 C.1.2.1 dX7_lets_36 (by decide) ?_
          refine lv_goto (tgt := 41) C.1.1 C.1.2.1 dX7_lets_37 (by decide) ?_
          exact ri hQ C hr hlk hW hf (rok_i _) dX7_lets_41
      · replace hf := (if_pos h9).symm.trans hf
        refine lv_iconst (v := (-1)) C.1.1 C.1.2.1 dX7_lets_21 (by decide) ?_
        exact ri hQ C hr hlk hW hf (rok_i _) dX7_lets_22
theorem kvX7_records : KV 7 "RightKeysModel" yX7_records cX7_records 2 none 0 := ⟨⟨w_1410, w_78, w_116, w_1411⟩, ⟨rfl, by decide, by decide, by decide +kernel⟩, by decide, rfl⟩
noncomputable def bX7_records_51 (a0 : Nat) (x1 : Int32) (σ : Sg) : Option ((Int32 × Sg) ⊕ (Sg)) := if (88 : Int32) ≤ x1 then (some (Sum.inr σ)) else (if vin x1 88 then (if vin (((88 : Int32) * (σ.1 a0 53)) + x1) 3520 then (let σ5 := wI σ (a0 + 33) (((((88 : Int32) * (σ.1 a0 53)) + x1)).toNatClampNeg) (σ.1 (a0 + 30) ((x1).toNatClampNeg)); (let x1_6 := x1 + (1 : Int32); some (Sum.inl (x1_6, σ5)))) else none) else none)
noncomputable def jX7_records_49 (a0 : Nat) (σ : Sg) : Option (Sg) := (lp (fun st => bX7_records_51 a0 st.1 st.2) ((0 : Int32), σ)).bind (fun σ8 => (let σ9 := wI σ8 a0 53 ((σ8.1 a0 53) + (1 : Int32)); (fX7_keepsRow a0 σ9).bind (fun σ11 => some σ11)))
noncomputable def bX7_records_11 (a0 : Nat) (x1 : Int32) (σ : Sg) : Option ((Int32 × Sg) ⊕ (Sg)) := if (3432 : Int32) ≤ x1 then (some (Sum.inr σ)) else (if vin (x1 + (88 : Int32)) 3520 then (if vin x1 3520 then (let σ19 := wI σ (a0 + 33) ((x1).toNatClampNeg) (σ.1 (a0 + 33) (((x1 + (88 : Int32))).toNatClampNeg)); (let x1_20 := x1 + (1 : Int32); some (Sum.inl (x1_20, σ19)))) else none) else none)
noncomputable def fX7_records (a0 : Nat) (σ : Sg) : Option (Sg) := if (σ.1 a0 53) = (40 : Int32) then ((lp (fun st => bX7_records_11 a0 st.1 st.2) ((0 : Int32), σ)).bind (fun σ22 => (let σ23 := wI σ22 a0 53 ((σ22.1 a0 53) - (1 : Int32)); jX7_records_49 a0 σ23))) else (jX7_records_49 a0 σ)
set_option maxRecDepth 100000 in
set_option maxHeartbeats 4000000 in
theorem mX7_records {l : Launch} {G : Gm} {a0 : Nat} {σ : Sg} {σ' : Sg} (hk_a0 : gK G a0 = 8) (hf : fX7_records a0 σ = some σ') : Mv l G yX7_records cX7_records 2 1 21 [.ref (gB G + a0)] σ σ' := by
  refine of_W "RightKeysModel" rfl (by decide) (Nat.le_of_ble_eq_true rfl) ?_
  intro p e s m args below meth c Q hQ C hr hlk hW ls hl
  have h00 := hW.1
  have hl : lv_has ls 2 [(0, .ref (gB G + a0))] := hl
  delta fX7_records at hf
  have L51 : ∀ (n : Nat) (x1 : Int32) (σ : Sg) (H : Heap) (locs : List Loc) (ls : Array Slot) (out : (Sg)), iter (fun st => bX7_records_51 a0 st.1 st.2) n (x1, σ) = some out → Ws G σ s.heap H locs → lv_has ls 2 [(0, .ref (gB G + a0)), (1, .int x1)] → (∀ (σ : Sg) (H : Heap) (locs : List Loc) (ls : Array Slot), out = σ → Ws G σ s.heap H locs → lv_has ls 2 [(0, .ref (gB G + a0))] → W p l e (rmOf 1 21) s m args below meth c H locs 0 0 Q (F0 m 83 ls [])) → W p l e (rmOf 1 21) s m args below meth c H locs 0 0 Q (F0 m 51 ls []) := by
    intro n
    induction n with
    | zero =>
      intro x1 σ H locs ls out hf
      exact (it_0 hf).elim
    | succ n ih =>
      intro x1 σ H locs ls out hf hW hl K51_83
      obtain ⟨x, hf, hx⟩ := it_s hf
      have hf : bX7_records_51 a0 x1 σ = some x := hf
      delta bX7_records_51 at hf
      refine lv_iload_n C.1.1 C.1.2.1 dX7_records_51 rfl (lv_at hl 1 rfl) ?_
      refine lv_bipush (v := 88) C.1.1 C.1.2.1 dX7_records_52 (by decide) ?_
      refine lv_icmp_ge (tgt := 83) C.1.1 C.1.2.1 dX7_records_54 (by decide) (fun h9 => ?_) (fun h9 => ?_)
      · replace hf := (if_pos h9).symm.trans hf
        cases hf
        cases hx
        exact K51_83 _ _ _ _ rfl hW (lv_sub hl [0] rfl)
      · replace hf := (if_neg h9).symm.trans hf
        refine lv_aload_n C.1.1 C.1.2.1 dX7_records_57 rfl (lv_at hl 0 rfl) ?_
        have hk1 := sh7_54 hW hk_a0
        refine gf7_54 C hW hk_a0 w_1084 dX7_records_58 ?_
        refine lv_bipush (v := 88) C.1.1 C.1.2.1 dX7_records_61 (by decide) ?_
        refine lv_aload_n C.1.1 C.1.2.1 dX7_records_63 rfl (lv_at hl 0 rfl) ?_
        refine gf7_53 C hW hk_a0 w_1083 dX7_records_64 ?_
        refine lv_imul C.1.1 C.1.2.1 dX7_records_67 ?_
        refine lv_iload_n C.1.1 C.1.2.1 dX7_records_68 rfl (lv_at hl 1 rfl) ?_
        refine lv_iadd C.1.1 C.1.2.1 dX7_records_69 ?_
        refine lv_aload_n C.1.1 C.1.2.1 dX7_records_70 rfl (lv_at hl 0 rfl) ?_
        have hk2 := sh7_47 hW hk_a0
        refine gf7_47 C hW hk_a0 w_1077 dX7_records_71 ?_
        refine lv_iload_n C.1.1 C.1.2.1 dX7_records_74 rfl (lv_at hl 1 rfl) ?_
        obtain ⟨hv3, hf⟩ := gd hf
        refine wai C hW hk2 (vin_p hv3) dX7_records_75 ?_
        obtain ⟨hv4, hf⟩ := gd hf
        refine wsi C hW hk1 (vin_p hv4) dX7_records_76 (fun H locs hW => ?_)
        refine lv_iinc (v := _) (lv' := [(1, .int _), (0, .ref _)]) C.1.1 C.1.2.1 dX7_records_77 hl (k := 1) rfl (ii (k := 1) (by decide)) (by decide) rfl (fun ls hl => ?_)
        refine lv_goto (tgt := 51) C.1.1 C.1.2.1 dX7_records_80 (by decide) ?_
        cases hf
        exact ih _ _ _ _ _ _ hx hW (lv_sub hl [1, 0] rfl) K51_83
  have J49 : ∀ (σ : Sg) (H : Heap) (locs : List Loc) (ls : Array Slot), jX7_records_49 a0 σ = some σ' → Ws G σ s.heap H locs → lv_has ls 2 [(0, .ref (gB G + a0))] → W p l e (rmOf 1 21) s m args below meth c H locs 0 0 Q (F0 m 49 ls []) := by
    intro σ H locs ls hf hW hl
    delta jX7_records_49 at hf
    refine lv_iconst (v := 0) C.1.1 C.1.2.1 dX7_records_49 (by decide) ?_
    refine lv_istore_n (lv' := [(1, .int _), (0, .ref _)]) C.1.1 C.1.2.1 dX7_records_50 rfl hl (by decide) rfl (fun ls hl => ?_)
    obtain ⟨o7, ho, hf⟩ := bd hf
    obtain ⟨n, ho⟩ := lp_it ho
    refine L51 n _ _ _ _ _ o7 ho hW (lv_sub hl [1, 0] rfl) ?_
    intro  σ8 H locs ls e9 hW hl
    subst e9
    try dsimp only at hf
    refine lv_aload_n C.1.1 C.1.2.1 dX7_records_83 rfl (lv_at hl 0 rfl) ?_
    refine lv_dup C.1.1 C.1.2.1 dX7_records_84 rfl ?_
    refine gf7_53 C hW hk_a0 w_1083 dX7_records_85 ?_
    refine lv_iconst (v := 1) C.1.1 C.1.2.1 dX7_records_88 (by decide) ?_
    refine lv_iadd C.1.1 C.1.2.1 dX7_records_89 ?_
    refine pf7_53 C hW hk_a0 w_1083 dX7_records_90 (fun H locs hW => ?_)
    refine lv_aload_n C.1.1 C.1.2.1 dX7_records_93 rfl (lv_at hl 0 rfl) ?_
    obtain ⟨σ11, hc10, hf⟩ := bd hf
    try dsimp only at hf
    refine cVv C hW (mX7_keepsRow hk_a0 hc10) hk_a0 kvX7_keepsRow w_1027 ⟨(Nat.le_of_ble_eq_true rfl), (Nat.le_of_ble_eq_true rfl)⟩ ⟨Nat.zero_le _, Nat.zero_le _⟩ rfl hl.1 (rest := []) rfl (Nat.le_of_ble_eq_true rfl) dX7_records_94 (fun H locs hW => ?_)
    exact rv hQ C hr hlk hW hf dX7_records_97
  have L11 : ∀ (n : Nat) (x1 : Int32) (σ : Sg) (H : Heap) (locs : List Loc) (ls : Array Slot) (out : (Sg)), iter (fun st => bX7_records_11 a0 st.1 st.2) n (x1, σ) = some out → Ws G σ s.heap H locs → lv_has ls 2 [(0, .ref (gB G + a0)), (1, .int x1)] → (∀ (σ : Sg) (H : Heap) (locs : List Loc) (ls : Array Slot), out = σ → Ws G σ s.heap H locs → lv_has ls 2 [(0, .ref (gB G + a0))] → W p l e (rmOf 1 21) s m args below meth c H locs 0 0 Q (F0 m 39 ls [])) → W p l e (rmOf 1 21) s m args below meth c H locs 0 0 Q (F0 m 11 ls []) := by
    intro n
    induction n with
    | zero =>
      intro x1 σ H locs ls out hf
      exact (it_0 hf).elim
    | succ n ih =>
      intro x1 σ H locs ls out hf hW hl K11_39
      obtain ⟨x, hf, hx⟩ := it_s hf
      have hf : bX7_records_11 a0 x1 σ = some x := hf
      delta bX7_records_11 at hf
      refine lv_iload_n C.1.1 C.1.2.1 dX7_records_11 rfl (lv_at hl 1 rfl) ?_
      refine lv_sipush (v := 3432) C.1.1 C.1.2.1 dX7_records_12 (by decide) ?_
      refine lv_icmp_ge (tgt := 39) C.1.1 C.1.2.1 dX7_records_15 (by decide) (fun h9 => ?_) (fun h9 => ?_)
      · replace hf := (if_pos h9).symm.trans hf
        cases hf
        cases hx
        exact K11_39 _ _ _ _ rfl hW (lv_sub hl [0] rfl)
      · replace hf := (if_neg h9).symm.trans hf
        refine lv_aload_n C.1.1 C.1.2.1 dX7_records_18 rfl (lv_at hl 0 rfl) ?_
        have hk15 := sh7_54 hW hk_a0
        refine gf7_54 C hW hk_a0 w_1084 dX7_records_19 ?_
        refine lv_iload_n C.1.1 C.1.2.1 dX7_records_22 rfl (lv_at hl 1 rfl) ?_
        refine lv_aload_n C.1.1 C.1.2.1 dX7_records_23 rfl (lv_at hl 0 rfl) ?_
        have hk16 := sh7_54 hW hk_a0
        refine gf7_54 C hW hk_a0 w_1084 dX7_records_24 ?_
        refine lv_iload_n C.1.1 C.1.2.1 dX7_records_27 rfl (lv_at hl 1 rfl) ?_
        refine lv_bipush (v := 88) C.1.1 C.1.2.1 dX7_records_28 (by decide) ?_
        refine lv_iadd C.1.1 C.1.2.1 dX7_records_30 ?_
        obtain ⟨hv17, hf⟩ := gd hf
        refine wai C hW hk16 (vin_p hv17) dX7_records_31 ?_
        obtain ⟨hv18, hf⟩ := gd hf
        refine wsi C hW hk15 (vin_p hv18) dX7_records_32 (fun H locs hW => ?_)
        refine lv_iinc (v := _) (lv' := [(1, .int _), (0, .ref _)]) C.1.1 C.1.2.1 dX7_records_33 hl (k := 1) rfl (ii (k := 1) (by decide)) (by decide) rfl (fun ls hl => ?_)
        refine lv_goto (tgt := 11) C.1.1 C.1.2.1 dX7_records_36 (by decide) ?_
        cases hf
        exact ih _ _ _ _ _ _ hx hW (lv_sub hl [1, 0] rfl) K11_39
  refine lv_aload_n C.1.1 C.1.2.1 dX7_records_0 rfl (lv_at hl 0 rfl) ?_
  refine gf7_53 C hW hk_a0 w_1083 dX7_records_1 ?_
  refine lv_bipush (v := 40) C.1.1 C.1.2.1 dX7_records_4 (by decide) ?_
  refine lv_icmp_ne (tgt := 49) C.1.1 C.1.2.1 dX7_records_6 (by decide) (fun h9 => ?_) (fun h9 => ?_)
  · replace hf := (if_neg h9).symm.trans hf
    exact J49 _ _ _ _ hf hW (lv_sub hl [0] rfl)
  · replace hf := (if_pos h9).symm.trans hf
    refine lv_iconst (v := 0) C.1.1 C.1.2.1 dX7_records_9 (by decide) ?_
    refine lv_istore_n (lv' := [(1, .int _), (0, .ref _)]) C.1.1 C.1.2.1 dX7_records_10 rfl hl (by decide) rfl (fun ls hl => ?_)
    obtain ⟨o21, ho, hf⟩ := bd hf
    obtain ⟨n, ho⟩ := lp_it ho
    refine L11 n _ _ _ _ _ o21 ho hW (lv_sub hl [1, 0] rfl) ?_
    intro  σ22 H locs ls e9 hW hl
    subst e9
    try dsimp only at hf
    refine lv_aload_n C.1.1 C.1.2.1 dX7_records_39 rfl (lv_at hl 0 rfl) ?_
    refine lv_dup C.1.1 C.1.2.1 dX7_records_40 rfl ?_
    refine gf7_53 C hW hk_a0 w_1083 dX7_records_41 ?_
    refine lv_iconst (v := 1) C.1.1 C.1.2.1 dX7_records_44 (by decide) ?_
    refine lv_isub C.1.1 C.1.2.1 dX7_records_45 ?_
    refine pf7_53 C hW hk_a0 w_1083 dX7_records_46 (fun H locs hW => ?_)
    exact J49 _ _ _ _ hf hW (lv_sub hl [0] rfl)
theorem kvX7_keep : KV 7 "RightKeysModel" yX7_keep cX7_keep 3 (some .boolean) 2 := ⟨⟨w_1405, w_1406, w_116, w_1407⟩, ⟨rfl, by decide, by decide, by decide +kernel⟩, by decide, rfl⟩
noncomputable def jX7_keep_53 (a0 : Nat) (p1 : Int32) (p2 : Int32) (s0 : Nat) (s1 : Int32) (s2 : Int32) (σ : Sg) : Option (Int32 × Sg) := if vin s1 88 then (let σ15 := wI σ s0 ((s1).toNatClampNeg) s2; (fX7_records a0 σ15).bind (fun σ17 => some ((1 : Int32), σ17))) else none
noncomputable def jX7_keep_26 (a0 : Nat) (p1 : Int32) (p2 : Int32) (s0 : Int32) (σ : Sg) : Option (Int32 × Sg) := if s0 = p2 then (some ((0 : Int32), σ)) else ((fX7_copies a0 σ).bind (fun σ9 => if p2 = 0 then (jX7_keep_53 a0 p1 p2 (a0 + 31) ((32 : Int32) + p1) (0 : Int32) σ9) else (jX7_keep_53 a0 p1 p2 (a0 + 31) ((32 : Int32) + p1) (1 : Int32) σ9)))
noncomputable def fX7_keep (a0 : Nat) (p1 : Int32) (p2 : Int32) (σ : Sg) : Option (Int32 × Sg) := (fX7_isHouse a0 p1 σ).bind (fun q5 => let r3 := q5.1; let σ2 := q5.2; if r3 = 0 then (some ((0 : Int32), σ2)) else (if vin ((32 : Int32) + p1) 88 then (if (σ2.1 (a0 + 30) ((((32 : Int32) + p1)).toNatClampNeg)) = (1 : Int32) then (jX7_keep_26 a0 p1 p2 (1 : Int32) σ2) else (jX7_keep_26 a0 p1 p2 (0 : Int32) σ2)) else none))
set_option maxRecDepth 100000 in
set_option maxHeartbeats 4000000 in
theorem mX7_keep {l : Launch} {G : Gm} {a0 : Nat} {p1 : Int32} {p2 : Int32} {σ : Sg} {r : Int32} {σ' : Sg} (hk_a0 : gK G a0 = 8) (hf : fX7_keep a0 p1 p2 σ = some (r, σ')) : Mi l G yX7_keep cX7_keep 3 .boolean 2 43 [.ref (gB G + a0), .int p1, .int p2] σ r σ' := by
  refine of_W "RightKeysModel" rfl (by decide) (Nat.le_of_ble_eq_true rfl) ?_
  intro p e s m args below meth c Q hQ C hr hlk hW ls hl
  have h00 := hW.1
  have hl : lv_has ls 3 [(0, .ref (gB G + a0)), (1, .int p1), (2, .int p2)] := hl
  delta fX7_keep at hf
  have J53 : ∀ (s0 : Nat) (s1 : Int32) (s2 : Int32) (σ : Sg) (H : Heap) (locs : List Loc) (ls : Array Slot) (hk_s0 : gK G s0 = kA 1 88), jX7_keep_53 a0 p1 p2 s0 s1 s2 σ = some (r, σ') → Ws G σ s.heap H locs → lv_has ls 3 [(0, .ref (gB G + a0))] → W p l e (rmOf 2 43) s m args below meth c H locs 0 0 Q (F0 m 53 ls [.int s2, .int s1, .ref (gB G + s0)]) := by
    intro s0 s1 s2 σ H locs ls hk_s0 hf hW hl
    delta jX7_keep_53 at hf
    obtain ⟨hv14, hf⟩ := gd hf
    refine wsi C hW hk_s0 (vin_p hv14) dX7_keep_53 (fun H locs hW => ?_)
    refine lv_aload_n C.1.1 C.1.2.1 dX7_keep_54 rfl (lv_at hl 0 rfl) ?_
    obtain ⟨σ17, hc16, hf⟩ := bd hf
    try dsimp only at hf
    refine cVv C hW (mX7_records hk_a0 hc16) hk_a0 kvX7_records w_1408 ⟨(Nat.le_of_ble_eq_true rfl), (Nat.le_of_ble_eq_true rfl)⟩ ⟨Nat.zero_le _, Nat.zero_le _⟩ rfl hl.1 (rest := []) rfl (Nat.le_of_ble_eq_true rfl) dX7_keep_55 (fun H locs hW => ?_)
    refine lv_iconst (v := 1) C.1.1 C.1.2.1 dX7_keep_58 (by decide) ?_
    exact ri hQ C hr hlk hW hf (rok_z (Or.inr rfl)) dX7_keep_59
  have J26 : ∀ (s0 : Int32) (σ : Sg) (H : Heap) (locs : List Loc) (ls : Array Slot), jX7_keep_26 a0 p1 p2 s0 σ = some (r, σ') → Ws G σ s.heap H locs → lv_has ls 3 [(0, .ref (gB G + a0)), (1, .int p1), (2, .int p2)] → W p l e (rmOf 2 43) s m args below meth c H locs 0 0 Q (F0 m 26 ls [.int s0]) := by
    intro s0 σ H locs ls hf hW hl
    delta jX7_keep_26 at hf
    refine lv_iload_n C.1.1 C.1.2.1 dX7_keep_26 rfl (lv_at hl 2 rfl) ?_
    refine lv_icmp_ne (tgt := 32) C.1.1 C.1.2.1 dX7_keep_27 (by decide) (fun h9 => ?_) (fun h9 => ?_)
    · replace hf := (if_neg h9).symm.trans hf
      refine lv_aload_n C.1.1 C.1.2.1 dX7_keep_32 rfl (lv_at hl 0 rfl) ?_
      obtain ⟨σ9, hc8, hf⟩ := bd hf
      try dsimp only at hf
      refine cVv C hW (mX7_copies hk_a0 hc8) hk_a0 kvX7_copies w_1354 ⟨(Nat.le_of_ble_eq_true rfl), (Nat.le_of_ble_eq_true rfl)⟩ ⟨Nat.zero_le _, Nat.zero_le _⟩ rfl hl.1 (rest := []) rfl (Nat.le_of_ble_eq_true rfl) dX7_keep_33 (fun H locs hW => ?_)
      refine lv_aload_n C.1.1 C.1.2.1 dX7_keep_36 rfl (lv_at hl 0 rfl) ?_
      have hk13 := sh7_48 hW hk_a0
      refine gf7_48 C hW hk_a0 w_1078 dX7_keep_37 ?_
      refine lv_bipush (v := 32) C.1.1 C.1.2.1 dX7_keep_40 (by decide) ?_
      refine lv_iload_n C.1.1 C.1.2.1 dX7_keep_42 rfl (lv_at hl 1 rfl) ?_
      refine lv_iadd C.1.1 C.1.2.1 dX7_keep_43 ?_
      refine lv_iload_n C.1.1 C.1.2.1 dX7_keep_44 rfl (lv_at hl 2 rfl) ?_
      refine lv_if_eq (tgt := 52) C.1.1 C.1.2.1 dX7_keep_45 (by decide) (fun h9 => ?_) (fun h9 => ?_)
      · replace hf := (if_pos h9).symm.trans hf
        refine lv_iconst (v := 0) C.1.1 C.1.2.1 dX7_keep_52 (by decide) ?_
        exact J53 _ _ _ _ _ _ _ hk13 hf hW (lv_sub hl [0] rfl)
      · replace hf := (if_neg h9).symm.trans hf
        refine lv_iconst (v := 1) C.1.1 C.1.2.1 dX7_keep_48 (by decide) ?_
        refine lv_goto (tgt := 53) C.1.1 C.1.2.1 dX7_keep_49 (by decide) ?_
        exact J53 _ _ _ _ _ _ _ hk13 hf hW (lv_sub hl [0] rfl)
    · replace hf := (if_pos h9).symm.trans hf
      refine lv_iconst (v := 0) C.1.1 C.1.2.1 dX7_keep_30 (by decide) ?_
      exact ri hQ C hr hlk hW hf (rok_z (Or.inl rfl)) dX7_keep_31
  refine lv_aload_n C.1.1 C.1.2.1 dX7_keep_0 rfl (lv_at hl 0 rfl) ?_
  refine lv_iload_n C.1.1 C.1.2.1 dX7_keep_1 rfl (lv_at hl 1 rfl) ?_
  obtain ⟨⟨r3, σ2⟩, hc1, hf⟩ := bd hf
  try dsimp only at hf
  refine cVi C hW (mX7_isHouse hk_a0 hc1) hk_a0 kvX7_isHouse w_1347 ⟨(Nat.le_of_ble_eq_true rfl), (Nat.le_of_ble_eq_true rfl)⟩ ⟨Nat.zero_le _, Nat.zero_le _⟩ rfl hl.1 (rest := []) rfl (Nat.le_of_ble_eq_true rfl) dX7_keep_2 (fun H locs hn4 hW => ?_)
  refine lv_if_eq (tgt := 30) C.1.1 C.1.2.1 dX7_keep_5 (by decide) (fun h9 => ?_) (fun h9 => ?_)
  · replace hf := (if_pos h9).symm.trans hf
    refine lv_iconst (v := 0) C.1.1 C.1.2.1 dX7_keep_30 (by decide) ?_
    exact ri hQ C hr hlk hW hf (rok_z (Or.inl rfl)) dX7_keep_31
  · replace hf := (if_neg h9).symm.trans hf
    refine lv_aload_n C.1.1 C.1.2.1 dX7_keep_8 rfl (lv_at hl 0 rfl) ?_
    have hk6 := sh7_47 hW hk_a0
    refine gf7_47 C hW hk_a0 w_1077 dX7_keep_9 ?_
    refine lv_bipush (v := 32) C.1.1 C.1.2.1 dX7_keep_12 (by decide) ?_
    refine lv_iload_n C.1.1 C.1.2.1 dX7_keep_14 rfl (lv_at hl 1 rfl) ?_
    refine lv_iadd C.1.1 C.1.2.1 dX7_keep_15 ?_
    obtain ⟨hv7, hf⟩ := gd hf
    refine wai C hW hk6 (vin_p hv7) dX7_keep_16 ?_
    refine lv_iconst (v := 1) C.1.1 C.1.2.1 dX7_keep_17 (by decide) ?_
    refine lv_icmp_ne (tgt := 25) C.1.1 C.1.2.1 dX7_keep_18 (by decide) (fun h9 => ?_) (fun h9 => ?_)
    · replace hf := (if_neg h9).symm.trans hf
      refine lv_iconst (v := 0) C.1.1 C.1.2.1 dX7_keep_25 (by decide) ?_
      exact J26 _ _ _ _ _ hf hW (lv_sub hl [0, 1, 2] rfl)
    · replace hf := (if_pos h9).symm.trans hf
      refine lv_iconst (v := 1) C.1.1 C.1.2.1 dX7_keep_21 (by decide) ?_
      refine lv_goto (tgt := 26) C.1.1 C.1.2.1 dX7_keep_22 (by decide) ?_
      exact J26 _ _ _ _ _ hf hW (lv_sub hl [0, 1, 2] rfl)
theorem kvX7_pass : KV 7 "RightKeysModel" yX7_pass cX7_pass 4 (some .boolean) 2 := ⟨⟨w_1413, w_1414, w_116, w_1415⟩, ⟨rfl, by decide, by decide, by decide +kernel⟩, by decide, rfl⟩
noncomputable def jX7_pass_34 (a0 : Nat) (p1 : Int32) (p2 : Int32) (s0 : Int32) (σ : Sg) : Option (Int32 × Sg) := if vin ((78 : Int32) + p1) 88 then (if (σ.1 (a0 + 30) ((((78 : Int32) + p1)).toNatClampNeg)) = s0 then (some ((0 : Int32), σ)) else ((fX7_copies a0 σ).bind (fun σ9 => (let σ14 := wI σ9 (a0 + 31) ((((78 : Int32) + p1)).toNatClampNeg) s0; (fX7_records a0 σ14).bind (fun σ16 => some ((1 : Int32), σ16)))))) else none
noncomputable def jX7_pass_23 (a0 : Nat) (p1 : Int32) (p2 : Int32) (σ : Sg) : Option (Int32 × Sg) := if p2 = (-1 : Int32) then (jX7_pass_34 a0 p1 p2 (-2 : Int32) σ) else (jX7_pass_34 a0 p1 p2 p2 σ)
noncomputable def fX7_pass (a0 : Nat) (p1 : Int32) (p2 : Int32) (σ : Sg) : Option (Int32 × Sg) := (fX7_isSpare a0 p1 σ).bind (fun q5 => let r3 := q5.1; let σ2 := q5.2; if r3 = 0 then (some ((0 : Int32), σ2)) else (if p2 = (-1 : Int32) then (jX7_pass_23 a0 p1 p2 σ2) else ((fX7_isHouse a0 p2 σ2).bind (fun q24 => let r22 := q24.1; let σ21 := q24.2; if r22 = 0 then (some ((0 : Int32), σ21)) else (jX7_pass_23 a0 p1 p2 σ21)))))
set_option maxRecDepth 100000 in
set_option maxHeartbeats 4000000 in
theorem mX7_pass {l : Launch} {G : Gm} {a0 : Nat} {p1 : Int32} {p2 : Int32} {σ : Sg} {r : Int32} {σ' : Sg} (hk_a0 : gK G a0 = 8) (hf : fX7_pass a0 p1 p2 σ = some (r, σ')) : Mi l G yX7_pass cX7_pass 4 .boolean 2 43 [.ref (gB G + a0), .int p1, .int p2] σ r σ' := by
  refine of_W "RightKeysModel" rfl (by decide) (Nat.le_of_ble_eq_true rfl) ?_
  intro p e s m args below meth c Q hQ C hr hlk hW ls hl
  have h00 := hW.1
  have hl : lv_has ls 4 [(0, .ref (gB G + a0)), (1, .int p1), (2, .int p2)] := hl
  delta fX7_pass at hf
  have J34 : ∀ (s0 : Int32) (σ : Sg) (H : Heap) (locs : List Loc) (ls : Array Slot), jX7_pass_34 a0 p1 p2 s0 σ = some (r, σ') → Ws G σ s.heap H locs → lv_has ls 4 [(0, .ref (gB G + a0)), (1, .int p1)] → W p l e (rmOf 2 43) s m args below meth c H locs 0 0 Q (F0 m 34 ls [.int s0]) := by
    intro s0 σ H locs ls hf hW hl
    delta jX7_pass_34 at hf
    refine lv_istore_n (lv' := [(3, .int _), (0, .ref _), (1, .int _)]) C.1.1 C.1.2.1 dX7_pass_34 rfl hl (by decide) rfl (fun ls hl => ?_)
    refine lv_aload_n C.1.1 C.1.2.1 dX7_pass_35 rfl (lv_at hl 1 rfl) ?_
    have hk6 := sh7_47 hW hk_a0
    refine gf7_47 C hW hk_a0 w_1077 dX7_pass_36 ?_
    refine lv_bipush (v := 78) C.1.1 C.1.2.1 dX7_pass_39 (by decide) ?_
    refine lv_iload_n C.1.1 C.1.2.1 dX7_pass_41 rfl (lv_at hl 2 rfl) ?_
    refine lv_iadd C.1.1 C.1.2.1 dX7_pass_42 ?_
    obtain ⟨hv7, hf⟩ := gd hf
    refine wai C hW hk6 (vin_p hv7) dX7_pass_43 ?_
    refine lv_iload_n C.1.1 C.1.2.1 dX7_pass_44 rfl (lv_at hl 0 rfl) ?_
    refine lv_icmp_ne (tgt := 50) C.1.1 C.1.2.1 dX7_pass_45 (by decide) (fun h9 => ?_) (fun h9 => ?_)
    · replace hf := (if_neg h9).symm.trans hf
      refine lv_aload_n C.1.1 C.1.2.1 dX7_pass_50 rfl (lv_at hl 1 rfl) ?_
      obtain ⟨σ9, hc8, hf⟩ := bd hf
      try dsimp only at hf
      refine cVv C hW (mX7_copies hk_a0 hc8) hk_a0 kvX7_copies w_1354 ⟨(Nat.le_of_ble_eq_true rfl), (Nat.le_of_ble_eq_true rfl)⟩ ⟨Nat.zero_le _, Nat.zero_le _⟩ rfl hl.1 (rest := []) rfl (Nat.le_of_ble_eq_true rfl) dX7_pass_51 (fun H locs hW => ?_)
      refine lv_aload_n C.1.1 C.1.2.1 dX7_pass_54 rfl (lv_at hl 1 rfl) ?_
      have hk13 := sh7_48 hW hk_a0
      refine gf7_48 C hW hk_a0 w_1078 dX7_pass_55 ?_
      refine lv_bipush (v := 78) C.1.1 C.1.2.1 dX7_pass_58 (by decide) ?_
      refine lv_iload_n C.1.1 C.1.2.1 dX7_pass_60 rfl (lv_at hl 2 rfl) ?_
      refine lv_iadd C.1.1 C.1.2.1 dX7_pass_61 ?_
      refine lv_iload_n C.1.1 C.1.2.1 dX7_pass_62 rfl (lv_at hl 0 rfl) ?_
      refine wsi C hW hk13 (vin_p hv7) dX7_pass_63 (fun H locs hW => ?_)
      refine lv_aload_n C.1.1 C.1.2.1 dX7_pass_64 rfl (lv_at hl 1 rfl) ?_
      obtain ⟨σ16, hc15, hf⟩ := bd hf
      try dsimp only at hf
      refine cVv C hW (mX7_records hk_a0 hc15) hk_a0 kvX7_records w_1408 ⟨(Nat.le_of_ble_eq_true rfl), (Nat.le_of_ble_eq_true rfl)⟩ ⟨Nat.zero_le _, Nat.zero_le _⟩ rfl hl.1 (rest := []) rfl (Nat.le_of_ble_eq_true rfl) dX7_pass_65 (fun H locs hW => ?_)
      refine lv_iconst (v := 1) C.1.1 C.1.2.1 dX7_pass_68 (by decide) ?_
      exact ri hQ C hr hlk hW hf (rok_z (Or.inr rfl)) dX7_pass_69
    · replace hf := (if_pos h9).symm.trans hf
      refine lv_iconst (v := 0) C.1.1 C.1.2.1 dX7_pass_48 (by decide) ?_
      exact ri hQ C hr hlk hW hf (rok_z (Or.inl rfl)) dX7_pass_49
  have J23 : ∀ (σ : Sg) (H : Heap) (locs : List Loc) (ls : Array Slot), jX7_pass_23 a0 p1 p2 σ = some (r, σ') → Ws G σ s.heap H locs → lv_has ls 4 [(0, .ref (gB G + a0)), (1, .int p1), (2, .int p2)] → W p l e (rmOf 2 43) s m args below meth c H locs 0 0 Q (F0 m 23 ls []) := by
    intro σ H locs ls hf hW hl
    delta jX7_pass_23 at hf
    refine lv_iload_n C.1.1 C.1.2.1 dX7_pass_23 rfl (lv_at hl 2 rfl) ?_
    refine lv_iconst (v := (-1)) C.1.1 C.1.2.1 dX7_pass_24 (by decide) ?_
    refine lv_icmp_ne (tgt := 33) C.1.1 C.1.2.1 dX7_pass_25 (by decide) (fun h9 => ?_) (fun h9 => ?_)
    · replace hf := (if_neg h9).symm.trans hf
      refine lv_iload_n C.1.1 C.1.2.1 dX7_pass_33 rfl (lv_at hl 2 rfl) ?_
      exact J34 _ _ _ _ _ hf hW (lv_sub hl [0, 1] rfl)
    · replace hf := (if_pos h9).symm.trans hf
      refine lv_bipush (v := (-2)) C.1.1 C.1.2.1 dX7_pass_28 (by decide) ?_
      refine lv_goto (tgt := 34) C.1.1 C.1.2.1 dX7_pass_30 (by decide) ?_
      exact J34 _ _ _ _ _ hf hW (lv_sub hl [0, 1] rfl)
  refine lv_aload_n C.1.1 C.1.2.1 dX7_pass_0 rfl (lv_at hl 0 rfl) ?_
  refine lv_iload_n C.1.1 C.1.2.1 dX7_pass_1 rfl (lv_at hl 1 rfl) ?_
  obtain ⟨⟨r3, σ2⟩, hc1, hf⟩ := bd hf
  try dsimp only at hf
  refine cVi C hW (mX7_isSpare hk_a0 hc1) hk_a0 kvX7_isSpare w_1392 ⟨(Nat.le_of_ble_eq_true rfl), (Nat.le_of_ble_eq_true rfl)⟩ ⟨Nat.zero_le _, Nat.zero_le _⟩ rfl hl.1 (rest := []) rfl (Nat.le_of_ble_eq_true rfl) dX7_pass_2 (fun H locs hn4 hW => ?_)
  refine lv_if_eq (tgt := 21) C.1.1 C.1.2.1 dX7_pass_5 (by decide) (fun h9 => ?_) (fun h9 => ?_)
  · replace hf := (if_pos h9).symm.trans hf
    refine lv_iconst (v := 0) C.1.1 C.1.2.1 dX7_pass_21 (by decide) ?_
    exact ri hQ C hr hlk hW hf (rok_z (Or.inl rfl)) dX7_pass_22
  · replace hf := (if_neg h9).symm.trans hf
    refine lv_iload_n C.1.1 C.1.2.1 dX7_pass_8 rfl (lv_at hl 2 rfl) ?_
    refine lv_iconst (v := (-1)) C.1.1 C.1.2.1 dX7_pass_9 (by decide) ?_
    refine lv_icmp_eq (tgt := 23) C.1.1 C.1.2.1 dX7_pass_10 (by decide) (fun h9 => ?_) (fun h9 => ?_)
    · replace hf := (if_pos h9).symm.trans hf
      exact J23 _ _ _ _ hf hW (lv_sub hl [0, 1, 2] rfl)
    · replace hf := (if_neg h9).symm.trans hf
      refine lv_aload_n C.1.1 C.1.2.1 dX7_pass_13 rfl (lv_at hl 0 rfl) ?_
      refine lv_iload_n C.1.1 C.1.2.1 dX7_pass_14 rfl (lv_at hl 2 rfl) ?_
      obtain ⟨⟨r22, σ21⟩, hc20, hf⟩ := bd hf
      try dsimp only at hf
      refine cVi C hW (mX7_isHouse hk_a0 hc20) hk_a0 kvX7_isHouse w_1347 ⟨(Nat.le_of_ble_eq_true rfl), (Nat.le_of_ble_eq_true rfl)⟩ ⟨Nat.zero_le _, Nat.zero_le _⟩ rfl hl.1 (rest := []) rfl (Nat.le_of_ble_eq_true rfl) dX7_pass_15 (fun H locs hn23 hW => ?_)
      refine lv_if_ne (tgt := 23) C.1.1 C.1.2.1 dX7_pass_18 (by decide) (fun h9 => ?_) (fun h9 => ?_)
      · replace hf := (if_neg h9).symm.trans hf
        exact J23 _ _ _ _ hf hW (lv_sub hl [0, 1, 2] rfl)
      · replace hf := (if_pos h9).symm.trans hf
        refine lv_iconst (v := 0) C.1.1 C.1.2.1 dX7_pass_21 (by decide) ?_
        exact ri hQ C hr hlk hW hf (rok_z (Or.inl rfl)) dX7_pass_22
theorem kvX7_changes : KV 7 "RightKeysModel" yX7_changes cX7_changes 5 none 2 := ⟨⟨w_1426, w_80, w_116, w_1427⟩, ⟨rfl, by decide, by decide, by decide +kernel⟩, by decide, rfl⟩
noncomputable def bX7_changes_2 (a0 : Nat) (p1 : Int32) (p2 : Int32) (x3 : Int32) (σ : Sg) : Option ((Int32 × Sg) ⊕ (Sg)) := if (40 : Int32) ≤ x3 then (some (Sum.inr σ)) else (if vin (x3 + p1) 88 then ((let x4_3 := (σ.1 (a0 + 31) (((x3 + p1)).toNatClampNeg)); if vin (x3 + p2) 88 then ((let σ7 := wI σ (a0 + 31) (((x3 + p1)).toNatClampNeg) (σ.1 (a0 + 31) (((x3 + p2)).toNatClampNeg)); let σ9 := wI σ7 (a0 + 31) (((x3 + p2)).toNatClampNeg) x4_3; let x3_10 := x3 + (8 : Int32); some (Sum.inl (x3_10, σ9)))) else none)) else none)
noncomputable def fX7_changes (a0 : Nat) (p1 : Int32) (p2 : Int32) (σ : Sg) : Option (Sg) := (lp (fun st => bX7_changes_2 a0 p1 p2 st.1 st.2) ((0 : Int32), σ)).bind (fun σ12 => some σ12)
set_option maxRecDepth 100000 in
set_option maxHeartbeats 4000000 in
theorem mX7_changes {l : Launch} {G : Gm} {a0 : Nat} {p1 : Int32} {p2 : Int32} {σ : Sg} {σ' : Sg} (hk_a0 : gK G a0 = 8) (hf : fX7_changes a0 p1 p2 σ = some σ') : Mv l G yX7_changes cX7_changes 5 0 0 [.ref (gB G + a0), .int p1, .int p2] σ σ' := by
  refine of_W "RightKeysModel" rfl (by decide) (Nat.le_of_ble_eq_true rfl) ?_
  intro p e s m args below meth c Q hQ C hr hlk hW ls hl
  have h00 := hW.1
  have hl : lv_has ls 5 [(0, .ref (gB G + a0)), (1, .int p1), (2, .int p2)] := hl
  delta fX7_changes at hf
  have L2 : ∀ (n : Nat) (x3 : Int32) (σ : Sg) (H : Heap) (locs : List Loc) (ls : Array Slot) (out : (Sg)), iter (fun st => bX7_changes_2 a0 p1 p2 st.1 st.2) n (x3, σ) = some out → Ws G σ s.heap H locs → lv_has ls 5 [(0, .ref (gB G + a0)), (1, .int p1), (2, .int p2), (3, .int x3)] → (∀ (σ : Sg) (H : Heap) (locs : List Loc) (ls : Array Slot), out = σ → Ws G σ s.heap H locs → lv_has ls 5 [] → W p l e (rmOf 0 0) s m args below meth c H locs 0 0 Q (F0 m 50 ls [])) → W p l e (rmOf 0 0) s m args below meth c H locs 0 0 Q (F0 m 2 ls []) := by
    intro n
    induction n with
    | zero =>
      intro x3 σ H locs ls out hf
      exact (it_0 hf).elim
    | succ n ih =>
      intro x3 σ H locs ls out hf hW hl K2_50
      obtain ⟨x, hf, hx⟩ := it_s hf
      have hf : bX7_changes_2 a0 p1 p2 x3 σ = some x := hf
      delta bX7_changes_2 at hf
      refine lv_iload_n C.1.1 C.1.2.1 dX7_changes_2 rfl (lv_at hl 3 rfl) ?_
      refine lv_bipush (v := 40) C.1.1 C.1.2.1 dX7_changes_3 (by decide) ?_
      refine lv_icmp_ge (tgt := 50) C.1.1 C.1.2.1 dX7_changes_5 (by decide) (fun h9 => ?_) (fun h9 => ?_)
      · replace hf := (if_pos h9).symm.trans hf
        cases hf
        cases hx
        exact K2_50 _ _ _ _ rfl hW (lv_sub hl [] rfl)
      · replace hf := (if_neg h9).symm.trans hf
        refine lv_aload_n C.1.1 C.1.2.1 dX7_changes_8 rfl (lv_at hl 0 rfl) ?_
        have hk1 := sh7_48 hW hk_a0
        refine gf7_48 C hW hk_a0 w_1078 dX7_changes_9 ?_
        refine lv_iload_n C.1.1 C.1.2.1 dX7_changes_12 rfl (lv_at hl 3 rfl) ?_
        refine lv_iload_n C.1.1 C.1.2.1 dX7_changes_13 rfl (lv_at hl 1 rfl) ?_
        refine lv_iadd C.1.1 C.1.2.1 dX7_changes_14 ?_
        obtain ⟨hv2, hf⟩ := gd hf
        refine wai C hW hk1 (vin_p hv2) dX7_changes_15 ?_
        refine lv_istore (lv' := [(4, .int _), (0, .ref _), (1, .int _), (2, .int _), (3, .int _)]) C.1.1 C.1.2.1 dX7_changes_16 hl (by decide) rfl (fun ls hl => ?_)
        refine lv_aload_n C.1.1 C.1.2.1 dX7_changes_18 rfl (lv_at hl 1 rfl) ?_
        have hk4 := sh7_48 hW hk_a0
        refine gf7_48 C hW hk_a0 w_1078 dX7_changes_19 ?_
        refine lv_iload_n C.1.1 C.1.2.1 dX7_changes_22 rfl (lv_at hl 4 rfl) ?_
        refine lv_iload_n C.1.1 C.1.2.1 dX7_changes_23 rfl (lv_at hl 2 rfl) ?_
        refine lv_iadd C.1.1 C.1.2.1 dX7_changes_24 ?_
        refine lv_aload_n C.1.1 C.1.2.1 dX7_changes_25 rfl (lv_at hl 1 rfl) ?_
        have hk5 := sh7_48 hW hk_a0
        refine gf7_48 C hW hk_a0 w_1078 dX7_changes_26 ?_
        refine lv_iload_n C.1.1 C.1.2.1 dX7_changes_29 rfl (lv_at hl 4 rfl) ?_
        refine lv_iload_n C.1.1 C.1.2.1 dX7_changes_30 rfl (lv_at hl 3 rfl) ?_
        refine lv_iadd C.1.1 C.1.2.1 dX7_changes_31 ?_
        obtain ⟨hv6, hf⟩ := gd hf
        refine wai C hW hk5 (vin_p hv6) dX7_changes_32 ?_
        refine wsi C hW hk4 (vin_p hv2) dX7_changes_33 (fun H locs hW => ?_)
        refine lv_aload_n C.1.1 C.1.2.1 dX7_changes_34 rfl (lv_at hl 1 rfl) ?_
        have hk8 := sh7_48 hW hk_a0
        refine gf7_48 C hW hk_a0 w_1078 dX7_changes_35 ?_
        refine lv_iload_n C.1.1 C.1.2.1 dX7_changes_38 rfl (lv_at hl 4 rfl) ?_
        refine lv_iload_n C.1.1 C.1.2.1 dX7_changes_39 rfl (lv_at hl 3 rfl) ?_
        refine lv_iadd C.1.1 C.1.2.1 dX7_changes_40 ?_
        refine lv_iload C.1.1 C.1.2.1 dX7_changes_41 (lv_at hl 0 rfl) ?_
        refine wsi C hW hk8 (vin_p hv6) dX7_changes_43 (fun H locs hW => ?_)
        refine lv_iinc (v := _) (lv' := [(3, .int _), (4, .int _), (0, .ref _), (1, .int _), (2, .int _)]) C.1.1 C.1.2.1 dX7_changes_44 hl (k := 4) rfl (ii (k := 8) (by decide)) (by decide) rfl (fun ls hl => ?_)
        refine lv_goto (tgt := 2) C.1.1 C.1.2.1 dX7_changes_47 (by decide) ?_
        cases hf
        exact ih _ _ _ _ _ _ hx hW (lv_sub hl [2, 3, 4, 0] rfl) K2_50
  refine lv_iconst (v := 0) C.1.1 C.1.2.1 dX7_changes_0 (by decide) ?_
  refine lv_istore_n (lv' := [(3, .int _), (0, .ref _), (1, .int _), (2, .int _)]) C.1.1 C.1.2.1 dX7_changes_1 rfl hl (by decide) rfl (fun ls hl => ?_)
  obtain ⟨o11, ho, hf⟩ := bd hf
  obtain ⟨n, ho⟩ := lp_it ho
  refine L2 n _ _ _ _ _ o11 ho hW (lv_sub hl [1, 2, 3, 0] rfl) ?_
  intro  σ12 H locs ls e9 hW hl
  subst e9
  try dsimp only at hf
  exact rv hQ C hr hlk hW hf dX7_changes_50
theorem kvX7_canChange : KV 7 "RightKeysModel" yX7_canChange cX7_canChange 3 (some .boolean) 2 := ⟨⟨w_1422, w_79, w_116, w_1423⟩, ⟨rfl, by decide, by decide, by decide +kernel⟩, by decide, rfl⟩
noncomputable def fX7_canChange (a0 : Nat) (p1 : Int32) (p2 : Int32) (σ : Sg) : Option (Int32 × Sg) := if vin ((40 : Int32) + p1) 88 then (if (σ.1 (a0 + 30) ((((40 : Int32) + p1)).toNatClampNeg)) = 0 then (if vin ((40 : Int32) + p2) 88 then (if (σ.1 (a0 + 30) ((((40 : Int32) + p2)).toNatClampNeg)) = 0 then (some ((1 : Int32), σ)) else (some ((0 : Int32), σ))) else none) else (some ((0 : Int32), σ))) else none
set_option maxRecDepth 100000 in
set_option maxHeartbeats 4000000 in
theorem mX7_canChange {l : Launch} {G : Gm} {a0 : Nat} {p1 : Int32} {p2 : Int32} {σ : Sg} {r : Int32} {σ' : Sg} (hk_a0 : gK G a0 = 8) (hf : fX7_canChange a0 p1 p2 σ = some (r, σ')) : Mi l G yX7_canChange cX7_canChange 3 .boolean 0 0 [.ref (gB G + a0), .int p1, .int p2] σ r σ' := by
  refine of_W "RightKeysModel" rfl (by decide) (Nat.le_of_ble_eq_true rfl) ?_
  intro p e s m args below meth c Q hQ C hr hlk hW ls hl
  have h00 := hW.1
  have hl : lv_has ls 3 [(0, .ref (gB G + a0)), (1, .int p1), (2, .int p2)] := hl
  delta fX7_canChange at hf
  refine lv_aload_n C.1.1 C.1.2.1 dX7_canChange_0 rfl (lv_at hl 0 rfl) ?_
  have hk1 := sh7_47 hW hk_a0
  refine gf7_47 C hW hk_a0 w_1077 dX7_canChange_1 ?_
  refine lv_bipush (v := 40) C.1.1 C.1.2.1 dX7_canChange_4 (by decide) ?_
  refine lv_iload_n C.1.1 C.1.2.1 dX7_canChange_6 rfl (lv_at hl 1 rfl) ?_
  refine lv_iadd C.1.1 C.1.2.1 dX7_canChange_7 ?_
  obtain ⟨hv2, hf⟩ := gd hf
  refine wai C hW hk1 (vin_p hv2) dX7_canChange_8 ?_
  refine lv_if_ne (tgt := 28) C.1.1 C.1.2.1 dX7_canChange_9 (by decide) (fun h9 => ?_) (fun h9 => ?_)
  · replace hf := (if_neg h9).symm.trans hf
    refine lv_iconst (v := 0) C.1.1 C.1.2.1 dX7_canChange_28 (by decide) ?_
    exact ri hQ C hr hlk hW hf (rok_z (Or.inl rfl)) dX7_canChange_29
  · replace hf := (if_pos h9).symm.trans hf
    refine lv_aload_n C.1.1 C.1.2.1 dX7_canChange_12 rfl (lv_at hl 0 rfl) ?_
    have hk3 := sh7_47 hW hk_a0
    refine gf7_47 C hW hk_a0 w_1077 dX7_canChange_13 ?_
    refine lv_bipush (v := 40) C.1.1 C.1.2.1 dX7_canChange_16 (by decide) ?_
    refine lv_iload_n C.1.1 C.1.2.1 dX7_canChange_18 rfl (lv_at hl 2 rfl) ?_
    refine lv_iadd C.1.1 C.1.2.1 dX7_canChange_19 ?_
    obtain ⟨hv4, hf⟩ := gd hf
    refine wai C hW hk3 (vin_p hv4) dX7_canChange_20 ?_
    refine lv_if_ne (tgt := 28) C.1.1 C.1.2.1 dX7_canChange_21 (by decide) (fun h9 => ?_) (fun h9 => ?_)
    · replace hf := (if_neg h9).symm.trans hf
      refine lv_iconst (v := 0) C.1.1 C.1.2.1 dX7_canChange_28 (by decide) ?_
      exact ri hQ C hr hlk hW hf (rok_z (Or.inl rfl)) dX7_canChange_29
    · replace hf := (if_pos h9).symm.trans hf
      refine lv_iconst (v := 1) C.1.1 C.1.2.1 dX7_canChange_24 (by decide) ?_
      refine lv_goto (tgt := 29) C.1.1 C.1.2.1 dX7_canChange_25 (by decide) ?_
      exact ri hQ C hr hlk hW hf (rok_z (Or.inr rfl)) dX7_canChange_29
theorem kvX7_change : KV 7 "RightKeysModel" yX7_change cX7_change 3 (some .boolean) 2 := ⟨⟨w_1417, w_1418, w_116, w_1419⟩, ⟨rfl, by decide, by decide, by decide +kernel⟩, by decide, rfl⟩
noncomputable def fX7_change (a0 : Nat) (p1 : Int32) (p2 : Int32) (σ : Sg) : Option (Int32 × Sg) := (fX7_isHouse a0 p1 σ).bind (fun q5 => let r3 := q5.1; let σ2 := q5.2; if r3 = 0 then (some ((0 : Int32), σ2)) else ((fX7_isHouse a0 p2 σ2).bind (fun q10 => let r8 := q10.1; let σ7 := q10.2; if r8 = 0 then (some ((0 : Int32), σ7)) else (if p1 = p2 then (some ((0 : Int32), σ7)) else ((fX7_canChange a0 p1 p2 σ7).bind (fun q15 => let r13 := q15.1; let σ12 := q15.2; if r13 = 0 then (some ((0 : Int32), σ12)) else ((fX7_copies a0 σ12).bind (fun σ17 => (fX7_changes a0 p1 p2 σ17).bind (fun σ22 => (fX7_records a0 σ22).bind (fun σ27 => some ((1 : Int32), σ27)))))))))))
set_option maxRecDepth 100000 in
set_option maxHeartbeats 4000000 in
theorem mX7_change {l : Launch} {G : Gm} {a0 : Nat} {p1 : Int32} {p2 : Int32} {σ : Sg} {r : Int32} {σ' : Sg} (hk_a0 : gK G a0 = 8) (hf : fX7_change a0 p1 p2 σ = some (r, σ')) : Mi l G yX7_change cX7_change 3 .boolean 2 43 [.ref (gB G + a0), .int p1, .int p2] σ r σ' := by
  refine of_W "RightKeysModel" rfl (by decide) (Nat.le_of_ble_eq_true rfl) ?_
  intro p e s m args below meth c Q hQ C hr hlk hW ls hl
  have h00 := hW.1
  have hl : lv_has ls 3 [(0, .ref (gB G + a0)), (1, .int p1), (2, .int p2)] := hl
  delta fX7_change at hf
  refine lv_aload_n C.1.1 C.1.2.1 dX7_change_0 rfl (lv_at hl 0 rfl) ?_
  refine lv_iload_n C.1.1 C.1.2.1 dX7_change_1 rfl (lv_at hl 1 rfl) ?_
  obtain ⟨⟨r3, σ2⟩, hc1, hf⟩ := bd hf
  try dsimp only at hf
  refine cVi C hW (mX7_isHouse hk_a0 hc1) hk_a0 kvX7_isHouse w_1347 ⟨(Nat.le_of_ble_eq_true rfl), (Nat.le_of_ble_eq_true rfl)⟩ ⟨Nat.zero_le _, Nat.zero_le _⟩ rfl hl.1 (rest := []) rfl (Nat.le_of_ble_eq_true rfl) dX7_change_2 (fun H locs hn4 hW => ?_)
  refine lv_if_eq (tgt := 30) C.1.1 C.1.2.1 dX7_change_5 (by decide) (fun h9 => ?_) (fun h9 => ?_)
  · replace hf := (if_pos h9).symm.trans hf
    refine lv_iconst (v := 0) C.1.1 C.1.2.1 dX7_change_30 (by decide) ?_
    exact ri hQ C hr hlk hW hf (rok_z (Or.inl rfl)) dX7_change_31
  · replace hf := (if_neg h9).symm.trans hf
    refine lv_aload_n C.1.1 C.1.2.1 dX7_change_8 rfl (lv_at hl 0 rfl) ?_
    refine lv_iload_n C.1.1 C.1.2.1 dX7_change_9 rfl (lv_at hl 2 rfl) ?_
    obtain ⟨⟨r8, σ7⟩, hc6, hf⟩ := bd hf
    try dsimp only at hf
    refine cVi C hW (mX7_isHouse hk_a0 hc6) hk_a0 kvX7_isHouse w_1347 ⟨(Nat.le_of_ble_eq_true rfl), (Nat.le_of_ble_eq_true rfl)⟩ ⟨Nat.zero_le _, Nat.zero_le _⟩ rfl hl.1 (rest := []) rfl (Nat.le_of_ble_eq_true rfl) dX7_change_10 (fun H locs hn9 hW => ?_)
    refine lv_if_eq (tgt := 30) C.1.1 C.1.2.1 dX7_change_13 (by decide) (fun h9 => ?_) (fun h9 => ?_)
    · replace hf := (if_pos h9).symm.trans hf
      refine lv_iconst (v := 0) C.1.1 C.1.2.1 dX7_change_30 (by decide) ?_
      exact ri hQ C hr hlk hW hf (rok_z (Or.inl rfl)) dX7_change_31
    · replace hf := (if_neg h9).symm.trans hf
      refine lv_iload_n C.1.1 C.1.2.1 dX7_change_16 rfl (lv_at hl 1 rfl) ?_
      refine lv_iload_n C.1.1 C.1.2.1 dX7_change_17 rfl (lv_at hl 2 rfl) ?_
      refine lv_icmp_eq (tgt := 30) C.1.1 C.1.2.1 dX7_change_18 (by decide) (fun h9 => ?_) (fun h9 => ?_)
      · replace hf := (if_pos h9).symm.trans hf
        refine lv_iconst (v := 0) C.1.1 C.1.2.1 dX7_change_30 (by decide) ?_
        exact ri hQ C hr hlk hW hf (rok_z (Or.inl rfl)) dX7_change_31
      · replace hf := (if_neg h9).symm.trans hf
        refine lv_aload_n C.1.1 C.1.2.1 dX7_change_21 rfl (lv_at hl 0 rfl) ?_
        refine lv_iload_n C.1.1 C.1.2.1 dX7_change_22 rfl (lv_at hl 1 rfl) ?_
        refine lv_iload_n C.1.1 C.1.2.1 dX7_change_23 rfl (lv_at hl 2 rfl) ?_
        obtain ⟨⟨r13, σ12⟩, hc11, hf⟩ := bd hf
        try dsimp only at hf
        refine cVi C hW (mX7_canChange hk_a0 hc11) hk_a0 kvX7_canChange w_1420 ⟨(Nat.le_of_ble_eq_true rfl), (Nat.le_of_ble_eq_true rfl)⟩ ⟨Nat.zero_le _, Nat.zero_le _⟩ rfl hl.1 (rest := []) rfl (Nat.le_of_ble_eq_true rfl) dX7_change_24 (fun H locs hn14 hW => ?_)
        refine lv_if_ne (tgt := 32) C.1.1 C.1.2.1 dX7_change_27 (by decide) (fun h9 => ?_) (fun h9 => ?_)
        · replace hf := (if_neg h9).symm.trans hf
          refine lv_aload_n C.1.1 C.1.2.1 dX7_change_32 rfl (lv_at hl 0 rfl) ?_
          obtain ⟨σ17, hc16, hf⟩ := bd hf
          try dsimp only at hf
          refine cVv C hW (mX7_copies hk_a0 hc16) hk_a0 kvX7_copies w_1354 ⟨(Nat.le_of_ble_eq_true rfl), (Nat.le_of_ble_eq_true rfl)⟩ ⟨Nat.zero_le _, Nat.zero_le _⟩ rfl hl.1 (rest := []) rfl (Nat.le_of_ble_eq_true rfl) dX7_change_33 (fun H locs hW => ?_)
          refine lv_aload_n C.1.1 C.1.2.1 dX7_change_36 rfl (lv_at hl 0 rfl) ?_
          refine lv_iload_n C.1.1 C.1.2.1 dX7_change_37 rfl (lv_at hl 1 rfl) ?_
          refine lv_iload_n C.1.1 C.1.2.1 dX7_change_38 rfl (lv_at hl 2 rfl) ?_
          obtain ⟨σ22, hc21, hf⟩ := bd hf
          try dsimp only at hf
          refine cVv C hW (mX7_changes hk_a0 hc21) hk_a0 kvX7_changes w_1424 ⟨(Nat.le_of_ble_eq_true rfl), (Nat.le_of_ble_eq_true rfl)⟩ ⟨Nat.zero_le _, Nat.zero_le _⟩ rfl hl.1 (rest := []) rfl (Nat.le_of_ble_eq_true rfl) dX7_change_39 (fun H locs hW => ?_)
          refine lv_aload_n C.1.1 C.1.2.1 dX7_change_42 rfl (lv_at hl 0 rfl) ?_
          obtain ⟨σ27, hc26, hf⟩ := bd hf
          try dsimp only at hf
          refine cVv C hW (mX7_records hk_a0 hc26) hk_a0 kvX7_records w_1408 ⟨(Nat.le_of_ble_eq_true rfl), (Nat.le_of_ble_eq_true rfl)⟩ ⟨Nat.zero_le _, Nat.zero_le _⟩ rfl hl.1 (rest := []) rfl (Nat.le_of_ble_eq_true rfl) dX7_change_43 (fun H locs hW => ?_)
          refine lv_iconst (v := 1) C.1.1 C.1.2.1 dX7_change_46 (by decide) ?_
          exact ri hQ C hr hlk hW hf (rok_z (Or.inr rfl)) dX7_change_47
        · replace hf := (if_pos h9).symm.trans hf
          refine lv_iconst (v := 0) C.1.1 C.1.2.1 dX7_change_30 (by decide) ?_
          exact ri hQ C hr hlk hW hf (rok_z (Or.inl rfl)) dX7_change_31
theorem ksX7_isLong : KS yX7_isLong cX7_isLong 1 (some .boolean) 1 := ⟨⟨w_1433, w_116, w_1434⟩, ⟨by decide, by decide, by decide +kernel⟩⟩
noncomputable def fX7_isLong (p0 : Int32) (σ : Sg) : Option (Int32 × Sg) := (fX7_in p0 (0 : Int32) (72 : Int32) σ).bind (fun q5 => let r3 := q5.1; let σ2 := q5.2; some (r3, σ2))
set_option maxRecDepth 100000 in
set_option maxHeartbeats 4000000 in
theorem mX7_isLong {l : Launch} {G : Gm} {p0 : Int32} {σ : Sg} {r : Int32} {σ' : Sg}  (hf : fX7_isLong p0 σ = some (r, σ')) : Mi l G yX7_isLong cX7_isLong 1 .boolean 1 22 [.int p0] σ r σ' := by
  refine of_W "RightKeysModel" rfl (by decide) (Nat.le_of_ble_eq_true rfl) ?_
  intro p e s m args below meth c Q hQ C hr hlk hW ls hl
  have h00 := hW.1
  have hl : lv_has ls 1 [(0, .int p0)] := hl
  delta fX7_isLong at hf
  refine lv_iload_n C.1.1 C.1.2.1 dX7_isLong_0 rfl (lv_at hl 0 rfl) ?_
  refine lv_iconst (v := 0) C.1.1 C.1.2.1 dX7_isLong_1 (by decide) ?_
  refine lv_bipush (v := 72) C.1.1 C.1.2.1 dX7_isLong_2 (by decide) ?_
  obtain ⟨⟨r3, σ2⟩, hc1, hf⟩ := bd hf
  try dsimp only at hf
  refine cSi C hW (mX7_in hc1) ksX7_in w_1351 ⟨(Nat.le_of_ble_eq_true rfl), (Nat.le_of_ble_eq_true rfl)⟩ ⟨Nat.zero_le _, Nat.zero_le _⟩ rfl hl.1 (rest := []) rfl (Nat.le_of_ble_eq_true rfl) dX7_isLong_4 (fun H locs hn4 hW => ?_)
  exact ri hQ C hr hlk hW hf (rok_z (hn4.2 rfl)) dX7_isLong_7
theorem ksX7_isSome : KS yX7_isSome cX7_isSome 1 (some .boolean) 1 := ⟨⟨w_1529, w_116, w_1530⟩, ⟨by decide, by decide, by decide +kernel⟩⟩
noncomputable def fX7_isSome (p0 : Int32) (σ : Sg) : Option (Int32 × Sg) := (fX7_in p0 (1 : Int32) (72 : Int32) σ).bind (fun q5 => let r3 := q5.1; let σ2 := q5.2; some (r3, σ2))
set_option maxRecDepth 100000 in
set_option maxHeartbeats 4000000 in
theorem mX7_isSome {l : Launch} {G : Gm} {p0 : Int32} {σ : Sg} {r : Int32} {σ' : Sg}  (hf : fX7_isSome p0 σ = some (r, σ')) : Mi l G yX7_isSome cX7_isSome 1 .boolean 1 22 [.int p0] σ r σ' := by
  refine of_W "RightKeysModel" rfl (by decide) (Nat.le_of_ble_eq_true rfl) ?_
  intro p e s m args below meth c Q hQ C hr hlk hW ls hl
  have h00 := hW.1
  have hl : lv_has ls 1 [(0, .int p0)] := hl
  delta fX7_isSome at hf
  refine lv_iload_n C.1.1 C.1.2.1 dX7_isSome_0 rfl (lv_at hl 0 rfl) ?_
  refine lv_iconst (v := 1) C.1.1 C.1.2.1 dX7_isSome_1 (by decide) ?_
  refine lv_bipush (v := 72) C.1.1 C.1.2.1 dX7_isSome_2 (by decide) ?_
  obtain ⟨⟨r3, σ2⟩, hc1, hf⟩ := bd hf
  try dsimp only at hf
  refine cSi C hW (mX7_in hc1) ksX7_in w_1351 ⟨(Nat.le_of_ble_eq_true rfl), (Nat.le_of_ble_eq_true rfl)⟩ ⟨Nat.zero_le _, Nat.zero_le _⟩ rfl hl.1 (rest := []) rfl (Nat.le_of_ble_eq_true rfl) dX7_isSome_4 (fun H locs hn4 hW => ?_)
  exact ri hQ C hr hlk hW hf (rok_z (hn4.2 rfl)) dX7_isSome_7
theorem kvX7_hours : KV 7 "RightKeysModel" yX7_hours cX7_hours 2 (some .int) 1 := ⟨⟨w_1429, w_1430, w_116, w_1431⟩, ⟨rfl, by decide, by decide, by decide +kernel⟩, by decide, rfl⟩
noncomputable def fX7_hours (a0 : Nat) (p1 : Int32) (σ : Sg) : Option (Int32 × Sg) := (fX7_isLong p1 σ).bind (fun q5 => let r3 := q5.1; let σ2 := q5.2; if r3 = 0 then (some ((-1 : Int32), σ2)) else (if p1 = 0 then (some ((σ2.1 (a0 + 30) 84), σ2)) else ((fX7_copies a0 σ2).bind (fun σ7 => (fX7_goes a0 p1 σ7).bind (fun σ12 => (fX7_records a0 σ12).bind (fun σ17 => some ((σ17.1 (a0 + 30) 84), σ17)))))))
set_option maxRecDepth 100000 in
set_option maxHeartbeats 4000000 in
theorem mX7_hours {l : Launch} {G : Gm} {a0 : Nat} {p1 : Int32} {σ : Sg} {r : Int32} {σ' : Sg} (hk_a0 : gK G a0 = 8) (hf : fX7_hours a0 p1 σ = some (r, σ')) : Mi l G yX7_hours cX7_hours 2 .int 8 183 [.ref (gB G + a0), .int p1] σ r σ' := by
  refine of_W "RightKeysModel" rfl (by decide) (Nat.le_of_ble_eq_true rfl) ?_
  intro p e s m args below meth c Q hQ C hr hlk hW ls hl
  have h00 := hW.1
  have hl : lv_has ls 2 [(0, .ref (gB G + a0)), (1, .int p1)] := hl
  delta fX7_hours at hf
  refine lv_iload_n C.1.1 C.1.2.1 dX7_hours_0 rfl (lv_at hl 1 rfl) ?_
  obtain ⟨⟨r3, σ2⟩, hc1, hf⟩ := bd hf
  try dsimp only at hf
  refine cSi C hW (mX7_isLong hc1) ksX7_isLong w_1432 ⟨(Nat.le_of_ble_eq_true rfl), (Nat.le_of_ble_eq_true rfl)⟩ ⟨Nat.zero_le _, Nat.zero_le _⟩ rfl hl.1 (rest := []) rfl (Nat.le_of_ble_eq_true rfl) dX7_hours_1 (fun H locs hn4 hW => ?_)
  refine lv_if_ne (tgt := 9) C.1.1 C.1.2.1 dX7_hours_4 (by decide) (fun h9 => ?_) (fun h9 => ?_)
  · replace hf := (if_neg h9).symm.trans hf
    refine lv_iload_n C.1.1 C.1.2.1 dX7_hours_9 rfl (lv_at hl 1 rfl) ?_
    refine lv_if_ne (tgt := 21) C.1.1 C.1.2.1 dX7_hours_10 (by decide) (fun h9 => ?_) (fun h9 => ?_)
    · replace hf := (if_neg h9).symm.trans hf
      refine lv_aload_n C.1.1 C.1.2.1 dX7_hours_21 rfl (lv_at hl 0 rfl) ?_
      obtain ⟨σ7, hc6, hf⟩ := bd hf
      try dsimp only at hf
      refine cVv C hW (mX7_copies hk_a0 hc6) hk_a0 kvX7_copies w_1354 ⟨(Nat.le_of_ble_eq_true rfl), (Nat.le_of_ble_eq_true rfl)⟩ ⟨Nat.zero_le _, Nat.zero_le _⟩ rfl hl.1 (rest := []) rfl (Nat.le_of_ble_eq_true rfl) dX7_hours_22 (fun H locs hW => ?_)
      refine lv_aload_n C.1.1 C.1.2.1 dX7_hours_25 rfl (lv_at hl 0 rfl) ?_
      refine lv_iload_n C.1.1 C.1.2.1 dX7_hours_26 rfl (lv_at hl 1 rfl) ?_
      obtain ⟨σ12, hc11, hf⟩ := bd hf
      try dsimp only at hf
      refine cVv C hW (mX7_goes hk_a0 hc11) hk_a0 kvX7_goes w_1435 ⟨(Nat.le_of_ble_eq_true rfl), (Nat.le_of_ble_eq_true rfl)⟩ ⟨Nat.zero_le _, Nat.zero_le _⟩ rfl hl.1 (rest := []) rfl (Nat.le_of_ble_eq_true rfl) dX7_hours_27 (fun H locs hW => ?_)
      refine lv_aload_n C.1.1 C.1.2.1 dX7_hours_30 rfl (lv_at hl 0 rfl) ?_
      obtain ⟨σ17, hc16, hf⟩ := bd hf
      try dsimp only at hf
      refine cVv C hW (mX7_records hk_a0 hc16) hk_a0 kvX7_records w_1408 ⟨(Nat.le_of_ble_eq_true rfl), (Nat.le_of_ble_eq_true rfl)⟩ ⟨Nat.zero_le _, Nat.zero_le _⟩ rfl hl.1 (rest := []) rfl (Nat.le_of_ble_eq_true rfl) dX7_hours_31 (fun H locs hW => ?_)
      refine lv_aload_n C.1.1 C.1.2.1 dX7_hours_34 rfl (lv_at hl 0 rfl) ?_
      have hk21 := sh7_47 hW hk_a0
      refine gf7_47 C hW hk_a0 w_1077 dX7_hours_35 ?_
      refine lv_bipush (v := 84) C.1.1 C.1.2.1 dX7_hours_38 (by decide) ?_
      refine wai C hW hk21 (vin_p ⟨by decide, by decide⟩) dX7_hours_40 ?_
      exact ri hQ C hr hlk hW hf (rok_i _) dX7_hours_41
    · replace hf := (if_pos h9).symm.trans hf
      refine lv_aload_n C.1.1 C.1.2.1 dX7_hours_13 rfl (lv_at hl 0 rfl) ?_
      have hk22 := sh7_47 hW hk_a0
      refine gf7_47 C hW hk_a0 w_1077 dX7_hours_14 ?_
      refine lv_bipush (v := 84) C.1.1 C.1.2.1 dX7_hours_17 (by decide) ?_
      refine wai C hW hk22 (vin_p ⟨by decide, by decide⟩) dX7_hours_19 ?_
      exact ri hQ C hr hlk hW hf (rok_i _) dX7_hours_20
  · replace hf := (if_pos h9).symm.trans hf
    refine lv_iconst (v := (-1)) C.1.1 C.1.2.1 dX7_hours_7 (by decide) ?_
    exact ri hQ C hr hlk hW hf (rok_i _) dX7_hours_8
theorem kvX7_undo : KV 7 "RightKeysModel" yX7_undo cX7_undo 2 (some .boolean) 0 := ⟨⟨w_1517, w_1518, w_116, w_1519⟩, ⟨rfl, by decide, by decide, by decide +kernel⟩, by decide, rfl⟩
noncomputable def bX7_undo_21 (a0 : Nat) (x1 : Int32) (σ : Sg) : Option ((Int32 × Sg) ⊕ (Sg)) := if (88 : Int32) ≤ x1 then (some (Sum.inr σ)) else (if vin (((88 : Int32) * (σ.1 a0 53)) + x1) 3520 then (if vin x1 88 then (let σ6 := wI σ (a0 + 30) ((x1).toNatClampNeg) (σ.1 (a0 + 33) (((((88 : Int32) * (σ.1 a0 53)) + x1)).toNatClampNeg)); (let x1_7 := x1 + (1 : Int32); some (Sum.inl (x1_7, σ6)))) else none) else none)
noncomputable def fX7_undo (a0 : Nat) (σ : Sg) : Option (Int32 × Sg) := if (σ.1 a0 53) = 0 then (some ((0 : Int32), σ)) else ((let σ1 := wI σ a0 53 ((σ.1 a0 53) - (1 : Int32)); (lp (fun st => bX7_undo_21 a0 st.1 st.2) ((0 : Int32), σ1)).bind (fun σ9 => some ((1 : Int32), σ9))))
set_option maxRecDepth 100000 in
set_option maxHeartbeats 4000000 in
theorem mX7_undo {l : Launch} {G : Gm} {a0 : Nat} {σ : Sg} {r : Int32} {σ' : Sg} (hk_a0 : gK G a0 = 8) (hf : fX7_undo a0 σ = some (r, σ')) : Mi l G yX7_undo cX7_undo 2 .boolean 0 0 [.ref (gB G + a0)] σ r σ' := by
  refine of_W "RightKeysModel" rfl (by decide) (Nat.le_of_ble_eq_true rfl) ?_
  intro p e s m args below meth c Q hQ C hr hlk hW ls hl
  have h00 := hW.1
  have hl : lv_has ls 2 [(0, .ref (gB G + a0))] := hl
  delta fX7_undo at hf
  have L21 : ∀ (n : Nat) (x1 : Int32) (σ : Sg) (H : Heap) (locs : List Loc) (ls : Array Slot) (out : (Sg)), iter (fun st => bX7_undo_21 a0 st.1 st.2) n (x1, σ) = some out → Ws G σ s.heap H locs → lv_has ls 2 [(0, .ref (gB G + a0)), (1, .int x1)] → (∀ (σ : Sg) (H : Heap) (locs : List Loc) (ls : Array Slot), out = σ → Ws G σ s.heap H locs → lv_has ls 2 [] → W p l e (rmOf 0 0) s m args below meth c H locs 0 0 Q (F0 m 53 ls [])) → W p l e (rmOf 0 0) s m args below meth c H locs 0 0 Q (F0 m 21 ls []) := by
    intro n
    induction n with
    | zero =>
      intro x1 σ H locs ls out hf
      exact (it_0 hf).elim
    | succ n ih =>
      intro x1 σ H locs ls out hf hW hl K21_53
      obtain ⟨x, hf, hx⟩ := it_s hf
      have hf : bX7_undo_21 a0 x1 σ = some x := hf
      delta bX7_undo_21 at hf
      refine lv_iload_n C.1.1 C.1.2.1 dX7_undo_21 rfl (lv_at hl 1 rfl) ?_
      refine lv_bipush (v := 88) C.1.1 C.1.2.1 dX7_undo_22 (by decide) ?_
      refine lv_icmp_ge (tgt := 53) C.1.1 C.1.2.1 dX7_undo_24 (by decide) (fun h9 => ?_) (fun h9 => ?_)
      · replace hf := (if_pos h9).symm.trans hf
        cases hf
        cases hx
        exact K21_53 _ _ _ _ rfl hW (lv_sub hl [] rfl)
      · replace hf := (if_neg h9).symm.trans hf
        refine lv_aload_n C.1.1 C.1.2.1 dX7_undo_27 rfl (lv_at hl 0 rfl) ?_
        have hk2 := sh7_47 hW hk_a0
        refine gf7_47 C hW hk_a0 w_1077 dX7_undo_28 ?_
        refine lv_iload_n C.1.1 C.1.2.1 dX7_undo_31 rfl (lv_at hl 1 rfl) ?_
        refine lv_aload_n C.1.1 C.1.2.1 dX7_undo_32 rfl (lv_at hl 0 rfl) ?_
        have hk3 := sh7_54 hW hk_a0
        refine gf7_54 C hW hk_a0 w_1084 dX7_undo_33 ?_
        refine lv_bipush (v := 88) C.1.1 C.1.2.1 dX7_undo_36 (by decide) ?_
        refine lv_aload_n C.1.1 C.1.2.1 dX7_undo_38 rfl (lv_at hl 0 rfl) ?_
        refine gf7_53 C hW hk_a0 w_1083 dX7_undo_39 ?_
        refine lv_imul C.1.1 C.1.2.1 dX7_undo_42 ?_
        refine lv_iload_n C.1.1 C.1.2.1 dX7_undo_43 rfl (lv_at hl 1 rfl) ?_
        refine lv_iadd C.1.1 C.1.2.1 dX7_undo_44 ?_
        obtain ⟨hv4, hf⟩ := gd hf
        refine wai C hW hk3 (vin_p hv4) dX7_undo_45 ?_
        obtain ⟨hv5, hf⟩ := gd hf
        refine wsi C hW hk2 (vin_p hv5) dX7_undo_46 (fun H locs hW => ?_)
        refine lv_iinc (v := _) (lv' := [(1, .int _), (0, .ref _)]) C.1.1 C.1.2.1 dX7_undo_47 hl (k := 1) rfl (ii (k := 1) (by decide)) (by decide) rfl (fun ls hl => ?_)
        refine lv_goto (tgt := 21) C.1.1 C.1.2.1 dX7_undo_50 (by decide) ?_
        cases hf
        exact ih _ _ _ _ _ _ hx hW (lv_sub hl [1, 0] rfl) K21_53
  refine lv_aload_n C.1.1 C.1.2.1 dX7_undo_0 rfl (lv_at hl 0 rfl) ?_
  refine gf7_53 C hW hk_a0 w_1083 dX7_undo_1 ?_
  refine lv_if_ne (tgt := 9) C.1.1 C.1.2.1 dX7_undo_4 (by decide) (fun h9 => ?_) (fun h9 => ?_)
  · replace hf := (if_neg h9).symm.trans hf
    refine lv_aload_n C.1.1 C.1.2.1 dX7_undo_9 rfl (lv_at hl 0 rfl) ?_
    refine lv_dup C.1.1 C.1.2.1 dX7_undo_10 rfl ?_
    refine gf7_53 C hW hk_a0 w_1083 dX7_undo_11 ?_
    refine lv_iconst (v := 1) C.1.1 C.1.2.1 dX7_undo_14 (by decide) ?_
    refine lv_isub C.1.1 C.1.2.1 dX7_undo_15 ?_
    refine pf7_53 C hW hk_a0 w_1083 dX7_undo_16 (fun H locs hW => ?_)
    refine lv_iconst (v := 0) C.1.1 C.1.2.1 dX7_undo_19 (by decide) ?_
    refine lv_istore_n (lv' := [(1, .int _), (0, .ref _)]) C.1.1 C.1.2.1 dX7_undo_20 rfl hl (by decide) rfl (fun ls hl => ?_)
    obtain ⟨o8, ho, hf⟩ := bd hf
    obtain ⟨n, ho⟩ := lp_it ho
    refine L21 n _ _ _ _ _ o8 ho hW (lv_sub hl [1, 0] rfl) ?_
    intro  σ9 H locs ls e9 hW hl
    subst e9
    try dsimp only at hf
    refine lv_iconst (v := 1) C.1.1 C.1.2.1 dX7_undo_53 (by decide) ?_
    exact ri hQ C hr hlk hW hf (rok_z (Or.inr rfl)) dX7_undo_54
  · replace hf := (if_pos h9).symm.trans hf
    refine lv_iconst (v := 0) C.1.1 C.1.2.1 dX7_undo_7 (by decide) ?_
    exact ri hQ C hr hlk hW hf (rok_z (Or.inl rfl)) dX7_undo_8
