theorem kvX7_put : KV 7 "RightKeysModel" yX7_put cX7_put 3 none 1 := ⟨⟨w_1239, w_46, w_116, w_1240⟩, ⟨rfl, by decide, by decide, by decide +kernel⟩, by decide, rfl⟩
noncomputable def bX7_put_3 (a0 : Nat) (p1 : Int32) (x2 : Int32) (σ : Sg) : Option ((Int32 × Sg) ⊕ (Sg)) := if x2 < 0 then (some (Sum.inr σ)) else (if vin (σ.1 a0 2) 2000 then (let σ3 := wI σ (a0 + 1) (((σ.1 a0 2)).toNatClampNeg) (vp_nar .byte (((p1 >>> (x2 &&& 31))).toInt8.toInt32)); (let σ4 := wI σ3 a0 2 ((σ3.1 a0 2) + (1 : Int32)); let x2_5 := x2 + (-8 : Int32); some (Sum.inl (x2_5, σ4)))) else none)
noncomputable def fX7_put (a0 : Nat) (p1 : Int32) (σ : Sg) : Option (Sg) := (lp (fun st => bX7_put_3 a0 p1 st.1 st.2) ((24 : Int32), σ)).bind (fun σ7 => some σ7)
set_option maxRecDepth 100000 in
set_option maxHeartbeats 4000000 in
theorem mX7_put {l : Launch} {G : Gm} {a0 : Nat} {p1 : Int32} {σ : Sg} {σ' : Sg} (hk_a0 : gK G a0 = 8) (hf : fX7_put a0 p1 σ = some σ') : Mv l G yX7_put cX7_put 3 0 0 [.ref (gB G + a0), .int p1] σ σ' := by
  refine of_W "RightKeysModel" rfl (by decide) (Nat.le_of_ble_eq_true rfl) ?_
  intro p e s m args below meth c Q hQ C hr hlk hW ls hl
  have h00 := hW.1
  have hl : lv_has ls 3 [(0, .ref (gB G + a0)), (1, .int p1)] := hl
  delta fX7_put at hf
  have L3 : ∀ (n : Nat) (x2 : Int32) (σ : Sg) (H : Heap) (locs : List Loc) (ls : Array Slot) (out : (Sg)), iter (fun st => bX7_put_3 a0 p1 st.1 st.2) n (x2, σ) = some out → Ws G σ s.heap H locs → lv_has ls 3 [(0, .ref (gB G + a0)), (1, .int p1), (2, .int x2)] → (∀ (σ : Sg) (H : Heap) (locs : List Loc) (ls : Array Slot), out = σ → Ws G σ s.heap H locs → lv_has ls 3 [] → W p l e (rmOf 0 0) s m args below meth c H locs 0 0 Q (F0 m 36 ls [])) → W p l e (rmOf 0 0) s m args below meth c H locs 0 0 Q (F0 m 3 ls []) := by
    intro n
    induction n with
    | zero =>
      intro x2 σ H locs ls out hf
      exact (it_0 hf).elim
    | succ n ih =>
      intro x2 σ H locs ls out hf hW hl K3_36
      obtain ⟨x, hf, hx⟩ := it_s hf
      have hf : bX7_put_3 a0 p1 x2 σ = some x := hf
      delta bX7_put_3 at hf
      refine lv_iload_n C.1.1 C.1.2.1 dX7_put_3 rfl (lv_at hl 2 rfl) ?_
      refine lv_if_lt (tgt := 36) C.1.1 C.1.2.1 dX7_put_4 (by decide) (fun h9 => ?_) (fun h9 => ?_)
      · replace hf := (if_pos h9).symm.trans hf
        cases hf
        cases hx
        exact K3_36 _ _ _ _ rfl hW (lv_sub hl [] rfl)
      · replace hf := (if_neg h9).symm.trans hf
        refine lv_aload_n C.1.1 C.1.2.1 dX7_put_7 rfl (lv_at hl 0 rfl) ?_
        have hk1 := sh7_1 hW hk_a0
        refine gf7_1 C hW hk_a0 w_1031 dX7_put_8 ?_
        refine lv_aload_n C.1.1 C.1.2.1 dX7_put_11 rfl (lv_at hl 0 rfl) ?_
        refine gf7_2 C hW hk_a0 w_1032 dX7_put_12 ?_
        refine lv_iload_n C.1.1 C.1.2.1 dX7_put_15 rfl (lv_at hl 1 rfl) ?_
        refine lv_iload_n C.1.1 C.1.2.1 dX7_put_16 rfl (lv_at hl 2 rfl) ?_
        refine lv_ishr C.1.1 C.1.2.1 dX7_put_17 ?_
        refine lv_i2b (v := Int8.toInt32 (Int32.toInt8 _)) C.1.1 C.1.2.1 dX7_put_18 rfl ?_
        obtain ⟨hv2, hf⟩ := gd hf
        refine wsb C hW hk1 (vin_p hv2) dX7_put_19 (fun H locs hW => ?_)
        refine lv_aload_n C.1.1 C.1.2.1 dX7_put_20 rfl (lv_at hl 0 rfl) ?_
        refine lv_dup C.1.1 C.1.2.1 dX7_put_21 rfl ?_
        refine gf7_2 C hW hk_a0 w_1032 dX7_put_22 ?_
        refine lv_iconst (v := 1) C.1.1 C.1.2.1 dX7_put_25 (by decide) ?_
        refine lv_iadd C.1.1 C.1.2.1 dX7_put_26 ?_
        refine pf7_2 C hW hk_a0 w_1032 dX7_put_27 (fun H locs hW => ?_)
        refine lv_iinc (v := _) (lv' := [(2, .int _), (0, .ref _), (1, .int _)]) C.1.1 C.1.2.1 dX7_put_30 hl (k := 2) rfl (ii (k := (-8)) (by decide)) (by decide) rfl (fun ls hl => ?_)
        refine lv_goto (tgt := 3) C.1.1 C.1.2.1 dX7_put_33 (by decide) ?_
        cases hf
        exact ih _ _ _ _ _ _ hx hW (lv_sub hl [1, 2, 0] rfl) K3_36
  refine lv_bipush (v := 24) C.1.1 C.1.2.1 dX7_put_0 (by decide) ?_
  refine lv_istore_n (lv' := [(2, .int _), (0, .ref _), (1, .int _)]) C.1.1 C.1.2.1 dX7_put_2 rfl hl (by decide) rfl (fun ls hl => ?_)
  obtain ⟨o6, ho, hf⟩ := bd hf
  obtain ⟨n, ho⟩ := lp_it ho
  refine L3 n _ _ _ _ _ o6 ho hW (lv_sub hl [1, 2, 0] rfl) ?_
  intro  σ7 H locs ls e9 hW hl
  subst e9
  try dsimp only at hf
  exact rv hQ C hr hlk hW hf dX7_put_36
theorem kvX7_feed : KV 7 "RightKeysModel" yX7_feed cX7_feed 6 (some .int) 5 := ⟨⟨w_1234, w_1235, w_116, w_1236⟩, ⟨rfl, by decide, by decide, by decide +kernel⟩, by decide, rfl⟩
noncomputable def fX7_feed (a0 : Nat) (p1 : Int32) (p2 : Int32) (p3 : Int32) (p4 : Int32) (p5 : Int32) (σ : Sg) : Option (Int32 × Sg) := if ((σ.1 a0 2) + (20 : Int32)) ≤ (2000 : Int32) then ((fX7_put a0 p1 σ).bind (fun σ2 => (fX7_put a0 p2 σ2).bind (fun σ7 => (fX7_put a0 p3 σ7).bind (fun σ12 => (fX7_put a0 p4 σ12).bind (fun σ17 => (fX7_put a0 p5 σ17).bind (fun σ22 => some ((σ22.1 a0 2), σ22))))))) else (some ((-1 : Int32), σ))
set_option maxRecDepth 100000 in
set_option maxHeartbeats 4000000 in
theorem mX7_feed {l : Launch} {G : Gm} {a0 : Nat} {p1 : Int32} {p2 : Int32} {p3 : Int32} {p4 : Int32} {p5 : Int32} {σ : Sg} {r : Int32} {σ' : Sg} (hk_a0 : gK G a0 = 8) (hf : fX7_feed a0 p1 p2 p3 p4 p5 σ = some (r, σ')) : Mi l G yX7_feed cX7_feed 6 .int 1 22 [.ref (gB G + a0), .int p1, .int p2, .int p3, .int p4, .int p5] σ r σ' := by
  refine of_W "RightKeysModel" rfl (by decide) (Nat.le_of_ble_eq_true rfl) ?_
  intro p e s m args below meth c Q hQ C hr hlk hW ls hl
  have h00 := hW.1
  have hl : lv_has ls 6 [(0, .ref (gB G + a0)), (1, .int p1), (2, .int p2), (3, .int p3), (4, .int p4), (5, .int p5)] := hl
  delta fX7_feed at hf
  refine lv_aload_n C.1.1 C.1.2.1 dX7_feed_0 rfl (lv_at hl 0 rfl) ?_
  refine gf7_2 C hW hk_a0 w_1032 dX7_feed_1 ?_
  refine lv_bipush (v := 20) C.1.1 C.1.2.1 dX7_feed_4 (by decide) ?_
  refine lv_iadd C.1.1 C.1.2.1 dX7_feed_6 ?_
  refine lv_sipush (v := 2000) C.1.1 C.1.2.1 dX7_feed_7 (by decide) ?_
  refine lv_icmp_le (tgt := 15) C.1.1 C.1.2.1 dX7_feed_10 (by decide) (fun h9 => ?_) (fun h9 => ?_)
  · replace hf := (if_pos h9).symm.trans hf
    refine lv_aload_n C.1.1 C.1.2.1 dX7_feed_15 rfl (lv_at hl 0 rfl) ?_
    refine lv_iload_n C.1.1 C.1.2.1 dX7_feed_16 rfl (lv_at hl 1 rfl) ?_
    obtain ⟨σ2, hc1, hf⟩ := bd hf
    try dsimp only at hf
    refine cVv C hW (mX7_put hk_a0 hc1) hk_a0 kvX7_put w_1237 ⟨(Nat.le_of_ble_eq_true rfl), (Nat.le_of_ble_eq_true rfl)⟩ ⟨Nat.zero_le _, Nat.zero_le _⟩ rfl hl.1 (rest := []) rfl (Nat.le_of_ble_eq_true rfl) dX7_feed_17 (fun H locs hW => ?_)
    refine lv_aload_n C.1.1 C.1.2.1 dX7_feed_20 rfl (lv_at hl 0 rfl) ?_
    refine lv_iload_n C.1.1 C.1.2.1 dX7_feed_21 rfl (lv_at hl 2 rfl) ?_
    obtain ⟨σ7, hc6, hf⟩ := bd hf
    try dsimp only at hf
    refine cVv C hW (mX7_put hk_a0 hc6) hk_a0 kvX7_put w_1237 ⟨(Nat.le_of_ble_eq_true rfl), (Nat.le_of_ble_eq_true rfl)⟩ ⟨Nat.zero_le _, Nat.zero_le _⟩ rfl hl.1 (rest := []) rfl (Nat.le_of_ble_eq_true rfl) dX7_feed_22 (fun H locs hW => ?_)
    refine lv_aload_n C.1.1 C.1.2.1 dX7_feed_25 rfl (lv_at hl 0 rfl) ?_
    refine lv_iload_n C.1.1 C.1.2.1 dX7_feed_26 rfl (lv_at hl 3 rfl) ?_
    obtain ⟨σ12, hc11, hf⟩ := bd hf
    try dsimp only at hf
    refine cVv C hW (mX7_put hk_a0 hc11) hk_a0 kvX7_put w_1237 ⟨(Nat.le_of_ble_eq_true rfl), (Nat.le_of_ble_eq_true rfl)⟩ ⟨Nat.zero_le _, Nat.zero_le _⟩ rfl hl.1 (rest := []) rfl (Nat.le_of_ble_eq_true rfl) dX7_feed_27 (fun H locs hW => ?_)
    refine lv_aload_n C.1.1 C.1.2.1 dX7_feed_30 rfl (lv_at hl 0 rfl) ?_
    refine lv_iload C.1.1 C.1.2.1 dX7_feed_31 (lv_at hl 4 rfl) ?_
    obtain ⟨σ17, hc16, hf⟩ := bd hf
    try dsimp only at hf
    refine cVv C hW (mX7_put hk_a0 hc16) hk_a0 kvX7_put w_1237 ⟨(Nat.le_of_ble_eq_true rfl), (Nat.le_of_ble_eq_true rfl)⟩ ⟨Nat.zero_le _, Nat.zero_le _⟩ rfl hl.1 (rest := []) rfl (Nat.le_of_ble_eq_true rfl) dX7_feed_33 (fun H locs hW => ?_)
    refine lv_aload_n C.1.1 C.1.2.1 dX7_feed_36 rfl (lv_at hl 0 rfl) ?_
    refine lv_iload C.1.1 C.1.2.1 dX7_feed_37 (lv_at hl 5 rfl) ?_
    obtain ⟨σ22, hc21, hf⟩ := bd hf
    try dsimp only at hf
    refine cVv C hW (mX7_put hk_a0 hc21) hk_a0 kvX7_put w_1237 ⟨(Nat.le_of_ble_eq_true rfl), (Nat.le_of_ble_eq_true rfl)⟩ ⟨Nat.zero_le _, Nat.zero_le _⟩ rfl hl.1 (rest := []) rfl (Nat.le_of_ble_eq_true rfl) dX7_feed_39 (fun H locs hW => ?_)
    refine lv_aload_n C.1.1 C.1.2.1 dX7_feed_42 rfl (lv_at hl 0 rfl) ?_
    refine gf7_2 C hW hk_a0 w_1032 dX7_feed_43 ?_
    exact ri hQ C hr hlk hW hf (rok_i _) dX7_feed_46
  · replace hf := (if_neg h9).symm.trans hf
    refine lv_iconst (v := (-1)) C.1.1 C.1.2.1 dX7_feed_13 (by decide) ?_
    exact ri hQ C hr hlk hW hf (rok_i _) dX7_feed_14
theorem kvX7_back : KV 7 "RightKeysModel" yX7_back cX7_back 2 (some .int) 1 := ⟨⟨w_1242, w_1243, w_116, w_1244⟩, ⟨rfl, by decide, by decide, by decide +kernel⟩, by decide, rfl⟩
noncomputable def fX7_back (a0 : Nat) (p1 : Int32) (σ : Sg) : Option (Int32 × Sg) := if p1 < 0 then (some ((-1 : Int32), σ)) else (if p1 ≤ (σ.1 a0 2) then ((let σ1 := wI σ a0 2 ((σ.1 a0 2) - p1); some ((σ1.1 a0 2), σ1))) else (some ((-1 : Int32), σ)))
set_option maxRecDepth 100000 in
set_option maxHeartbeats 4000000 in
theorem mX7_back {l : Launch} {G : Gm} {a0 : Nat} {p1 : Int32} {σ : Sg} {r : Int32} {σ' : Sg} (hk_a0 : gK G a0 = 8) (hf : fX7_back a0 p1 σ = some (r, σ')) : Mi l G yX7_back cX7_back 2 .int 0 0 [.ref (gB G + a0), .int p1] σ r σ' := by
  refine of_W "RightKeysModel" rfl (by decide) (Nat.le_of_ble_eq_true rfl) ?_
  intro p e s m args below meth c Q hQ C hr hlk hW ls hl
  have h00 := hW.1
  have hl : lv_has ls 2 [(0, .ref (gB G + a0)), (1, .int p1)] := hl
  delta fX7_back at hf
  refine lv_iload_n C.1.1 C.1.2.1 dX7_back_0 rfl (lv_at hl 1 rfl) ?_
  refine lv_if_lt (tgt := 12) C.1.1 C.1.2.1 dX7_back_1 (by decide) (fun h9 => ?_) (fun h9 => ?_)
  · replace hf := (if_pos h9).symm.trans hf
    refine lv_iconst (v := (-1)) C.1.1 C.1.2.1 dX7_back_12 (by decide) ?_
    exact ri hQ C hr hlk hW hf (rok_i _) dX7_back_13
  · replace hf := (if_neg h9).symm.trans hf
    refine lv_iload_n C.1.1 C.1.2.1 dX7_back_4 rfl (lv_at hl 1 rfl) ?_
    refine lv_aload_n C.1.1 C.1.2.1 dX7_back_5 rfl (lv_at hl 0 rfl) ?_
    refine gf7_2 C hW hk_a0 w_1032 dX7_back_6 ?_
    refine lv_icmp_le (tgt := 14) C.1.1 C.1.2.1 dX7_back_9 (by decide) (fun h9 => ?_) (fun h9 => ?_)
    · replace hf := (if_pos h9).symm.trans hf
      refine lv_aload_n C.1.1 C.1.2.1 dX7_back_14 rfl (lv_at hl 0 rfl) ?_
      refine lv_dup C.1.1 C.1.2.1 dX7_back_15 rfl ?_
      refine gf7_2 C hW hk_a0 w_1032 dX7_back_16 ?_
      refine lv_iload_n C.1.1 C.1.2.1 dX7_back_19 rfl (lv_at hl 1 rfl) ?_
      refine lv_isub C.1.1 C.1.2.1 dX7_back_20 ?_
      refine pf7_2 C hW hk_a0 w_1032 dX7_back_21 (fun H locs hW => ?_)
      refine lv_aload_n C.1.1 C.1.2.1 dX7_back_24 rfl (lv_at hl 0 rfl) ?_
      refine gf7_2 C hW hk_a0 w_1032 dX7_back_25 ?_
      exact ri hQ C hr hlk hW hf (rok_i _) dX7_back_28
    · replace hf := (if_neg h9).symm.trans hf
      refine lv_iconst (v := (-1)) C.1.1 C.1.2.1 dX7_back_12 (by decide) ?_
      exact ri hQ C hr hlk hW hf (rok_i _) dX7_back_13
theorem kvX7_byteAt : KV 7 "RightKeysModel" yX7_byteAt cX7_byteAt 2 (some .int) 1 := ⟨⟨w_1255, w_48, w_116, w_1256⟩, ⟨rfl, by decide, by decide, by decide +kernel⟩, by decide, rfl⟩
noncomputable def fX7_byteAt (a0 : Nat) (p1 : Int32) (σ : Sg) : Option (Int32 × Sg) := if (σ.1 a0 4) ≤ p1 then (some ((0 : Int32), σ)) else (if vin p1 2000 then (some (((σ.1 (a0 + 2) ((p1).toNatClampNeg)) &&& (255 : Int32)), σ)) else none)
set_option maxRecDepth 100000 in
set_option maxHeartbeats 4000000 in
theorem mX7_byteAt {l : Launch} {G : Gm} {a0 : Nat} {p1 : Int32} {σ : Sg} {r : Int32} {σ' : Sg} (hk_a0 : gK G a0 = 8) (hf : fX7_byteAt a0 p1 σ = some (r, σ')) : Mi l G yX7_byteAt cX7_byteAt 2 .int 0 0 [.ref (gB G + a0), .int p1] σ r σ' := by
  refine of_W "RightKeysModel" rfl (by decide) (Nat.le_of_ble_eq_true rfl) ?_
  intro p e s m args below meth c Q hQ C hr hlk hW ls hl
  have h00 := hW.1
  have hl : lv_has ls 2 [(0, .ref (gB G + a0)), (1, .int p1)] := hl
  delta fX7_byteAt at hf
  refine lv_iload_n C.1.1 C.1.2.1 dX7_byteAt_0 rfl (lv_at hl 1 rfl) ?_
  refine lv_aload_n C.1.1 C.1.2.1 dX7_byteAt_1 rfl (lv_at hl 0 rfl) ?_
  refine gf7_4 C hW hk_a0 w_1034 dX7_byteAt_2 ?_
  refine lv_icmp_ge (tgt := 21) C.1.1 C.1.2.1 dX7_byteAt_5 (by decide) (fun h9 => ?_) (fun h9 => ?_)
  · replace hf := (if_pos h9).symm.trans hf
    refine lv_iconst (v := 0) C.1.1 C.1.2.1 dX7_byteAt_21 (by decide) ?_
    exact ri hQ C hr hlk hW hf (rok_i _) dX7_byteAt_22
  · replace hf := (if_neg h9).symm.trans hf
    refine lv_aload_n C.1.1 C.1.2.1 dX7_byteAt_8 rfl (lv_at hl 0 rfl) ?_
    have hk1 := sh7_3 hW hk_a0
    refine gf7_3 C hW hk_a0 w_1033 dX7_byteAt_9 ?_
    refine lv_iload_n C.1.1 C.1.2.1 dX7_byteAt_12 rfl (lv_at hl 1 rfl) ?_
    obtain ⟨hv2, hf⟩ := gd hf
    refine wab C hW hk1 (vin_p hv2) dX7_byteAt_13 ?_
    refine lv_sipush (v := 255) C.1.1 C.1.2.1 dX7_byteAt_14 (by decide) ?_
    refine lv_iand C.1.1 C.1.2.1 dX7_byteAt_17 ?_
    refine lv_goto (tgt := 22) C.1.1 C.1.2.1 dX7_byteAt_18 (by decide) ?_
    exact ri hQ C hr hlk hW hf (rok_i _) dX7_byteAt_22
theorem ksX7_isDigit : KS yX7_isDigit cX7_isDigit 1 (some .boolean) 1 := ⟨⟨w_1265, w_116, w_1266⟩, ⟨by decide, by decide, by decide +kernel⟩⟩
noncomputable def fX7_isDigit (p0 : Int32) (σ : Sg) : Option (Int32 × Sg) := if p0 < (48 : Int32) then (some ((0 : Int32), σ)) else (if (57 : Int32) < p0 then (some ((0 : Int32), σ)) else (some ((1 : Int32), σ)))
set_option maxRecDepth 100000 in
set_option maxHeartbeats 4000000 in
theorem mX7_isDigit {l : Launch} {G : Gm} {p0 : Int32} {σ : Sg} {r : Int32} {σ' : Sg}  (hf : fX7_isDigit p0 σ = some (r, σ')) : Mi l G yX7_isDigit cX7_isDigit 1 .boolean 0 0 [.int p0] σ r σ' := by
  refine of_W "RightKeysModel" rfl (by decide) (Nat.le_of_ble_eq_true rfl) ?_
  intro p e s m args below meth c Q hQ C hr hlk hW ls hl
  have h00 := hW.1
  have hl : lv_has ls 1 [(0, .int p0)] := hl
  delta fX7_isDigit at hf
  refine lv_iload_n C.1.1 C.1.2.1 dX7_isDigit_0 rfl (lv_at hl 0 rfl) ?_
  refine lv_bipush (v := 48) C.1.1 C.1.2.1 dX7_isDigit_1 (by decide) ?_
  refine lv_icmp_lt (tgt := 16) C.1.1 C.1.2.1 dX7_isDigit_3 (by decide) (fun h9 => ?_) (fun h9 => ?_)
  · replace hf := (if_pos h9).symm.trans hf
    refine lv_iconst (v := 0) C.1.1 C.1.2.1 dX7_isDigit_16 (by decide) ?_
    exact ri hQ C hr hlk hW hf (rok_z (Or.inl rfl)) dX7_isDigit_17
  · replace hf := (if_neg h9).symm.trans hf
    refine lv_iload_n C.1.1 C.1.2.1 dX7_isDigit_6 rfl (lv_at hl 0 rfl) ?_
    refine lv_bipush (v := 57) C.1.1 C.1.2.1 dX7_isDigit_7 (by decide) ?_
    refine lv_icmp_gt (tgt := 16) C.1.1 C.1.2.1 dX7_isDigit_9 (by decide) (fun h9 => ?_) (fun h9 => ?_)
    · replace hf := (if_pos h9).symm.trans hf
      refine lv_iconst (v := 0) C.1.1 C.1.2.1 dX7_isDigit_16 (by decide) ?_
      exact ri hQ C hr hlk hW hf (rok_z (Or.inl rfl)) dX7_isDigit_17
    · replace hf := (if_neg h9).symm.trans hf
      refine lv_iconst (v := 1) C.1.1 C.1.2.1 dX7_isDigit_12 (by decide) ?_
      refine lv_goto (tgt := 17) C.1.1 C.1.2.1 dX7_isDigit_13 (by decide) ?_
      exact ri hQ C hr hlk hW hf (rok_z (Or.inr rfl)) dX7_isDigit_17
theorem ksX7_isLetter : KS yX7_isLetter cX7_isLetter 1 (some .boolean) 1 := ⟨⟨w_1262, w_116, w_1263⟩, ⟨by decide, by decide, by decide +kernel⟩⟩
noncomputable def fX7_isLetter (p0 : Int32) (σ : Sg) : Option (Int32 × Sg) := if p0 < (97 : Int32) then (some ((0 : Int32), σ)) else (if (122 : Int32) < p0 then (some ((0 : Int32), σ)) else (some ((1 : Int32), σ)))
set_option maxRecDepth 100000 in
set_option maxHeartbeats 4000000 in
theorem mX7_isLetter {l : Launch} {G : Gm} {p0 : Int32} {σ : Sg} {r : Int32} {σ' : Sg}  (hf : fX7_isLetter p0 σ = some (r, σ')) : Mi l G yX7_isLetter cX7_isLetter 1 .boolean 0 0 [.int p0] σ r σ' := by
  refine of_W "RightKeysModel" rfl (by decide) (Nat.le_of_ble_eq_true rfl) ?_
  intro p e s m args below meth c Q hQ C hr hlk hW ls hl
  have h00 := hW.1
  have hl : lv_has ls 1 [(0, .int p0)] := hl
  delta fX7_isLetter at hf
  refine lv_iload_n C.1.1 C.1.2.1 dX7_isLetter_0 rfl (lv_at hl 0 rfl) ?_
  refine lv_bipush (v := 97) C.1.1 C.1.2.1 dX7_isLetter_1 (by decide) ?_
  refine lv_icmp_lt (tgt := 16) C.1.1 C.1.2.1 dX7_isLetter_3 (by decide) (fun h9 => ?_) (fun h9 => ?_)
  · replace hf := (if_pos h9).symm.trans hf
    refine lv_iconst (v := 0) C.1.1 C.1.2.1 dX7_isLetter_16 (by decide) ?_
    exact ri hQ C hr hlk hW hf (rok_z (Or.inl rfl)) dX7_isLetter_17
  · replace hf := (if_neg h9).symm.trans hf
    refine lv_iload_n C.1.1 C.1.2.1 dX7_isLetter_6 rfl (lv_at hl 0 rfl) ?_
    refine lv_bipush (v := 122) C.1.1 C.1.2.1 dX7_isLetter_7 (by decide) ?_
    refine lv_icmp_gt (tgt := 16) C.1.1 C.1.2.1 dX7_isLetter_9 (by decide) (fun h9 => ?_) (fun h9 => ?_)
    · replace hf := (if_pos h9).symm.trans hf
      refine lv_iconst (v := 0) C.1.1 C.1.2.1 dX7_isLetter_16 (by decide) ?_
      exact ri hQ C hr hlk hW hf (rok_z (Or.inl rfl)) dX7_isLetter_17
    · replace hf := (if_neg h9).symm.trans hf
      refine lv_iconst (v := 1) C.1.1 C.1.2.1 dX7_isLetter_12 (by decide) ?_
      refine lv_goto (tgt := 17) C.1.1 C.1.2.1 dX7_isLetter_13 (by decide) ?_
      exact ri hQ C hr hlk hW hf (rok_z (Or.inr rfl)) dX7_isLetter_17
theorem ksX7_appends : KS yX7_appends cX7_appends 3 (some .long) 2 := ⟨⟨w_1020, w_116, w_1021⟩, ⟨by decide, by decide, by decide +kernel⟩⟩
noncomputable def fX7_appends (p0 : Int64) (p2 : Int32) (σ : Sg) : Option (Int64 × Sg) := if p2 = 0 then (some (p0, σ)) else (some ((((27 : Int64) * p0) + ((((p2 - (97 : Int32)) + (1 : Int32))).toInt64)), σ))
set_option maxRecDepth 100000 in
set_option maxHeartbeats 4000000 in
theorem mX7_appends {l : Launch} {G : Gm} {p0 : Int64} {p2 : Int32} {σ : Sg} {r : Int64} {σ' : Sg}  (hf : fX7_appends p0 p2 σ = some (r, σ')) : Ml l G yX7_appends cX7_appends 3 0 0 [.long p0, .int p2] σ r σ' := by
  refine of_W "RightKeysModel" rfl (by decide) (Nat.le_of_ble_eq_true rfl) ?_
  intro p e s m args below meth c Q hQ C hr hlk hW ls hl
  have h00 := hW.1
  have hl : lv_has ls 3 [(0, .long p0), (2, .int p2)] := hl
  delta fX7_appends at hf
  refine lv_iload_n C.1.1 C.1.2.1 dX7_appends_0 rfl (lv_at hl 1 rfl) ?_
  refine lv_if_ne (tgt := 8) C.1.1 C.1.2.1 dX7_appends_1 (by decide) (fun h9 => ?_) (fun h9 => ?_)
  · replace hf := (if_neg h9).symm.trans hf
    refine lv_ldc2 (v := 27) C.1.1 C.1.2.1 C.1.2.2.2.1 (C.w w_1022) dX7_appends_8 ?_
    refine lv_lload_n C.1.1 C.1.2.1 dX7_appends_11 rfl (lv_at hl 0 rfl) ?_
    refine lv_lmul C.1.1 C.1.2.1 dX7_appends_12 ?_
    refine lv_iload_n C.1.1 C.1.2.1 dX7_appends_13 rfl (lv_at hl 1 rfl) ?_
    refine lv_bipush (v := 97) C.1.1 C.1.2.1 dX7_appends_14 (by decide) ?_
    refine lv_isub C.1.1 C.1.2.1 dX7_appends_16 ?_
    refine lv_iconst (v := 1) C.1.1 C.1.2.1 dX7_appends_17 (by decide) ?_
    refine lv_iadd C.1.1 C.1.2.1 dX7_appends_18 ?_
    refine lv_i2l (v := Int32.toInt64 _) C.1.1 C.1.2.1 dX7_appends_19 rfl ?_
    refine lv_ladd C.1.1 C.1.2.1 dX7_appends_20 ?_
    exact rl hQ C hr hlk hW hf dX7_appends_21
  · replace hf := (if_pos h9).symm.trans hf
    refine lv_lload_n C.1.1 C.1.2.1 dX7_appends_4 rfl (lv_at hl 0 rfl) ?_
    refine lv_goto (tgt := 21) C.1.1 C.1.2.1 dX7_appends_5 (by decide) ?_
    exact rl hQ C hr hlk hW hf dX7_appends_21
theorem ksX7_word : KS yX7_word cX7_word 7 (some .long) 7 := ⟨⟨w_1017, w_116, w_1018⟩, ⟨by decide, by decide, by decide +kernel⟩⟩
noncomputable def fX7_word (p0 : Int32) (p1 : Int32) (p2 : Int32) (p3 : Int32) (p4 : Int32) (p5 : Int32) (p6 : Int32) (σ : Sg) : Option (Int64 × Sg) := (fX7_appends (0 : Int64) p0 σ).bind (fun q5 => let r3 := q5.1; let σ2 := q5.2; (fX7_appends r3 p1 σ2).bind (fun q10 => let r8 := q10.1; let σ7 := q10.2; (fX7_appends r8 p2 σ7).bind (fun q15 => let r13 := q15.1; let σ12 := q15.2; (fX7_appends r13 p3 σ12).bind (fun q20 => let r18 := q20.1; let σ17 := q20.2; (fX7_appends r18 p4 σ17).bind (fun q25 => let r23 := q25.1; let σ22 := q25.2; (fX7_appends r23 p5 σ22).bind (fun q30 => let r28 := q30.1; let σ27 := q30.2; (fX7_appends r28 p6 σ27).bind (fun q35 => let r33 := q35.1; let σ32 := q35.2; some (r33, σ32))))))))
set_option maxRecDepth 100000 in
set_option maxHeartbeats 4000000 in
theorem mX7_word {l : Launch} {G : Gm} {p0 : Int32} {p1 : Int32} {p2 : Int32} {p3 : Int32} {p4 : Int32} {p5 : Int32} {p6 : Int32} {σ : Sg} {r : Int64} {σ' : Sg}  (hf : fX7_word p0 p1 p2 p3 p4 p5 p6 σ = some (r, σ')) : Ml l G yX7_word cX7_word 7 1 22 [.int p0, .int p1, .int p2, .int p3, .int p4, .int p5, .int p6] σ r σ' := by
  refine of_W "RightKeysModel" rfl (by decide) (Nat.le_of_ble_eq_true rfl) ?_
  intro p e s m args below meth c Q hQ C hr hlk hW ls hl
  have h00 := hW.1
  have hl : lv_has ls 7 [(0, .int p0), (1, .int p1), (2, .int p2), (3, .int p3), (4, .int p4), (5, .int p5), (6, .int p6)] := hl
  delta fX7_word at hf
  refine lv_lconst (v := 0) C.1.1 C.1.2.1 dX7_word_0 (by decide) ?_
  refine lv_iload_n C.1.1 C.1.2.1 dX7_word_1 rfl (lv_at hl 0 rfl) ?_
  obtain ⟨⟨r3, σ2⟩, hc1, hf⟩ := bd hf
  try dsimp only at hf
  refine cSl C hW (mX7_appends hc1) ksX7_appends w_1019 ⟨(Nat.le_of_ble_eq_true rfl), (Nat.le_of_ble_eq_true rfl)⟩ ⟨Nat.zero_le _, Nat.zero_le _⟩ rfl hl.1 (rest := []) rfl (Nat.le_of_ble_eq_true rfl) dX7_word_2 (fun H locs hW => ?_)
  refine lv_iload_n C.1.1 C.1.2.1 dX7_word_5 rfl (lv_at hl 1 rfl) ?_
  obtain ⟨⟨r8, σ7⟩, hc6, hf⟩ := bd hf
  try dsimp only at hf
  refine cSl C hW (mX7_appends hc6) ksX7_appends w_1019 ⟨(Nat.le_of_ble_eq_true rfl), (Nat.le_of_ble_eq_true rfl)⟩ ⟨Nat.zero_le _, Nat.zero_le _⟩ rfl hl.1 (rest := []) rfl (Nat.le_of_ble_eq_true rfl) dX7_word_6 (fun H locs hW => ?_)
  refine lv_iload_n C.1.1 C.1.2.1 dX7_word_9 rfl (lv_at hl 2 rfl) ?_
  obtain ⟨⟨r13, σ12⟩, hc11, hf⟩ := bd hf
  try dsimp only at hf
  refine cSl C hW (mX7_appends hc11) ksX7_appends w_1019 ⟨(Nat.le_of_ble_eq_true rfl), (Nat.le_of_ble_eq_true rfl)⟩ ⟨Nat.zero_le _, Nat.zero_le _⟩ rfl hl.1 (rest := []) rfl (Nat.le_of_ble_eq_true rfl) dX7_word_10 (fun H locs hW => ?_)
  refine lv_iload_n C.1.1 C.1.2.1 dX7_word_13 rfl (lv_at hl 3 rfl) ?_
  obtain ⟨⟨r18, σ17⟩, hc16, hf⟩ := bd hf
  try dsimp only at hf
  refine cSl C hW (mX7_appends hc16) ksX7_appends w_1019 ⟨(Nat.le_of_ble_eq_true rfl), (Nat.le_of_ble_eq_true rfl)⟩ ⟨Nat.zero_le _, Nat.zero_le _⟩ rfl hl.1 (rest := []) rfl (Nat.le_of_ble_eq_true rfl) dX7_word_14 (fun H locs hW => ?_)
  refine lv_iload C.1.1 C.1.2.1 dX7_word_17 (lv_at hl 4 rfl) ?_
  obtain ⟨⟨r23, σ22⟩, hc21, hf⟩ := bd hf
  try dsimp only at hf
  refine cSl C hW (mX7_appends hc21) ksX7_appends w_1019 ⟨(Nat.le_of_ble_eq_true rfl), (Nat.le_of_ble_eq_true rfl)⟩ ⟨Nat.zero_le _, Nat.zero_le _⟩ rfl hl.1 (rest := []) rfl (Nat.le_of_ble_eq_true rfl) dX7_word_19 (fun H locs hW => ?_)
  refine lv_iload C.1.1 C.1.2.1 dX7_word_22 (lv_at hl 5 rfl) ?_
  obtain ⟨⟨r28, σ27⟩, hc26, hf⟩ := bd hf
  try dsimp only at hf
  refine cSl C hW (mX7_appends hc26) ksX7_appends w_1019 ⟨(Nat.le_of_ble_eq_true rfl), (Nat.le_of_ble_eq_true rfl)⟩ ⟨Nat.zero_le _, Nat.zero_le _⟩ rfl hl.1 (rest := []) rfl (Nat.le_of_ble_eq_true rfl) dX7_word_24 (fun H locs hW => ?_)
  refine lv_iload C.1.1 C.1.2.1 dX7_word_27 (lv_at hl 6 rfl) ?_
  obtain ⟨⟨r33, σ32⟩, hc31, hf⟩ := bd hf
  try dsimp only at hf
  refine cSl C hW (mX7_appends hc31) ksX7_appends w_1019 ⟨(Nat.le_of_ble_eq_true rfl), (Nat.le_of_ble_eq_true rfl)⟩ ⟨Nat.zero_le _, Nat.zero_le _⟩ rfl hl.1 (rest := []) rfl (Nat.le_of_ble_eq_true rfl) dX7_word_29 (fun H locs hW => ?_)
  exact rl hQ C hr hlk hW hf dX7_word_32
theorem kvX7_token : KV 7 "RightKeysModel" yX7_token cX7_token 6 none 4 := ⟨⟨w_1259, w_49, w_116, w_1260⟩, ⟨rfl, by decide, by decide, by decide +kernel⟩, by decide, rfl⟩
noncomputable def fX7_token (a0 : Nat) (p1 : Int32) (p2 : Int32) (p3 : Int32) (p4 : Int64) (σ : Sg) : Option (Sg) := if vin (σ.1 a0 10) 403 then (let σ3 := wI σ (a0 + 3) (((σ.1 a0 10)).toNatClampNeg) p1; if vin (σ3.1 a0 10) 403 then (let σ6 := wI σ3 (a0 + 4) (((σ3.1 a0 10)).toNatClampNeg) p2; if vin (σ6.1 a0 10) 403 then (let σ9 := wI σ6 (a0 + 5) (((σ6.1 a0 10)).toNatClampNeg) p3; if vin (σ9.1 a0 10) 403 then (let σ12 := wJ σ9 (a0 + 6) (((σ9.1 a0 10)).toNatClampNeg) p4; (let σ13 := wI σ12 a0 10 ((σ12.1 a0 10) + (1 : Int32)); some σ13)) else none) else none) else none) else none
set_option maxRecDepth 100000 in
set_option maxHeartbeats 4000000 in
theorem mX7_token {l : Launch} {G : Gm} {a0 : Nat} {p1 : Int32} {p2 : Int32} {p3 : Int32} {p4 : Int64} {σ : Sg} {σ' : Sg} (hk_a0 : gK G a0 = 8) (hf : fX7_token a0 p1 p2 p3 p4 σ = some σ') : Mv l G yX7_token cX7_token 6 0 0 [.ref (gB G + a0), .int p1, .int p2, .int p3, .long p4] σ σ' := by
  refine of_W "RightKeysModel" rfl (by decide) (Nat.le_of_ble_eq_true rfl) ?_
  intro p e s m args below meth c Q hQ C hr hlk hW ls hl
  have h00 := hW.1
  have hl : lv_has ls 6 [(0, .ref (gB G + a0)), (1, .int p1), (2, .int p2), (3, .int p3), (4, .long p4)] := hl
  delta fX7_token at hf
  refine lv_aload_n C.1.1 C.1.2.1 dX7_token_0 rfl (lv_at hl 0 rfl) ?_
  have hk1 := sh7_5 hW hk_a0
  refine gf7_5 C hW hk_a0 w_1035 dX7_token_1 ?_
  refine lv_aload_n C.1.1 C.1.2.1 dX7_token_4 rfl (lv_at hl 0 rfl) ?_
  refine gf7_10 C hW hk_a0 w_1040 dX7_token_5 ?_
  refine lv_iload_n C.1.1 C.1.2.1 dX7_token_8 rfl (lv_at hl 1 rfl) ?_
  obtain ⟨hv2, hf⟩ := gd hf
  refine wsi C hW hk1 (vin_p hv2) dX7_token_9 (fun H locs hW => ?_)
  refine lv_aload_n C.1.1 C.1.2.1 dX7_token_10 rfl (lv_at hl 0 rfl) ?_
  have hk4 := sh7_6 hW hk_a0
  refine gf7_6 C hW hk_a0 w_1036 dX7_token_11 ?_
  refine lv_aload_n C.1.1 C.1.2.1 dX7_token_14 rfl (lv_at hl 0 rfl) ?_
  refine gf7_10 C hW hk_a0 w_1040 dX7_token_15 ?_
  refine lv_iload_n C.1.1 C.1.2.1 dX7_token_18 rfl (lv_at hl 2 rfl) ?_
  obtain ⟨hv5, hf⟩ := gd hf
  refine wsi C hW hk4 (vin_p hv5) dX7_token_19 (fun H locs hW => ?_)
  refine lv_aload_n C.1.1 C.1.2.1 dX7_token_20 rfl (lv_at hl 0 rfl) ?_
  have hk7 := sh7_7 hW hk_a0
  refine gf7_7 C hW hk_a0 w_1037 dX7_token_21 ?_
  refine lv_aload_n C.1.1 C.1.2.1 dX7_token_24 rfl (lv_at hl 0 rfl) ?_
  refine gf7_10 C hW hk_a0 w_1040 dX7_token_25 ?_
  refine lv_iload_n C.1.1 C.1.2.1 dX7_token_28 rfl (lv_at hl 3 rfl) ?_
  obtain ⟨hv8, hf⟩ := gd hf
  refine wsi C hW hk7 (vin_p hv8) dX7_token_29 (fun H locs hW => ?_)
  refine lv_aload_n C.1.1 C.1.2.1 dX7_token_30 rfl (lv_at hl 0 rfl) ?_
  have hk10 := sh7_8 hW hk_a0
  refine gf7_8 C hW hk_a0 w_1038 dX7_token_31 ?_
  refine lv_aload_n C.1.1 C.1.2.1 dX7_token_34 rfl (lv_at hl 0 rfl) ?_
  refine gf7_10 C hW hk_a0 w_1040 dX7_token_35 ?_
  refine lv_lload C.1.1 C.1.2.1 dX7_token_38 (lv_at hl 4 rfl) ?_
  obtain ⟨hv11, hf⟩ := gd hf
  refine wsl C hW hk10 (vin_p hv11) dX7_token_40 (fun H locs hW => ?_)
  refine lv_aload_n C.1.1 C.1.2.1 dX7_token_41 rfl (lv_at hl 0 rfl) ?_
  refine lv_dup C.1.1 C.1.2.1 dX7_token_42 rfl ?_
  refine gf7_10 C hW hk_a0 w_1040 dX7_token_43 ?_
  refine lv_iconst (v := 1) C.1.1 C.1.2.1 dX7_token_46 (by decide) ?_
  refine lv_iadd C.1.1 C.1.2.1 dX7_token_47 ?_
  refine pf7_10 C hW hk_a0 w_1040 dX7_token_48 (fun H locs hW => ?_)
  exact rv hQ C hr hlk hW hf dX7_token_51
theorem kvX7_sign : KV 7 "RightKeysModel" yX7_sign cX7_sign 5 (some .int) 3 := ⟨⟨w_1269, w_50, w_116, w_1270⟩, ⟨rfl, by decide, by decide, by decide +kernel⟩, by decide, rfl⟩
noncomputable def jX7_sign_95 (a0 : Nat) (p1 : Int32) (p2 : Int32) (p3 : Int32) (x4 : Int32) (σ : Sg) : Option (Int32 × Sg) := (fX7_token a0 x4 p1 (0 : Int32) (0 : Int64) σ).bind (fun σ2 => some ((1 : Int32), σ2))
noncomputable def jX7_sign_85 (a0 : Nat) (p1 : Int32) (p2 : Int32) (p3 : Int32) (x4 : Int32) (σ : Sg) : Option (Int32 × Sg) := if p2 = (60 : Int32) then (jX7_sign_95 a0 p1 p2 p3 (13 : Int32) σ) else (jX7_sign_95 a0 p1 p2 p3 x4 σ)
noncomputable def jX7_sign_75 (a0 : Nat) (p1 : Int32) (p2 : Int32) (p3 : Int32) (x4 : Int32) (σ : Sg) : Option (Int32 × Sg) := if p2 = (47 : Int32) then (jX7_sign_85 a0 p1 p2 p3 (15 : Int32) σ) else (jX7_sign_85 a0 p1 p2 p3 x4 σ)
noncomputable def jX7_sign_65 (a0 : Nat) (p1 : Int32) (p2 : Int32) (p3 : Int32) (x4 : Int32) (σ : Sg) : Option (Int32 × Sg) := if p2 = (42 : Int32) then (jX7_sign_75 a0 p1 p2 p3 (10 : Int32) σ) else (jX7_sign_75 a0 p1 p2 p3 x4 σ)
noncomputable def jX7_sign_55 (a0 : Nat) (p1 : Int32) (p2 : Int32) (p3 : Int32) (x4 : Int32) (σ : Sg) : Option (Int32 × Sg) := if p2 = (45 : Int32) then (jX7_sign_65 a0 p1 p2 p3 (9 : Int32) σ) else (jX7_sign_65 a0 p1 p2 p3 x4 σ)
noncomputable def jX7_sign_43 (a0 : Nat) (p1 : Int32) (p2 : Int32) (p3 : Int32) (s0 : Int32) (σ : Sg) : Option (Int32 × Sg) := if p2 = (43 : Int32) then (jX7_sign_55 a0 p1 p2 p3 (8 : Int32) σ) else (jX7_sign_55 a0 p1 p2 p3 s0 σ)
noncomputable def fX7_sign (a0 : Nat) (p1 : Int32) (p2 : Int32) (p3 : Int32) (σ : Sg) : Option (Int32 × Sg) := if p2 = (59 : Int32) then (jX7_sign_43 a0 p1 p2 p3 (4 : Int32) σ) else (if p2 = (61 : Int32) then (jX7_sign_43 a0 p1 p2 p3 (5 : Int32) σ) else (if p2 = (40 : Int32) then (jX7_sign_43 a0 p1 p2 p3 (6 : Int32) σ) else (if p2 = (41 : Int32) then (jX7_sign_43 a0 p1 p2 p3 (7 : Int32) σ) else (jX7_sign_43 a0 p1 p2 p3 (3 : Int32) σ))))
set_option maxRecDepth 100000 in
set_option maxHeartbeats 4000000 in
theorem mX7_sign {l : Launch} {G : Gm} {a0 : Nat} {p1 : Int32} {p2 : Int32} {p3 : Int32} {σ : Sg} {r : Int32} {σ' : Sg} (hk_a0 : gK G a0 = 8) (hf : fX7_sign a0 p1 p2 p3 σ = some (r, σ')) : Mi l G yX7_sign cX7_sign 5 .int 1 25 [.ref (gB G + a0), .int p1, .int p2, .int p3] σ r σ' := by
  refine of_W "RightKeysModel" rfl (by decide) (Nat.le_of_ble_eq_true rfl) ?_
  intro p e s m args below meth c Q hQ C hr hlk hW ls hl
  have h00 := hW.1
  have hl : lv_has ls 5 [(0, .ref (gB G + a0)), (1, .int p1), (2, .int p2), (3, .int p3)] := hl
  delta fX7_sign at hf
  have J95 : ∀ (x4 : Int32) (σ : Sg) (H : Heap) (locs : List Loc) (ls : Array Slot), jX7_sign_95 a0 p1 p2 p3 x4 σ = some (r, σ') → Ws G σ s.heap H locs → lv_has ls 5 [(0, .ref (gB G + a0)), (1, .int p1), (4, .int x4)] → W p l e (rmOf 1 25) s m args below meth c H locs 0 0 Q (F0 m 95 ls []) := by
    intro x4 σ H locs ls hf hW hl
    delta jX7_sign_95 at hf
    refine lv_aload_n C.1.1 C.1.2.1 dX7_sign_95 rfl (lv_at hl 0 rfl) ?_
    refine lv_iload C.1.1 C.1.2.1 dX7_sign_96 (lv_at hl 2 rfl) ?_
    refine lv_iload_n C.1.1 C.1.2.1 dX7_sign_98 rfl (lv_at hl 1 rfl) ?_
    refine lv_iconst (v := 0) C.1.1 C.1.2.1 dX7_sign_99 (by decide) ?_
    refine lv_lconst (v := 0) C.1.1 C.1.2.1 dX7_sign_100 (by decide) ?_
    obtain ⟨σ2, hc1, hf⟩ := bd hf
    try dsimp only at hf
    refine cVv C hW (mX7_token hk_a0 hc1) hk_a0 kvX7_token w_1257 ⟨(Nat.le_of_ble_eq_true rfl), (Nat.le_of_ble_eq_true rfl)⟩ ⟨Nat.zero_le _, Nat.zero_le _⟩ rfl hl.1 (rest := []) rfl (Nat.le_of_ble_eq_true rfl) dX7_sign_101 (fun H locs hW => ?_)
    refine lv_iconst (v := 1) C.1.1 C.1.2.1 dX7_sign_104 (by decide) ?_
    exact ri hQ C hr hlk hW hf (rok_i _) dX7_sign_105
  have J85 : ∀ (x4 : Int32) (σ : Sg) (H : Heap) (locs : List Loc) (ls : Array Slot), jX7_sign_85 a0 p1 p2 p3 x4 σ = some (r, σ') → Ws G σ s.heap H locs → lv_has ls 5 [(0, .ref (gB G + a0)), (1, .int p1), (2, .int p2), (4, .int x4)] → W p l e (rmOf 1 25) s m args below meth c H locs 0 0 Q (F0 m 85 ls []) := by
    intro x4 σ H locs ls hf hW hl
    delta jX7_sign_85 at hf
    refine lv_iload_n C.1.1 C.1.2.1 dX7_sign_85 rfl (lv_at hl 2 rfl) ?_
    refine lv_bipush (v := 60) C.1.1 C.1.2.1 dX7_sign_86 (by decide) ?_
    refine lv_icmp_ne (tgt := 95) C.1.1 C.1.2.1 dX7_sign_88 (by decide) (fun h9 => ?_) (fun h9 => ?_)
    · replace hf := (if_neg h9).symm.trans hf
      exact J95 _ _ _ _ _ hf hW (lv_sub hl [0, 1, 3] rfl)
    · replace hf := (if_pos h9).symm.trans hf
      refine lv_bipush (v := 13) C.1.1 C.1.2.1 dX7_sign_91 (by decide) ?_
      refine lv_istore (lv' := [(4, .int _), (0, .ref _), (1, .int _), (2, .int _)]) C.1.1 C.1.2.1 dX7_sign_93 hl (by decide) rfl (fun ls hl => ?_)
      exact J95 _ _ _ _ _ hf hW (lv_sub hl [1, 2, 0] rfl)
  have J75 : ∀ (x4 : Int32) (σ : Sg) (H : Heap) (locs : List Loc) (ls : Array Slot), jX7_sign_75 a0 p1 p2 p3 x4 σ = some (r, σ') → Ws G σ s.heap H locs → lv_has ls 5 [(0, .ref (gB G + a0)), (1, .int p1), (2, .int p2), (4, .int x4)] → W p l e (rmOf 1 25) s m args below meth c H locs 0 0 Q (F0 m 75 ls []) := by
    intro x4 σ H locs ls hf hW hl
    delta jX7_sign_75 at hf
    refine lv_iload_n C.1.1 C.1.2.1 dX7_sign_75 rfl (lv_at hl 2 rfl) ?_
    refine lv_bipush (v := 47) C.1.1 C.1.2.1 dX7_sign_76 (by decide) ?_
    refine lv_icmp_ne (tgt := 85) C.1.1 C.1.2.1 dX7_sign_78 (by decide) (fun h9 => ?_) (fun h9 => ?_)
    · replace hf := (if_neg h9).symm.trans hf
      exact J85 _ _ _ _ _ hf hW (lv_sub hl [0, 1, 2, 3] rfl)
    · replace hf := (if_pos h9).symm.trans hf
      refine lv_bipush (v := 15) C.1.1 C.1.2.1 dX7_sign_81 (by decide) ?_
      refine lv_istore (lv' := [(4, .int _), (0, .ref _), (1, .int _), (2, .int _)]) C.1.1 C.1.2.1 dX7_sign_83 hl (by decide) rfl (fun ls hl => ?_)
      exact J85 _ _ _ _ _ hf hW (lv_sub hl [1, 2, 3, 0] rfl)
  have J65 : ∀ (x4 : Int32) (σ : Sg) (H : Heap) (locs : List Loc) (ls : Array Slot), jX7_sign_65 a0 p1 p2 p3 x4 σ = some (r, σ') → Ws G σ s.heap H locs → lv_has ls 5 [(0, .ref (gB G + a0)), (1, .int p1), (2, .int p2), (4, .int x4)] → W p l e (rmOf 1 25) s m args below meth c H locs 0 0 Q (F0 m 65 ls []) := by
    intro x4 σ H locs ls hf hW hl
    delta jX7_sign_65 at hf
    refine lv_iload_n C.1.1 C.1.2.1 dX7_sign_65 rfl (lv_at hl 2 rfl) ?_
    refine lv_bipush (v := 42) C.1.1 C.1.2.1 dX7_sign_66 (by decide) ?_
    refine lv_icmp_ne (tgt := 75) C.1.1 C.1.2.1 dX7_sign_68 (by decide) (fun h9 => ?_) (fun h9 => ?_)
    · replace hf := (if_neg h9).symm.trans hf
      exact J75 _ _ _ _ _ hf hW (lv_sub hl [0, 1, 2, 3] rfl)
    · replace hf := (if_pos h9).symm.trans hf
      refine lv_bipush (v := 10) C.1.1 C.1.2.1 dX7_sign_71 (by decide) ?_
      refine lv_istore (lv' := [(4, .int _), (0, .ref _), (1, .int _), (2, .int _)]) C.1.1 C.1.2.1 dX7_sign_73 hl (by decide) rfl (fun ls hl => ?_)
      exact J75 _ _ _ _ _ hf hW (lv_sub hl [1, 2, 3, 0] rfl)
  have J55 : ∀ (x4 : Int32) (σ : Sg) (H : Heap) (locs : List Loc) (ls : Array Slot), jX7_sign_55 a0 p1 p2 p3 x4 σ = some (r, σ') → Ws G σ s.heap H locs → lv_has ls 5 [(0, .ref (gB G + a0)), (1, .int p1), (2, .int p2), (4, .int x4)] → W p l e (rmOf 1 25) s m args below meth c H locs 0 0 Q (F0 m 55 ls []) := by
    intro x4 σ H locs ls hf hW hl
    delta jX7_sign_55 at hf
    refine lv_iload_n C.1.1 C.1.2.1 dX7_sign_55 rfl (lv_at hl 2 rfl) ?_
    refine lv_bipush (v := 45) C.1.1 C.1.2.1 dX7_sign_56 (by decide) ?_
    refine lv_icmp_ne (tgt := 65) C.1.1 C.1.2.1 dX7_sign_58 (by decide) (fun h9 => ?_) (fun h9 => ?_)
    · replace hf := (if_neg h9).symm.trans hf
      exact J65 _ _ _ _ _ hf hW (lv_sub hl [0, 1, 2, 3] rfl)
    · replace hf := (if_pos h9).symm.trans hf
      refine lv_bipush (v := 9) C.1.1 C.1.2.1 dX7_sign_61 (by decide) ?_
      refine lv_istore (lv' := [(4, .int _), (0, .ref _), (1, .int _), (2, .int _)]) C.1.1 C.1.2.1 dX7_sign_63 hl (by decide) rfl (fun ls hl => ?_)
      exact J65 _ _ _ _ _ hf hW (lv_sub hl [1, 2, 3, 0] rfl)
  have J43 : ∀ (s0 : Int32) (σ : Sg) (H : Heap) (locs : List Loc) (ls : Array Slot), jX7_sign_43 a0 p1 p2 p3 s0 σ = some (r, σ') → Ws G σ s.heap H locs → lv_has ls 5 [(0, .ref (gB G + a0)), (1, .int p1), (2, .int p2)] → W p l e (rmOf 1 25) s m args below meth c H locs 0 0 Q (F0 m 43 ls [.int s0]) := by
    intro s0 σ H locs ls hf hW hl
    delta jX7_sign_43 at hf
    refine lv_istore (lv' := [(4, .int _), (0, .ref _), (1, .int _), (2, .int _)]) C.1.1 C.1.2.1 dX7_sign_43 hl (by decide) rfl (fun ls hl => ?_)
    refine lv_iload_n C.1.1 C.1.2.1 dX7_sign_45 rfl (lv_at hl 3 rfl) ?_
    refine lv_bipush (v := 43) C.1.1 C.1.2.1 dX7_sign_46 (by decide) ?_
    refine lv_icmp_ne (tgt := 55) C.1.1 C.1.2.1 dX7_sign_48 (by decide) (fun h9 => ?_) (fun h9 => ?_)
    · replace hf := (if_neg h9).symm.trans hf
      exact J55 _ _ _ _ _ hf hW (lv_sub hl [1, 2, 3, 0] rfl)
    · replace hf := (if_pos h9).symm.trans hf
      refine lv_bipush (v := 8) C.1.1 C.1.2.1 dX7_sign_51 (by decide) ?_
      refine lv_istore (lv' := [(4, .int _), (0, .ref _), (1, .int _), (2, .int _)]) C.1.1 C.1.2.1 dX7_sign_53 hl (by decide) rfl (fun ls hl => ?_)
      exact J55 _ _ _ _ _ hf hW (lv_sub hl [1, 2, 3, 0] rfl)
  refine lv_iload_n C.1.1 C.1.2.1 dX7_sign_0 rfl (lv_at hl 2 rfl) ?_
  refine lv_bipush (v := 59) C.1.1 C.1.2.1 dX7_sign_1 (by decide) ?_
  refine lv_icmp_ne (tgt := 10) C.1.1 C.1.2.1 dX7_sign_3 (by decide) (fun h9 => ?_) (fun h9 => ?_)
  · replace hf := (if_neg h9).symm.trans hf
    refine lv_iload_n C.1.1 C.1.2.1 dX7_sign_10 rfl (lv_at hl 2 rfl) ?_
    refine lv_bipush (v := 61) C.1.1 C.1.2.1 dX7_sign_11 (by decide) ?_
    refine lv_icmp_ne (tgt := 20) C.1.1 C.1.2.1 dX7_sign_13 (by decide) (fun h9 => ?_) (fun h9 => ?_)
    · replace hf := (if_neg h9).symm.trans hf
      refine lv_iload_n C.1.1 C.1.2.1 dX7_sign_20 rfl (lv_at hl 2 rfl) ?_
      refine lv_bipush (v := 40) C.1.1 C.1.2.1 dX7_sign_21 (by decide) ?_
      refine lv_icmp_ne (tgt := 31) C.1.1 C.1.2.1 dX7_sign_23 (by decide) (fun h9 => ?_) (fun h9 => ?_)
      · replace hf := (if_neg h9).symm.trans hf
        refine lv_iload_n C.1.1 C.1.2.1 dX7_sign_31 rfl (lv_at hl 2 rfl) ?_
        refine lv_bipush (v := 41) C.1.1 C.1.2.1 dX7_sign_32 (by decide) ?_
        refine lv_icmp_ne (tgt := 42) C.1.1 C.1.2.1 dX7_sign_34 (by decide) (fun h9 => ?_) (fun h9 => ?_)
        · replace hf := (if_neg h9).symm.trans hf
          refine lv_iconst (v := 3) C.1.1 C.1.2.1 dX7_sign_42 (by decide) ?_
          exact J43 _ _ _ _ _ hf hW (lv_sub hl [0, 1, 2] rfl)
        · replace hf := (if_pos h9).symm.trans hf
          refine lv_bipush (v := 7) C.1.1 C.1.2.1 dX7_sign_37 (by decide) ?_
          refine lv_goto (tgt := 43) C.1.1 C.1.2.1 dX7_sign_39 (by decide) ?_
          exact J43 _ _ _ _ _ hf hW (lv_sub hl [0, 1, 2] rfl)
      · replace hf := (if_pos h9).symm.trans hf
        refine lv_bipush (v := 6) C.1.1 C.1.2.1 dX7_sign_26 (by decide) ?_
        refine lv_goto (tgt := 43) C.1.1 C.1.2.1 dX7_sign_28 (by decide) ?_
        exact J43 _ _ _ _ _ hf hW (lv_sub hl [0, 1, 2] rfl)
    · replace hf := (if_pos h9).symm.trans hf
      refine lv_iconst (v := 5) C.1.1 C.1.2.1 dX7_sign_16 (by decide) ?_
      refine lv_goto (tgt := 43) C.1.1 C.1.2.1 dX7_sign_17 (by decide) ?_
      exact J43 _ _ _ _ _ hf hW (lv_sub hl [0, 1, 2] rfl)
  · replace hf := (if_pos h9).symm.trans hf
    refine lv_iconst (v := 4) C.1.1 C.1.2.1 dX7_sign_6 (by decide) ?_
    refine lv_goto (tgt := 43) C.1.1 C.1.2.1 dX7_sign_7 (by decide) ?_
    exact J43 _ _ _ _ _ hf hW (lv_sub hl [0, 1, 2] rfl)
theorem kvX7_cut : KV 7 "RightKeysModel" yX7_cut cX7_cut 8 none 0 := ⟨⟨w_1251, w_47, w_116, w_1252⟩, ⟨rfl, by decide, by decide, by decide +kernel⟩, by decide, rfl⟩
noncomputable def jX7_cut_291 (a0 : Nat) (x1 : Int32) (σ : Sg) : Option ((Int32 × Sg) ⊕ ((Sg) ⊕ (Sg))) := some (Sum.inl (x1, σ))
noncomputable def jX7_cut_67 (a0 : Nat) (x1 : Int32) (σ : Sg) : Option ((Int32 × Sg) ⊕ ((Sg) ⊕ (Sg))) := (let x1_7 := x1 + (1 : Int32); jX7_cut_291 a0 x1_7 σ)
noncomputable def jX7_cut_244 (a0 : Nat) (x1 : Int32) (x3 : Int32) (x4 : Int32) (σ : Sg) : Option ((Int32 × Int32 × Sg) ⊕ (Int32 × Int32 × Sg)) := (let x3_39 := x3 + (1 : Int32); some (Sum.inl (x3_39, x4, σ)))
noncomputable def bX7_cut_208 (a0 : Nat) (x1 : Int32) (x3 : Int32) (x4 : Int32) (σ : Sg) : Option ((Int32 × Int32 × Sg) ⊕ (Int32 × Int32 × Sg)) := (fX7_byteAt a0 (x1 + x3) σ).bind (fun q33 => let r31 := q33.1; let σ30 := q33.2; (fX7_isDigit r31 σ30).bind (fun q38 => let r36 := q38.1; let σ35 := q38.2; if r36 = 0 then (some (Sum.inr (x3, x4, σ35))) else (if (4 : Int32) ≤ x3 then (jX7_cut_244 a0 x1 x3 x4 σ35) else ((fX7_byteAt a0 (x1 + x3) σ35).bind (fun q44 => let r42 := q44.1; let σ41 := q44.2; (let x4_45 := ((((10 : Int32) * x4) + r42) - (48 : Int32)); jX7_cut_244 a0 x1 x3 x4_45 σ41))))))
noncomputable def jX7_cut_261 (a0 : Nat) (x1 : Int32) (x3 : Int32) (x4 : Int32) (s0 : Nat) (s1 : Int32) (σ : Sg) : Option ((Int32 × Sg) ⊕ ((Sg) ⊕ (Sg))) := (fX7_token s0 s1 x1 x4 (0 : Int64) σ).bind (fun σ51 => (let x1_55 := (x1 + x3); jX7_cut_291 a0 x1_55 σ51))
noncomputable def jX7_cut_118 (a0 : Nat) (x1 : Int32) (x3 : Int32) (x4 : Int64) (σ : Sg) : Option ((Int32 × Int64 × Sg) ⊕ (Int32 × Int64 × Sg)) := (let x3_67 := x3 + (1 : Int32); some (Sum.inl (x3_67, x4, σ)))
noncomputable def bX7_cut_85 (a0 : Nat) (x1 : Int32) (x3 : Int32) (x4 : Int64) (σ : Sg) : Option ((Int32 × Int64 × Sg) ⊕ (Int32 × Int64 × Sg)) := (fX7_byteAt a0 (x1 + x3) σ).bind (fun q61 => let r59 := q61.1; let σ58 := q61.2; (fX7_isLetter r59 σ58).bind (fun q66 => let r64 := q66.1; let σ63 := q66.2; if r64 = 0 then (some (Sum.inr (x3, x4, σ63))) else (if (8 : Int32) ≤ x3 then (jX7_cut_118 a0 x1 x3 x4 σ63) else ((fX7_byteAt a0 (x1 + x3) σ63).bind (fun q72 => let r70 := q72.1; let σ69 := q72.2; (fX7_appends x4 r70 σ69).bind (fun q77 => let r75 := q77.1; let σ74 := q77.2; jX7_cut_118 a0 x1 x3 r75 σ74))))))
noncomputable def jX7_cut_179 (a0 : Nat) (x1 : Int32) (x3 : Int32) (x4 : Int64) (x6 : Int32) (σ : Sg) : Option ((Int32 × Sg) ⊕ ((Sg) ⊕ (Sg))) := (fX7_token a0 x6 x1 (0 : Int32) x4 σ).bind (fun σ83 => (let x1_87 := (x1 + x3); jX7_cut_291 a0 x1_87 σ83))
noncomputable def jX7_cut_173 (a0 : Nat) (x1 : Int32) (x3 : Int32) (x4 : Int64) (x6 : Int32) (x7 : Int32) (σ : Sg) : Option ((Int32 × Int32 × Sg) ⊕ (Int32 × Sg)) := (let x7_90 := x7 + (1 : Int32); some (Sum.inl (x6, x7_90, σ)))
noncomputable def bX7_cut_146 (a0 : Nat) (x1 : Int32) (x3 : Int32) (x4 : Int64) (x6 : Int32) (x7 : Int32) (σ : Sg) : Option ((Int32 × Int32 × Sg) ⊕ (Int32 × Sg)) := if (20 : Int32) ≤ x7 then (some (Sum.inr (x6, σ))) else (if vin x7 20 then (if (lg_cmp (σ.2.1 (a0 + 7) ((x7).toNatClampNeg)) x4) = 0 then ((let x6_91 := ((20 : Int32) + x7); jX7_cut_173 a0 x1 x3 x4 x6_91 x7 σ)) else (jX7_cut_173 a0 x1 x3 x4 x6 x7 σ)) else none)
noncomputable def jX7_cut_135 (a0 : Nat) (x1 : Int32) (x3 : Int32) (x4 : Int64) (s0 : Int32) (σ : Sg) : Option ((Int32 × Sg) ⊕ ((Sg) ⊕ (Sg))) := if (8 : Int32) < x3 then (jX7_cut_179 a0 x1 x3 x4 s0 σ) else ((lp (fun st => bX7_cut_146 a0 x1 x3 x4 st.1 st.2.1 st.2.2) (s0, (0 : Int32), σ)).bind (fun q95 => let y94 := q95.1; let σ93 := q95.2;  jX7_cut_179 a0 x1 x3 x4 y94 σ93))
noncomputable def bX7_cut_7 (a0 : Nat) (x1 : Int32) (σ : Sg) : Option ((Int32 × Sg) ⊕ ((Sg) ⊕ (Sg))) := if (400 : Int32) < (σ.1 a0 10) then (some (Sum.inr (Sum.inr σ))) else ((fX7_byteAt a0 x1 σ).bind (fun q6 => let r4 := q6.1; let σ3 := q6.2; if x1 < (σ3.1 a0 4) then (if r4 = (9 : Int32) then (jX7_cut_67 a0 x1 σ3) else (if r4 = (10 : Int32) then (jX7_cut_67 a0 x1 σ3) else (if r4 = (13 : Int32) then (jX7_cut_67 a0 x1 σ3) else (if r4 = (32 : Int32) then (jX7_cut_67 a0 x1 σ3) else ((fX7_isLetter r4 σ3).bind (fun q12 => let r10 := q12.1; let σ9 := q12.2; if r10 = 0 then ((fX7_isDigit r4 σ9).bind (fun q17 => let r15 := q17.1; let σ14 := q17.2; if r15 = 0 then ((fX7_byteAt a0 (x1 + (1 : Int32)) σ14).bind (fun q22 => let r20 := q22.1; let σ19 := q22.2; (fX7_sign a0 x1 r4 r20 σ19).bind (fun q27 => let r25 := q27.1; let σ24 := q27.2; (let x1_28 := (x1 + r25); jX7_cut_291 a0 x1_28 σ24)))) else ((lp (fun st => bX7_cut_208 a0 x1 st.1 st.2.1 st.2.2) ((0 : Int32), (0 : Int32), σ14)).bind (fun q56 => let y48 := q56.1; let y49 := q56.2.1; let σ47 := q56.2.2;  if y48 ≤ (4 : Int32) then (jX7_cut_261 a0 x1 y48 y49 a0 (2 : Int32) σ47) else (jX7_cut_261 a0 x1 y48 y49 a0 (3 : Int32) σ47))))) else ((lp (fun st => bX7_cut_85 a0 x1 st.1 st.2.1 st.2.2) ((0 : Int32), (0 : Int64), σ9)).bind (fun q96 => let y80 := q96.1; let y81 := q96.2.1; let σ79 := q96.2.2;  if y80 ≤ (8 : Int32) then (jX7_cut_135 a0 x1 y80 y81 (1 : Int32) σ79) else (jX7_cut_135 a0 x1 y80 y81 (3 : Int32) σ79))))))))) else (some (Sum.inr (Sum.inl σ3)))))
noncomputable def fX7_cut (a0 : Nat) (σ : Sg) : Option (Sg) := (let σ1 := wI σ a0 10 (0 : Int32); (lp (fun st => bX7_cut_7 a0 st.1 st.2) ((0 : Int32), σ1)).bind (fun o97 => Sum.elim (fun σ98 => (fX7_token a0 (0 : Int32) (σ98.1 a0 4) (0 : Int32) (0 : Int64) σ98).bind (fun σ100 => some σ100)) (fun o97_ => (fun σ104 => some σ104) o97_) o97))
set_option maxRecDepth 100000 in
set_option maxHeartbeats 4000000 in
theorem mX7_cut {l : Launch} {G : Gm} {a0 : Nat} {σ : Sg} {σ' : Sg} (hk_a0 : gK G a0 = 8) (hf : fX7_cut a0 σ = some σ') : Mv l G yX7_cut cX7_cut 8 2 49 [.ref (gB G + a0)] σ σ' := by
  refine of_W "RightKeysModel" rfl (by decide) (Nat.le_of_ble_eq_true rfl) ?_
  intro p e s m args below meth c Q hQ C hr hlk hW ls hl
  have h00 := hW.1
  have hl : lv_has ls 8 [(0, .ref (gB G + a0))] := hl
  delta fX7_cut at hf
  have L7 : ∀ (n : Nat) (x1 : Int32) (σ : Sg) (H : Heap) (locs : List Loc) (ls : Array Slot) (out : ((Sg) ⊕ (Sg))), iter (fun st => bX7_cut_7 a0 st.1 st.2) n (x1, σ) = some out → Ws G σ s.heap H locs → lv_has ls 8 [(0, .ref (gB G + a0)), (1, .int x1)] → (∀ (σ : Sg) (H : Heap) (locs : List Loc) (ls : Array Slot), out = (Sum.inl σ) → Ws G σ s.heap H locs → lv_has ls 8 [(0, .ref (gB G + a0))] → W p l e (rmOf 2 49) s m args below meth c H locs 0 0 Q (F0 m 31 ls [])) → (∀ (σ : Sg) (H : Heap) (locs : List Loc) (ls : Array Slot), out = (Sum.inr σ) → Ws G σ s.heap H locs → lv_has ls 8 [] → W p l e (rmOf 2 49) s m args below meth c H locs 0 0 Q (F0 m 294 ls [])) → W p l e (rmOf 2 49) s m args below meth c H locs 0 0 Q (F0 m 7 ls []) := by
    intro n
    induction n with
    | zero =>
      intro x1 σ H locs ls out hf
      exact (it_0 hf).elim
    | succ n ih =>
      intro x1 σ H locs ls out hf hW hl K7_31 K7_294
      obtain ⟨x, hf, hx⟩ := it_s hf
      have hf : bX7_cut_7 a0 x1 σ = some x := hf
      delta bX7_cut_7 at hf
      have J291 : ∀ (x1 : Int32) (σ : Sg) (H : Heap) (locs : List Loc) (ls : Array Slot), jX7_cut_291 a0 x1 σ = some x → Ws G σ s.heap H locs → lv_has ls 8 [(0, .ref (gB G + a0)), (1, .int x1)] → W p l e (rmOf 2 49) s m args below meth c H locs 0 0 Q (F0 m 291 ls []) := by
        intro x1 σ H locs ls hf hW hl
        delta jX7_cut_291 at hf
        refine lv_goto (tgt := 7) C.1.1 C.1.2.1 dX7_cut_291 (by decide) ?_
        cases hf
        exact ih _ _ _ _ _ _ hx hW (lv_sub hl [0, 1] rfl) K7_31 K7_294
      have J67 : ∀ (x1 : Int32) (σ : Sg) (H : Heap) (locs : List Loc) (ls : Array Slot), jX7_cut_67 a0 x1 σ = some x → Ws G σ s.heap H locs → lv_has ls 8 [(0, .ref (gB G + a0)), (1, .int x1)] → W p l e (rmOf 2 49) s m args below meth c H locs 0 0 Q (F0 m 67 ls []) := by
        intro x1 σ H locs ls hf hW hl
        delta jX7_cut_67 at hf
        refine lv_iinc (v := _) (lv' := [(1, .int _), (0, .ref _)]) C.1.1 C.1.2.1 dX7_cut_67 hl (k := 1) rfl (ii (k := 1) (by decide)) (by decide) rfl (fun ls hl => ?_)
        refine lv_goto (tgt := 291) C.1.1 C.1.2.1 dX7_cut_70 (by decide) ?_
        exact J291 _ _ _ _ _ hf hW (lv_sub hl [1, 0] rfl)
      have L208 : ∀ (x1 : Int32) (n : Nat) (x3 : Int32) (x4 : Int32) (σ : Sg) (H : Heap) (locs : List Loc) (ls : Array Slot) (out : (Int32 × Int32 × Sg)), iter (fun st => bX7_cut_208 a0 x1 st.1 st.2.1 st.2.2) n (x3, x4, σ) = some out → Ws G σ s.heap H locs → lv_has ls 8 [(0, .ref (gB G + a0)), (1, .int x1), (3, .int x3), (4, .int x4)] → (∀ (y3 : Int32) (y4 : Int32) (σ : Sg) (H : Heap) (locs : List Loc) (ls : Array Slot), out = (y3, y4, σ) → Ws G σ s.heap H locs → lv_has ls 8 [(0, .ref (gB G + a0)), (1, .int x1), (3, .int y3), (4, .int y4)] → W p l e (rmOf 2 49) s m args below meth c H locs 0 0 Q (F0 m 250 ls [])) → W p l e (rmOf 2 49) s m args below meth c H locs 0 0 Q (F0 m 208 ls []) := by
        intro x1 n
        induction n with
        | zero =>
          intro x3 x4 σ H locs ls out hf
          exact (it_0 hf).elim
        | succ n ih =>
          intro x3 x4 σ H locs ls out hf hW hl K208_250
          obtain ⟨x, hf, hx⟩ := it_s hf
          have hf : bX7_cut_208 a0 x1 x3 x4 σ = some x := hf
          delta bX7_cut_208 at hf
          have J244 : ∀ (x3 : Int32) (x4 : Int32) (σ : Sg) (H : Heap) (locs : List Loc) (ls : Array Slot), jX7_cut_244 a0 x1 x3 x4 σ = some x → Ws G σ s.heap H locs → lv_has ls 8 [(0, .ref (gB G + a0)), (1, .int x1), (3, .int x3), (4, .int x4)] → W p l e (rmOf 2 49) s m args below meth c H locs 0 0 Q (F0 m 244 ls []) := by
            intro x3 x4 σ H locs ls hf hW hl
            delta jX7_cut_244 at hf
            refine lv_iinc (v := _) (lv' := [(3, .int _), (0, .ref _), (1, .int _), (4, .int _)]) C.1.1 C.1.2.1 dX7_cut_244 hl (k := 2) rfl (ii (k := 1) (by decide)) (by decide) rfl (fun ls hl => ?_)
            refine lv_goto (tgt := 208) C.1.1 C.1.2.1 dX7_cut_247 (by decide) ?_
            cases hf
            exact ih _ _ _ _ _ _ _ hx hW (lv_sub hl [1, 2, 0, 3] rfl) K208_250
          refine lv_aload_n C.1.1 C.1.2.1 dX7_cut_208 rfl (lv_at hl 0 rfl) ?_
          refine lv_iload_n C.1.1 C.1.2.1 dX7_cut_209 rfl (lv_at hl 1 rfl) ?_
          refine lv_iload_n C.1.1 C.1.2.1 dX7_cut_210 rfl (lv_at hl 2 rfl) ?_
          refine lv_iadd C.1.1 C.1.2.1 dX7_cut_211 ?_
          obtain ⟨⟨r31, σ30⟩, hc29, hf⟩ := bd hf
          try dsimp only at hf
          refine cVi C hW (mX7_byteAt hk_a0 hc29) hk_a0 kvX7_byteAt w_1253 ⟨(Nat.le_of_ble_eq_true rfl), (Nat.le_of_ble_eq_true rfl)⟩ ⟨Nat.zero_le _, Nat.zero_le _⟩ rfl hl.1 (rest := []) rfl (Nat.le_of_ble_eq_true rfl) dX7_cut_212 (fun H locs hn32 hW => ?_)
          obtain ⟨⟨r36, σ35⟩, hc34, hf⟩ := bd hf
          try dsimp only at hf
          refine cSi C hW (mX7_isDigit hc34) ksX7_isDigit w_1264 ⟨(Nat.le_of_ble_eq_true rfl), (Nat.le_of_ble_eq_true rfl)⟩ ⟨Nat.zero_le _, Nat.zero_le _⟩ rfl hl.1 (rest := []) rfl (Nat.le_of_ble_eq_true rfl) dX7_cut_215 (fun H locs hn37 hW => ?_)
          refine lv_if_eq (tgt := 250) C.1.1 C.1.2.1 dX7_cut_218 (by decide) (fun h9 => ?_) (fun h9 => ?_)
          · replace hf := (if_pos h9).symm.trans hf
            cases hf
            cases hx
            exact K208_250 _ _ _ _ _ _ rfl hW (lv_sub hl [0, 1, 2, 3] rfl)
          · replace hf := (if_neg h9).symm.trans hf
            refine lv_iload_n C.1.1 C.1.2.1 dX7_cut_221 rfl (lv_at hl 2 rfl) ?_
            refine lv_iconst (v := 4) C.1.1 C.1.2.1 dX7_cut_222 (by decide) ?_
            refine lv_icmp_ge (tgt := 244) C.1.1 C.1.2.1 dX7_cut_223 (by decide) (fun h9 => ?_) (fun h9 => ?_)
            · replace hf := (if_pos h9).symm.trans hf
              exact J244 _ _ _ _ _ _ hf hW (lv_sub hl [0, 1, 2, 3] rfl)
            · replace hf := (if_neg h9).symm.trans hf
              refine lv_bipush (v := 10) C.1.1 C.1.2.1 dX7_cut_226 (by decide) ?_
              refine lv_iload C.1.1 C.1.2.1 dX7_cut_228 (lv_at hl 3 rfl) ?_
              refine lv_imul C.1.1 C.1.2.1 dX7_cut_230 ?_
              refine lv_aload_n C.1.1 C.1.2.1 dX7_cut_231 rfl (lv_at hl 0 rfl) ?_
              refine lv_iload_n C.1.1 C.1.2.1 dX7_cut_232 rfl (lv_at hl 1 rfl) ?_
              refine lv_iload_n C.1.1 C.1.2.1 dX7_cut_233 rfl (lv_at hl 2 rfl) ?_
              refine lv_iadd C.1.1 C.1.2.1 dX7_cut_234 ?_
              obtain ⟨⟨r42, σ41⟩, hc40, hf⟩ := bd hf
              try dsimp only at hf
              refine cVi C hW (mX7_byteAt hk_a0 hc40) hk_a0 kvX7_byteAt w_1253 ⟨(Nat.le_of_ble_eq_true rfl), (Nat.le_of_ble_eq_true rfl)⟩ ⟨Nat.zero_le _, Nat.zero_le _⟩ rfl hl.1 (rest := [.int _]) rfl (Nat.le_of_ble_eq_true rfl) dX7_cut_235 (fun H locs hn43 hW => ?_)
              refine lv_iadd C.1.1 C.1.2.1 dX7_cut_238 ?_
              refine lv_bipush (v := 48) C.1.1 C.1.2.1 dX7_cut_239 (by decide) ?_
              refine lv_isub C.1.1 C.1.2.1 dX7_cut_241 ?_
              refine lv_istore (lv' := [(4, .int _), (0, .ref _), (1, .int _), (3, .int _)]) C.1.1 C.1.2.1 dX7_cut_242 hl (by decide) rfl (fun ls hl => ?_)
              exact J244 _ _ _ _ _ _ hf hW (lv_sub hl [1, 2, 3, 0] rfl)
      have J261 : ∀ (x1 : Int32) (x3 : Int32) (x4 : Int32) (s0 : Nat) (s1 : Int32) (σ : Sg) (H : Heap) (locs : List Loc) (ls : Array Slot) (hk_s0 : gK G s0 = 8), jX7_cut_261 a0 x1 x3 x4 s0 s1 σ = some x → Ws G σ s.heap H locs → lv_has ls 8 [(0, .ref (gB G + a0)), (1, .int x1), (3, .int x3), (4, .int x4)] → W p l e (rmOf 2 49) s m args below meth c H locs 0 0 Q (F0 m 261 ls [.int s1, .ref (gB G + s0)]) := by
        intro x1 x3 x4 s0 s1 σ H locs ls hk_s0 hf hW hl
        delta jX7_cut_261 at hf
        refine lv_iload_n C.1.1 C.1.2.1 dX7_cut_261 rfl (lv_at hl 1 rfl) ?_
        refine lv_iload C.1.1 C.1.2.1 dX7_cut_262 (lv_at hl 3 rfl) ?_
        refine lv_lconst (v := 0) C.1.1 C.1.2.1 dX7_cut_264 (by decide) ?_
        obtain ⟨σ51, hc50, hf⟩ := bd hf
        try dsimp only at hf
        refine cVv C hW (mX7_token hk_s0 hc50) hk_s0 kvX7_token w_1257 ⟨(Nat.le_of_ble_eq_true rfl), (Nat.le_of_ble_eq_true rfl)⟩ ⟨Nat.zero_le _, Nat.zero_le _⟩ rfl hl.1 (rest := []) rfl (Nat.le_of_ble_eq_true rfl) dX7_cut_265 (fun H locs hW => ?_)
        refine lv_iload_n C.1.1 C.1.2.1 dX7_cut_268 rfl (lv_at hl 1 rfl) ?_
        refine lv_iload_n C.1.1 C.1.2.1 dX7_cut_269 rfl (lv_at hl 2 rfl) ?_
        refine lv_iadd C.1.1 C.1.2.1 dX7_cut_270 ?_
        refine lv_istore_n (lv' := [(1, .int _), (0, .ref _), (3, .int _), (4, .int _)]) C.1.1 C.1.2.1 dX7_cut_271 rfl hl (by decide) rfl (fun ls hl => ?_)
        refine lv_goto (tgt := 291) C.1.1 C.1.2.1 dX7_cut_272 (by decide) ?_
        exact J291 _ _ _ _ _ hf hW (lv_sub hl [1, 0] rfl)
      have L85 : ∀ (x1 : Int32) (n : Nat) (x3 : Int32) (x4 : Int64) (σ : Sg) (H : Heap) (locs : List Loc) (ls : Array Slot) (out : (Int32 × Int64 × Sg)), iter (fun st => bX7_cut_85 a0 x1 st.1 st.2.1 st.2.2) n (x3, x4, σ) = some out → Ws G σ s.heap H locs → lv_has ls 8 [(0, .ref (gB G + a0)), (1, .int x1), (3, .int x3), (4, .long x4)] → (∀ (y3 : Int32) (y4 : Int64) (σ : Sg) (H : Heap) (locs : List Loc) (ls : Array Slot), out = (y3, y4, σ) → Ws G σ s.heap H locs → lv_has ls 8 [(0, .ref (gB G + a0)), (1, .int x1), (3, .int y3), (4, .long y4)] → W p l e (rmOf 2 49) s m args below meth c H locs 0 0 Q (F0 m 124 ls [])) → W p l e (rmOf 2 49) s m args below meth c H locs 0 0 Q (F0 m 85 ls []) := by
        intro x1 n
        induction n with
        | zero =>
          intro x3 x4 σ H locs ls out hf
          exact (it_0 hf).elim
        | succ n ih =>
          intro x3 x4 σ H locs ls out hf hW hl K85_124
          obtain ⟨x, hf, hx⟩ := it_s hf
          have hf : bX7_cut_85 a0 x1 x3 x4 σ = some x := hf
          delta bX7_cut_85 at hf
          have J118 : ∀ (x3 : Int32) (x4 : Int64) (σ : Sg) (H : Heap) (locs : List Loc) (ls : Array Slot), jX7_cut_118 a0 x1 x3 x4 σ = some x → Ws G σ s.heap H locs → lv_has ls 8 [(0, .ref (gB G + a0)), (1, .int x1), (3, .int x3), (4, .long x4)] → W p l e (rmOf 2 49) s m args below meth c H locs 0 0 Q (F0 m 118 ls []) := by
            intro x3 x4 σ H locs ls hf hW hl
            delta jX7_cut_118 at hf
            refine lv_iinc (v := _) (lv' := [(3, .int _), (0, .ref _), (1, .int _), (4, .long _)]) C.1.1 C.1.2.1 dX7_cut_118 hl (k := 2) rfl (ii (k := 1) (by decide)) (by decide) rfl (fun ls hl => ?_)
            refine lv_goto (tgt := 85) C.1.1 C.1.2.1 dX7_cut_121 (by decide) ?_
            cases hf
            exact ih _ _ _ _ _ _ _ hx hW (lv_sub hl [1, 2, 0, 3] rfl) K85_124
          refine lv_aload_n C.1.1 C.1.2.1 dX7_cut_85 rfl (lv_at hl 0 rfl) ?_
          refine lv_iload_n C.1.1 C.1.2.1 dX7_cut_86 rfl (lv_at hl 1 rfl) ?_
          refine lv_iload_n C.1.1 C.1.2.1 dX7_cut_87 rfl (lv_at hl 2 rfl) ?_
          refine lv_iadd C.1.1 C.1.2.1 dX7_cut_88 ?_
          obtain ⟨⟨r59, σ58⟩, hc57, hf⟩ := bd hf
          try dsimp only at hf
          refine cVi C hW (mX7_byteAt hk_a0 hc57) hk_a0 kvX7_byteAt w_1253 ⟨(Nat.le_of_ble_eq_true rfl), (Nat.le_of_ble_eq_true rfl)⟩ ⟨Nat.zero_le _, Nat.zero_le _⟩ rfl hl.1 (rest := []) rfl (Nat.le_of_ble_eq_true rfl) dX7_cut_89 (fun H locs hn60 hW => ?_)
          obtain ⟨⟨r64, σ63⟩, hc62, hf⟩ := bd hf
          try dsimp only at hf
          refine cSi C hW (mX7_isLetter hc62) ksX7_isLetter w_1261 ⟨(Nat.le_of_ble_eq_true rfl), (Nat.le_of_ble_eq_true rfl)⟩ ⟨Nat.zero_le _, Nat.zero_le _⟩ rfl hl.1 (rest := []) rfl (Nat.le_of_ble_eq_true rfl) dX7_cut_92 (fun H locs hn65 hW => ?_)
          refine lv_if_eq (tgt := 124) C.1.1 C.1.2.1 dX7_cut_95 (by decide) (fun h9 => ?_) (fun h9 => ?_)
          · replace hf := (if_pos h9).symm.trans hf
            cases hf
            cases hx
            exact K85_124 _ _ _ _ _ _ rfl hW (lv_sub hl [0, 1, 2, 3] rfl)
          · replace hf := (if_neg h9).symm.trans hf
            refine lv_iload_n C.1.1 C.1.2.1 dX7_cut_98 rfl (lv_at hl 2 rfl) ?_
            refine lv_bipush (v := 8) C.1.1 C.1.2.1 dX7_cut_99 (by decide) ?_
            refine lv_icmp_ge (tgt := 118) C.1.1 C.1.2.1 dX7_cut_101 (by decide) (fun h9 => ?_) (fun h9 => ?_)
            · replace hf := (if_pos h9).symm.trans hf
              exact J118 _ _ _ _ _ _ hf hW (lv_sub hl [0, 1, 2, 3] rfl)
            · replace hf := (if_neg h9).symm.trans hf
              refine lv_lload C.1.1 C.1.2.1 dX7_cut_104 (lv_at hl 3 rfl) ?_
              refine lv_aload_n C.1.1 C.1.2.1 dX7_cut_106 rfl (lv_at hl 0 rfl) ?_
              refine lv_iload_n C.1.1 C.1.2.1 dX7_cut_107 rfl (lv_at hl 1 rfl) ?_
              refine lv_iload_n C.1.1 C.1.2.1 dX7_cut_108 rfl (lv_at hl 2 rfl) ?_
              refine lv_iadd C.1.1 C.1.2.1 dX7_cut_109 ?_
              obtain ⟨⟨r70, σ69⟩, hc68, hf⟩ := bd hf
              try dsimp only at hf
              refine cVi C hW (mX7_byteAt hk_a0 hc68) hk_a0 kvX7_byteAt w_1253 ⟨(Nat.le_of_ble_eq_true rfl), (Nat.le_of_ble_eq_true rfl)⟩ ⟨Nat.zero_le _, Nat.zero_le _⟩ rfl hl.1 (rest := [.long _]) rfl (Nat.le_of_ble_eq_true rfl) dX7_cut_110 (fun H locs hn71 hW => ?_)
              obtain ⟨⟨r75, σ74⟩, hc73, hf⟩ := bd hf
              try dsimp only at hf
              refine cSl C hW (mX7_appends hc73) ksX7_appends w_1019 ⟨(Nat.le_of_ble_eq_true rfl), (Nat.le_of_ble_eq_true rfl)⟩ ⟨Nat.zero_le _, Nat.zero_le _⟩ rfl hl.1 (rest := []) rfl (Nat.le_of_ble_eq_true rfl) dX7_cut_113 (fun H locs hW => ?_)
              refine lv_lstore (lv' := [(4, .long _), (0, .ref _), (1, .int _), (3, .int _)]) C.1.1 C.1.2.1 dX7_cut_116 hl (by decide) rfl (fun ls hl => ?_)
              exact J118 _ _ _ _ _ _ hf hW (lv_sub hl [1, 2, 3, 0] rfl)
      have J179 : ∀ (x1 : Int32) (x3 : Int32) (x4 : Int64) (x6 : Int32) (σ : Sg) (H : Heap) (locs : List Loc) (ls : Array Slot), jX7_cut_179 a0 x1 x3 x4 x6 σ = some x → Ws G σ s.heap H locs → lv_has ls 8 [(0, .ref (gB G + a0)), (1, .int x1), (3, .int x3), (4, .long x4), (6, .int x6)] → W p l e (rmOf 2 49) s m args below meth c H locs 0 0 Q (F0 m 179 ls []) := by
        intro x1 x3 x4 x6 σ H locs ls hf hW hl
        delta jX7_cut_179 at hf
        refine lv_aload_n C.1.1 C.1.2.1 dX7_cut_179 rfl (lv_at hl 0 rfl) ?_
        refine lv_iload C.1.1 C.1.2.1 dX7_cut_180 (lv_at hl 4 rfl) ?_
        refine lv_iload_n C.1.1 C.1.2.1 dX7_cut_182 rfl (lv_at hl 1 rfl) ?_
        refine lv_iconst (v := 0) C.1.1 C.1.2.1 dX7_cut_183 (by decide) ?_
        refine lv_lload C.1.1 C.1.2.1 dX7_cut_184 (lv_at hl 3 rfl) ?_
        obtain ⟨σ83, hc82, hf⟩ := bd hf
        try dsimp only at hf
        refine cVv C hW (mX7_token hk_a0 hc82) hk_a0 kvX7_token w_1257 ⟨(Nat.le_of_ble_eq_true rfl), (Nat.le_of_ble_eq_true rfl)⟩ ⟨Nat.zero_le _, Nat.zero_le _⟩ rfl hl.1 (rest := []) rfl (Nat.le_of_ble_eq_true rfl) dX7_cut_186 (fun H locs hW => ?_)
        refine lv_iload_n C.1.1 C.1.2.1 dX7_cut_189 rfl (lv_at hl 1 rfl) ?_
        refine lv_iload_n C.1.1 C.1.2.1 dX7_cut_190 rfl (lv_at hl 2 rfl) ?_
        refine lv_iadd C.1.1 C.1.2.1 dX7_cut_191 ?_
        refine lv_istore_n (lv' := [(1, .int _), (0, .ref _), (3, .int _), (4, .long _), (6, .int _)]) C.1.1 C.1.2.1 dX7_cut_192 rfl hl (by decide) rfl (fun ls hl => ?_)
        refine lv_goto (tgt := 291) C.1.1 C.1.2.1 dX7_cut_193 (by decide) ?_
        exact J291 _ _ _ _ _ hf hW (lv_sub hl [1, 0] rfl)
      have L146 : ∀ (x1 : Int32) (x3 : Int32) (x4 : Int64) (n : Nat) (x6 : Int32) (x7 : Int32) (σ : Sg) (H : Heap) (locs : List Loc) (ls : Array Slot) (out : (Int32 × Sg)), iter (fun st => bX7_cut_146 a0 x1 x3 x4 st.1 st.2.1 st.2.2) n (x6, x7, σ) = some out → Ws G σ s.heap H locs → lv_has ls 8 [(0, .ref (gB G + a0)), (1, .int x1), (3, .int x3), (4, .long x4), (6, .int x6), (7, .int x7)] → (∀ (y6 : Int32) (σ : Sg) (H : Heap) (locs : List Loc) (ls : Array Slot), out = (y6, σ) → Ws G σ s.heap H locs → lv_has ls 8 [(0, .ref (gB G + a0)), (1, .int x1), (3, .int x3), (4, .long x4), (6, .int y6)] → W p l e (rmOf 2 49) s m args below meth c H locs 0 0 Q (F0 m 179 ls [])) → W p l e (rmOf 2 49) s m args below meth c H locs 0 0 Q (F0 m 146 ls []) := by
        intro x1 x3 x4 n
        induction n with
        | zero =>
          intro x6 x7 σ H locs ls out hf
          exact (it_0 hf).elim
        | succ n ih =>
          intro x6 x7 σ H locs ls out hf hW hl K146_179
          obtain ⟨x, hf, hx⟩ := it_s hf
          have hf : bX7_cut_146 a0 x1 x3 x4 x6 x7 σ = some x := hf
          delta bX7_cut_146 at hf
          have J173 : ∀ (x6 : Int32) (x7 : Int32) (σ : Sg) (H : Heap) (locs : List Loc) (ls : Array Slot), jX7_cut_173 a0 x1 x3 x4 x6 x7 σ = some x → Ws G σ s.heap H locs → lv_has ls 8 [(0, .ref (gB G + a0)), (1, .int x1), (3, .int x3), (4, .long x4), (6, .int x6), (7, .int x7)] → W p l e (rmOf 2 49) s m args below meth c H locs 0 0 Q (F0 m 173 ls []) := by
            intro x6 x7 σ H locs ls hf hW hl
            delta jX7_cut_173 at hf
            refine lv_iinc (v := _) (lv' := [(7, .int _), (0, .ref _), (1, .int _), (3, .int _), (4, .long _), (6, .int _)]) C.1.1 C.1.2.1 dX7_cut_173 hl (k := 5) rfl (ii (k := 1) (by decide)) (by decide) rfl (fun ls hl => ?_)
            refine lv_goto (tgt := 146) C.1.1 C.1.2.1 dX7_cut_176 (by decide) ?_
            cases hf
            exact ih _ _ _ _ _ _ _ hx hW (lv_sub hl [1, 2, 3, 4, 5, 0] rfl) K146_179
          refine lv_iload C.1.1 C.1.2.1 dX7_cut_146 (lv_at hl 5 rfl) ?_
          refine lv_bipush (v := 20) C.1.1 C.1.2.1 dX7_cut_148 (by decide) ?_
          refine lv_icmp_ge (tgt := 179) C.1.1 C.1.2.1 dX7_cut_150 (by decide) (fun h9 => ?_) (fun h9 => ?_)
          · replace hf := (if_pos h9).symm.trans hf
            cases hf
            cases hx
            exact K146_179 _ _ _ _ _ rfl hW (lv_sub hl [0, 1, 2, 3, 4] rfl)
          · replace hf := (if_neg h9).symm.trans hf
            refine lv_aload_n C.1.1 C.1.2.1 dX7_cut_153 rfl (lv_at hl 0 rfl) ?_
            have hk88 := sh7_9 hW hk_a0
            refine gf7_9 C hW hk_a0 w_1039 dX7_cut_154 ?_
            refine lv_iload C.1.1 C.1.2.1 dX7_cut_157 (lv_at hl 5 rfl) ?_
            obtain ⟨hv89, hf⟩ := gd hf
            refine wal C hW hk88 (vin_p hv89) dX7_cut_159 ?_
            refine lv_lload C.1.1 C.1.2.1 dX7_cut_160 (lv_at hl 3 rfl) ?_
            refine W.lcmp C.1.1 C.1.2.1 dX7_cut_162 ?_
            refine lv_if_ne (tgt := 173) C.1.1 C.1.2.1 dX7_cut_163 (by decide) (fun h9 => ?_) (fun h9 => ?_)
            · replace hf := (if_neg h9).symm.trans hf
              exact J173 _ _ _ _ _ _ hf hW (lv_sub hl [0, 1, 2, 3, 4, 5] rfl)
            · replace hf := (if_pos h9).symm.trans hf
              refine lv_bipush (v := 20) C.1.1 C.1.2.1 dX7_cut_166 (by decide) ?_
              refine lv_iload C.1.1 C.1.2.1 dX7_cut_168 (lv_at hl 5 rfl) ?_
              refine lv_iadd C.1.1 C.1.2.1 dX7_cut_170 ?_
              refine lv_istore (lv' := [(6, .int _), (0, .ref _), (1, .int _), (3, .int _), (4, .long _), (7, .int _)]) C.1.1 C.1.2.1 dX7_cut_171 hl (by decide) rfl (fun ls hl => ?_)
              exact J173 _ _ _ _ _ _ hf hW (lv_sub hl [1, 2, 3, 4, 0, 5] rfl)
      have J135 : ∀ (x1 : Int32) (x3 : Int32) (x4 : Int64) (s0 : Int32) (σ : Sg) (H : Heap) (locs : List Loc) (ls : Array Slot), jX7_cut_135 a0 x1 x3 x4 s0 σ = some x → Ws G σ s.heap H locs → lv_has ls 8 [(0, .ref (gB G + a0)), (1, .int x1), (3, .int x3), (4, .long x4)] → W p l e (rmOf 2 49) s m args below meth c H locs 0 0 Q (F0 m 135 ls [.int s0]) := by
        intro x1 x3 x4 s0 σ H locs ls hf hW hl
        delta jX7_cut_135 at hf
        refine lv_istore (lv' := [(6, .int _), (0, .ref _), (1, .int _), (3, .int _), (4, .long _)]) C.1.1 C.1.2.1 dX7_cut_135 hl (by decide) rfl (fun ls hl => ?_)
        refine lv_iload_n C.1.1 C.1.2.1 dX7_cut_137 rfl (lv_at hl 3 rfl) ?_
        refine lv_bipush (v := 8) C.1.1 C.1.2.1 dX7_cut_138 (by decide) ?_
        refine lv_icmp_gt (tgt := 179) C.1.1 C.1.2.1 dX7_cut_140 (by decide) (fun h9 => ?_) (fun h9 => ?_)
        · replace hf := (if_pos h9).symm.trans hf
          exact J179 _ _ _ _ _ _ _ _ hf hW (lv_sub hl [1, 2, 3, 4, 0] rfl)
        · replace hf := (if_neg h9).symm.trans hf
          refine lv_iconst (v := 0) C.1.1 C.1.2.1 dX7_cut_143 (by decide) ?_
          refine lv_istore (lv' := [(7, .int _), (6, .int _), (0, .ref _), (1, .int _), (3, .int _), (4, .long _)]) C.1.1 C.1.2.1 dX7_cut_144 hl (by decide) rfl (fun ls hl => ?_)
          obtain ⟨o92, ho, hf⟩ := bd hf
          obtain ⟨n, ho⟩ := lp_it ho
          refine L146 _ _ _ n _ _ _ _ _ _ o92 ho hW (lv_sub hl [2, 3, 4, 5, 1, 0] rfl) ?_
          intro y94 σ93 H locs ls e9 hW hl
          subst e9
          try dsimp only at hf
          exact J179 _ _ _ _ _ _ _ _ hf hW (lv_sub hl [0, 1, 2, 3, 4] rfl)
      refine lv_aload_n C.1.1 C.1.2.1 dX7_cut_7 rfl (lv_at hl 0 rfl) ?_
      refine gf7_10 C hW hk_a0 w_1040 dX7_cut_8 ?_
      refine lv_sipush (v := 400) C.1.1 C.1.2.1 dX7_cut_11 (by decide) ?_
      refine lv_icmp_gt (tgt := 294) C.1.1 C.1.2.1 dX7_cut_14 (by decide) (fun h9 => ?_) (fun h9 => ?_)
      · replace hf := (if_pos h9).symm.trans hf
        cases hf
        cases hx
        exact K7_294 _ _ _ _ rfl hW (lv_sub hl [] rfl)
      · replace hf := (if_neg h9).symm.trans hf
        refine lv_aload_n C.1.1 C.1.2.1 dX7_cut_17 rfl (lv_at hl 0 rfl) ?_
        refine lv_iload_n C.1.1 C.1.2.1 dX7_cut_18 rfl (lv_at hl 1 rfl) ?_
        obtain ⟨⟨r4, σ3⟩, hc2, hf⟩ := bd hf
        try dsimp only at hf
        refine cVi C hW (mX7_byteAt hk_a0 hc2) hk_a0 kvX7_byteAt w_1253 ⟨(Nat.le_of_ble_eq_true rfl), (Nat.le_of_ble_eq_true rfl)⟩ ⟨Nat.zero_le _, Nat.zero_le _⟩ rfl hl.1 (rest := []) rfl (Nat.le_of_ble_eq_true rfl) dX7_cut_19 (fun H locs hn5 hW => ?_)
        refine lv_istore_n (lv' := [(2, .int _), (0, .ref _), (1, .int _)]) C.1.1 C.1.2.1 dX7_cut_22 rfl hl (by decide) rfl (fun ls hl => ?_)
        refine lv_iload_n C.1.1 C.1.2.1 dX7_cut_23 rfl (lv_at hl 2 rfl) ?_
        refine lv_aload_n C.1.1 C.1.2.1 dX7_cut_24 rfl (lv_at hl 1 rfl) ?_
        refine gf7_4 C hW hk_a0 w_1034 dX7_cut_25 ?_
        refine lv_icmp_lt (tgt := 43) C.1.1 C.1.2.1 dX7_cut_28 (by decide) (fun h9 => ?_) (fun h9 => ?_)
        · replace hf := (if_pos h9).symm.trans hf
          refine lv_iload_n C.1.1 C.1.2.1 dX7_cut_43 rfl (lv_at hl 0 rfl) ?_
          refine lv_bipush (v := 9) C.1.1 C.1.2.1 dX7_cut_44 (by decide) ?_
          refine lv_icmp_eq (tgt := 67) C.1.1 C.1.2.1 dX7_cut_46 (by decide) (fun h9 => ?_) (fun h9 => ?_)
          · replace hf := (if_pos h9).symm.trans hf
            exact J67 _ _ _ _ _ hf hW (lv_sub hl [1, 2] rfl)
          · replace hf := (if_neg h9).symm.trans hf
            refine lv_iload_n C.1.1 C.1.2.1 dX7_cut_49 rfl (lv_at hl 0 rfl) ?_
            refine lv_bipush (v := 10) C.1.1 C.1.2.1 dX7_cut_50 (by decide) ?_
            refine lv_icmp_eq (tgt := 67) C.1.1 C.1.2.1 dX7_cut_52 (by decide) (fun h9 => ?_) (fun h9 => ?_)
            · replace hf := (if_pos h9).symm.trans hf
              exact J67 _ _ _ _ _ hf hW (lv_sub hl [1, 2] rfl)
            · replace hf := (if_neg h9).symm.trans hf
              refine lv_iload_n C.1.1 C.1.2.1 dX7_cut_55 rfl (lv_at hl 0 rfl) ?_
              refine lv_bipush (v := 13) C.1.1 C.1.2.1 dX7_cut_56 (by decide) ?_
              refine lv_icmp_eq (tgt := 67) C.1.1 C.1.2.1 dX7_cut_58 (by decide) (fun h9 => ?_) (fun h9 => ?_)
              · replace hf := (if_pos h9).symm.trans hf
                exact J67 _ _ _ _ _ hf hW (lv_sub hl [1, 2] rfl)
              · replace hf := (if_neg h9).symm.trans hf
                refine lv_iload_n C.1.1 C.1.2.1 dX7_cut_61 rfl (lv_at hl 0 rfl) ?_
                refine lv_bipush (v := 32) C.1.1 C.1.2.1 dX7_cut_62 (by decide) ?_
                refine lv_icmp_ne (tgt := 73) C.1.1 C.1.2.1 dX7_cut_64 (by decide) (fun h9 => ?_) (fun h9 => ?_)
                · replace hf := (if_neg h9).symm.trans hf
                  refine lv_iload_n C.1.1 C.1.2.1 dX7_cut_73 rfl (lv_at hl 0 rfl) ?_
                  obtain ⟨⟨r10, σ9⟩, hc8, hf⟩ := bd hf
                  try dsimp only at hf
                  refine cSi C hW (mX7_isLetter hc8) ksX7_isLetter w_1261 ⟨(Nat.le_of_ble_eq_true rfl), (Nat.le_of_ble_eq_true rfl)⟩ ⟨Nat.zero_le _, Nat.zero_le _⟩ rfl hl.1 (rest := []) rfl (Nat.le_of_ble_eq_true rfl) dX7_cut_74 (fun H locs hn11 hW => ?_)
                  refine lv_if_eq (tgt := 196) C.1.1 C.1.2.1 dX7_cut_77 (by decide) (fun h9 => ?_) (fun h9 => ?_)
                  · replace hf := (if_pos h9).symm.trans hf
                    refine lv_iload_n C.1.1 C.1.2.1 dX7_cut_196 rfl (lv_at hl 0 rfl) ?_
                    obtain ⟨⟨r15, σ14⟩, hc13, hf⟩ := bd hf
                    try dsimp only at hf
                    refine cSi C hW (mX7_isDigit hc13) ksX7_isDigit w_1264 ⟨(Nat.le_of_ble_eq_true rfl), (Nat.le_of_ble_eq_true rfl)⟩ ⟨Nat.zero_le _, Nat.zero_le _⟩ rfl hl.1 (rest := []) rfl (Nat.le_of_ble_eq_true rfl) dX7_cut_197 (fun H locs hn16 hW => ?_)
                    refine lv_if_eq (tgt := 275) C.1.1 C.1.2.1 dX7_cut_200 (by decide) (fun h9 => ?_) (fun h9 => ?_)
                    · replace hf := (if_pos h9).symm.trans hf
                      refine lv_iload_n C.1.1 C.1.2.1 dX7_cut_275 rfl (lv_at hl 2 rfl) ?_
                      refine lv_aload_n C.1.1 C.1.2.1 dX7_cut_276 rfl (lv_at hl 1 rfl) ?_
                      refine lv_iload_n C.1.1 C.1.2.1 dX7_cut_277 rfl (lv_at hl 2 rfl) ?_
                      refine lv_iload_n C.1.1 C.1.2.1 dX7_cut_278 rfl (lv_at hl 0 rfl) ?_
                      refine lv_aload_n C.1.1 C.1.2.1 dX7_cut_279 rfl (lv_at hl 1 rfl) ?_
                      refine lv_iload_n C.1.1 C.1.2.1 dX7_cut_280 rfl (lv_at hl 2 rfl) ?_
                      refine lv_iconst (v := 1) C.1.1 C.1.2.1 dX7_cut_281 (by decide) ?_
                      refine lv_iadd C.1.1 C.1.2.1 dX7_cut_282 ?_
                      obtain ⟨⟨r20, σ19⟩, hc18, hf⟩ := bd hf
                      try dsimp only at hf
                      refine cVi C hW (mX7_byteAt hk_a0 hc18) hk_a0 kvX7_byteAt w_1253 ⟨(Nat.le_of_ble_eq_true rfl), (Nat.le_of_ble_eq_true rfl)⟩ ⟨Nat.zero_le _, Nat.zero_le _⟩ rfl hl.1 (rest := [.int _, .int _, .ref _, .int _]) rfl (Nat.le_of_ble_eq_true rfl) dX7_cut_283 (fun H locs hn21 hW => ?_)
                      obtain ⟨⟨r25, σ24⟩, hc23, hf⟩ := bd hf
                      try dsimp only at hf
                      refine cVi C hW (mX7_sign hk_a0 hc23) hk_a0 kvX7_sign w_1267 ⟨(Nat.le_of_ble_eq_true rfl), (Nat.le_of_ble_eq_true rfl)⟩ ⟨Nat.zero_le _, Nat.zero_le _⟩ rfl hl.1 (rest := [.int _]) rfl (Nat.le_of_ble_eq_true rfl) dX7_cut_286 (fun H locs hn26 hW => ?_)
                      refine lv_iadd C.1.1 C.1.2.1 dX7_cut_289 ?_
                      refine lv_istore_n (lv' := [(1, .int _), (2, .int _), (0, .ref _)]) C.1.1 C.1.2.1 dX7_cut_290 rfl hl (by decide) rfl (fun ls hl => ?_)
                      exact J291 _ _ _ _ _ hf hW (lv_sub hl [2, 0] rfl)
                    · replace hf := (if_neg h9).symm.trans hf
                      refine lv_iconst (v := 0) C.1.1 C.1.2.1 dX7_cut_203 (by decide) ?_
                      refine lv_istore_n (lv' := [(3, .int _), (2, .int _), (0, .ref _), (1, .int _)]) C.1.1 C.1.2.1 dX7_cut_204 rfl hl (by decide) rfl (fun ls hl => ?_)
                      refine lv_iconst (v := 0) C.1.1 C.1.2.1 dX7_cut_205 (by decide) ?_
                      refine lv_istore (lv' := [(4, .int _), (3, .int _), (2, .int _), (0, .ref _), (1, .int _)]) C.1.1 C.1.2.1 dX7_cut_206 hl (by decide) rfl (fun ls hl => ?_)
                      obtain ⟨o46, ho, hf⟩ := bd hf
                      obtain ⟨n, ho⟩ := lp_it ho
                      refine L208 _ n _ _ _ _ _ _ o46 ho hW (lv_sub hl [3, 4, 1, 0] rfl) ?_
                      intro y48 y49 σ47 H locs ls e9 hW hl
                      subst e9
                      try dsimp only at hf
                      refine lv_aload_n C.1.1 C.1.2.1 dX7_cut_250 rfl (lv_at hl 0 rfl) ?_
                      refine lv_iload_n C.1.1 C.1.2.1 dX7_cut_251 rfl (lv_at hl 2 rfl) ?_
                      refine lv_iconst (v := 4) C.1.1 C.1.2.1 dX7_cut_252 (by decide) ?_
                      refine lv_icmp_le (tgt := 260) C.1.1 C.1.2.1 dX7_cut_253 (by decide) (fun h9 => ?_) (fun h9 => ?_)
                      · replace hf := (if_pos h9).symm.trans hf
                        refine lv_iconst (v := 2) C.1.1 C.1.2.1 dX7_cut_260 (by decide) ?_
                        exact J261 _ _ _ _ _ _ _ _ _ hk_a0 hf hW (lv_sub hl [0, 1, 2, 3] rfl)
                      · replace hf := (if_neg h9).symm.trans hf
                        refine lv_iconst (v := 3) C.1.1 C.1.2.1 dX7_cut_256 (by decide) ?_
                        refine lv_goto (tgt := 261) C.1.1 C.1.2.1 dX7_cut_257 (by decide) ?_
                        exact J261 _ _ _ _ _ _ _ _ _ hk_a0 hf hW (lv_sub hl [0, 1, 2, 3] rfl)
                  · replace hf := (if_neg h9).symm.trans hf
                    refine lv_iconst (v := 0) C.1.1 C.1.2.1 dX7_cut_80 (by decide) ?_
                    refine lv_istore_n (lv' := [(3, .int _), (2, .int _), (0, .ref _), (1, .int _)]) C.1.1 C.1.2.1 dX7_cut_81 rfl hl (by decide) rfl (fun ls hl => ?_)
                    refine lv_lconst (v := 0) C.1.1 C.1.2.1 dX7_cut_82 (by decide) ?_
                    refine lv_lstore (lv' := [(4, .long _), (3, .int _), (2, .int _), (0, .ref _), (1, .int _)]) C.1.1 C.1.2.1 dX7_cut_83 hl (by decide) rfl (fun ls hl => ?_)
                    obtain ⟨o78, ho, hf⟩ := bd hf
                    obtain ⟨n, ho⟩ := lp_it ho
                    refine L85 _ n _ _ _ _ _ _ o78 ho hW (lv_sub hl [3, 4, 1, 0] rfl) ?_
                    intro y80 y81 σ79 H locs ls e9 hW hl
                    subst e9
                    try dsimp only at hf
                    refine lv_iload_n C.1.1 C.1.2.1 dX7_cut_124 rfl (lv_at hl 2 rfl) ?_
                    refine lv_bipush (v := 8) C.1.1 C.1.2.1 dX7_cut_125 (by decide) ?_
                    refine lv_icmp_le (tgt := 134) C.1.1 C.1.2.1 dX7_cut_127 (by decide) (fun h9 => ?_) (fun h9 => ?_)
                    · replace hf := (if_pos h9).symm.trans hf
                      refine lv_iconst (v := 1) C.1.1 C.1.2.1 dX7_cut_134 (by decide) ?_
                      exact J135 _ _ _ _ _ _ _ _ hf hW (lv_sub hl [0, 1, 2, 3] rfl)
                    · replace hf := (if_neg h9).symm.trans hf
                      refine lv_iconst (v := 3) C.1.1 C.1.2.1 dX7_cut_130 (by decide) ?_
                      refine lv_goto (tgt := 135) C.1.1 C.1.2.1 dX7_cut_131 (by decide) ?_
                      exact J135 _ _ _ _ _ _ _ _ hf hW (lv_sub hl [0, 1, 2, 3] rfl)
                · replace hf := (if_pos h9).symm.trans hf
                  exact J67 _ _ _ _ _ hf hW (lv_sub hl [1, 2] rfl)
        · replace hf := (if_neg h9).symm.trans hf
          cases hf
          cases hx
          exact K7_31 _ _ _ _ rfl hW (lv_sub hl [1] rfl)
  refine lv_aload_n C.1.1 C.1.2.1 dX7_cut_0 rfl (lv_at hl 0 rfl) ?_
  refine lv_iconst (v := 0) C.1.1 C.1.2.1 dX7_cut_1 (by decide) ?_
  refine pf7_10 C hW hk_a0 w_1040 dX7_cut_2 (fun H locs hW => ?_)
  refine lv_iconst (v := 0) C.1.1 C.1.2.1 dX7_cut_5 (by decide) ?_
  refine lv_istore_n (lv' := [(1, .int _), (0, .ref _)]) C.1.1 C.1.2.1 dX7_cut_6 rfl hl (by decide) rfl (fun ls hl => ?_)
  obtain ⟨o97, ho, hf⟩ := bd hf
  obtain ⟨n, ho⟩ := lp_it ho
  refine L7 n _ _ _ _ _ o97 ho hW (lv_sub hl [1, 0] rfl) ?_ ?_
  · intro  σ98 H locs ls e9 hW hl
    subst e9
    try dsimp only at hf
    refine lv_aload_n C.1.1 C.1.2.1 dX7_cut_31 rfl (lv_at hl 0 rfl) ?_
    refine lv_iconst (v := 0) C.1.1 C.1.2.1 dX7_cut_32 (by decide) ?_
    refine lv_aload_n C.1.1 C.1.2.1 dX7_cut_33 rfl (lv_at hl 0 rfl) ?_
    refine gf7_4 C hW hk_a0 w_1034 dX7_cut_34 ?_
    refine lv_iconst (v := 0) C.1.1 C.1.2.1 dX7_cut_37 (by decide) ?_
    refine lv_lconst (v := 0) C.1.1 C.1.2.1 dX7_cut_38 (by decide) ?_
    obtain ⟨σ100, hc99, hf⟩ := bd hf
    try dsimp only at hf
    refine cVv C hW (mX7_token hk_a0 hc99) hk_a0 kvX7_token w_1257 ⟨(Nat.le_of_ble_eq_true rfl), (Nat.le_of_ble_eq_true rfl)⟩ ⟨Nat.zero_le _, Nat.zero_le _⟩ rfl hl.1 (rest := []) rfl (Nat.le_of_ble_eq_true rfl) dX7_cut_39 (fun H locs hW => ?_)
    exact rv hQ C hr hlk hW hf dX7_cut_42
  · intro  σ104 H locs ls e9 hW hl
    subst e9
    try dsimp only at hf
    exact rv hQ C hr hlk hW hf dX7_cut_294
theorem kvX7_is : KV 7 "RightKeysModel" yX7_is cX7_is 2 (some .boolean) 1 := ⟨⟨w_1273, w_51, w_116, w_1274⟩, ⟨rfl, by decide, by decide, by decide +kernel⟩, by decide, rfl⟩
noncomputable def fX7_is (a0 : Nat) (p1 : Int32) (σ : Sg) : Option (Int32 × Sg) := if (σ.1 a0 13) = 0 then (if vin (σ.1 a0 11) 403 then (if (σ.1 (a0 + 3) (((σ.1 a0 11)).toNatClampNeg)) = p1 then (some ((1 : Int32), σ)) else (some ((0 : Int32), σ))) else none) else (some ((0 : Int32), σ))
set_option maxRecDepth 100000 in
set_option maxHeartbeats 4000000 in
theorem mX7_is {l : Launch} {G : Gm} {a0 : Nat} {p1 : Int32} {σ : Sg} {r : Int32} {σ' : Sg} (hk_a0 : gK G a0 = 8) (hf : fX7_is a0 p1 σ = some (r, σ')) : Mi l G yX7_is cX7_is 2 .boolean 0 0 [.ref (gB G + a0), .int p1] σ r σ' := by
  refine of_W "RightKeysModel" rfl (by decide) (Nat.le_of_ble_eq_true rfl) ?_
  intro p e s m args below meth c Q hQ C hr hlk hW ls hl
  have h00 := hW.1
  have hl : lv_has ls 2 [(0, .ref (gB G + a0)), (1, .int p1)] := hl
  delta fX7_is at hf
  refine lv_aload_n C.1.1 C.1.2.1 dX7_is_0 rfl (lv_at hl 0 rfl) ?_
  refine gf7_13 C hW hk_a0 w_1043 dX7_is_1 ?_
  refine lv_if_ne (tgt := 24) C.1.1 C.1.2.1 dX7_is_4 (by decide) (fun h9 => ?_) (fun h9 => ?_)
  · replace hf := (if_neg h9).symm.trans hf
    refine lv_iconst (v := 0) C.1.1 C.1.2.1 dX7_is_24 (by decide) ?_
    exact ri hQ C hr hlk hW hf (rok_z (Or.inl rfl)) dX7_is_25
  · replace hf := (if_pos h9).symm.trans hf
    refine lv_aload_n C.1.1 C.1.2.1 dX7_is_7 rfl (lv_at hl 0 rfl) ?_
    have hk1 := sh7_5 hW hk_a0
    refine gf7_5 C hW hk_a0 w_1035 dX7_is_8 ?_
    refine lv_aload_n C.1.1 C.1.2.1 dX7_is_11 rfl (lv_at hl 0 rfl) ?_
    refine gf7_11 C hW hk_a0 w_1041 dX7_is_12 ?_
    obtain ⟨hv2, hf⟩ := gd hf
    refine wai C hW hk1 (vin_p hv2) dX7_is_15 ?_
    refine lv_iload_n C.1.1 C.1.2.1 dX7_is_16 rfl (lv_at hl 1 rfl) ?_
    refine lv_icmp_ne (tgt := 24) C.1.1 C.1.2.1 dX7_is_17 (by decide) (fun h9 => ?_) (fun h9 => ?_)
    · replace hf := (if_neg h9).symm.trans hf
      refine lv_iconst (v := 0) C.1.1 C.1.2.1 dX7_is_24 (by decide) ?_
      exact ri hQ C hr hlk hW hf (rok_z (Or.inl rfl)) dX7_is_25
    · replace hf := (if_pos h9).symm.trans hf
      refine lv_iconst (v := 1) C.1.1 C.1.2.1 dX7_is_20 (by decide) ?_
      refine lv_goto (tgt := 25) C.1.1 C.1.2.1 dX7_is_21 (by decide) ?_
      exact ri hQ C hr hlk hW hf (rok_z (Or.inr rfl)) dX7_is_25
theorem kvX7_fail : KV 7 "RightKeysModel" yX7_fail cX7_fail 2 none 1 := ⟨⟨w_1285, w_54, w_116, w_1286⟩, ⟨rfl, by decide, by decide, by decide +kernel⟩, by decide, rfl⟩
noncomputable def fX7_fail (a0 : Nat) (p1 : Int32) (σ : Sg) : Option (Sg) := if (σ.1 a0 13) ≤ 0 then ((let σ1 := wI σ a0 13 p1; if vin (σ1.1 a0 11) 403 then ((let σ4 := wI σ1 a0 14 (σ1.1 (a0 + 4) (((σ1.1 a0 11)).toNatClampNeg)); some σ4)) else none)) else (some σ)
set_option maxRecDepth 100000 in
set_option maxHeartbeats 4000000 in
theorem mX7_fail {l : Launch} {G : Gm} {a0 : Nat} {p1 : Int32} {σ : Sg} {σ' : Sg} (hk_a0 : gK G a0 = 8) (hf : fX7_fail a0 p1 σ = some σ') : Mv l G yX7_fail cX7_fail 2 0 0 [.ref (gB G + a0), .int p1] σ σ' := by
  refine of_W "RightKeysModel" rfl (by decide) (Nat.le_of_ble_eq_true rfl) ?_
  intro p e s m args below meth c Q hQ C hr hlk hW ls hl
  have h00 := hW.1
  have hl : lv_has ls 2 [(0, .ref (gB G + a0)), (1, .int p1)] := hl
  delta fX7_fail at hf
  refine lv_aload_n C.1.1 C.1.2.1 dX7_fail_0 rfl (lv_at hl 0 rfl) ?_
  refine gf7_13 C hW hk_a0 w_1043 dX7_fail_1 ?_
  refine lv_if_le (tgt := 8) C.1.1 C.1.2.1 dX7_fail_4 (by decide) (fun h9 => ?_) (fun h9 => ?_)
  · replace hf := (if_pos h9).symm.trans hf
    refine lv_aload_n C.1.1 C.1.2.1 dX7_fail_8 rfl (lv_at hl 0 rfl) ?_
    refine lv_iload_n C.1.1 C.1.2.1 dX7_fail_9 rfl (lv_at hl 1 rfl) ?_
    refine pf7_13 C hW hk_a0 w_1043 dX7_fail_10 (fun H locs hW => ?_)
    refine lv_aload_n C.1.1 C.1.2.1 dX7_fail_13 rfl (lv_at hl 0 rfl) ?_
    refine lv_aload_n C.1.1 C.1.2.1 dX7_fail_14 rfl (lv_at hl 0 rfl) ?_
    have hk2 := sh7_6 hW hk_a0
    refine gf7_6 C hW hk_a0 w_1036 dX7_fail_15 ?_
    refine lv_aload_n C.1.1 C.1.2.1 dX7_fail_18 rfl (lv_at hl 0 rfl) ?_
    refine gf7_11 C hW hk_a0 w_1041 dX7_fail_19 ?_
    obtain ⟨hv3, hf⟩ := gd hf
    refine wai C hW hk2 (vin_p hv3) dX7_fail_22 ?_
    refine pf7_14 C hW hk_a0 w_1044 dX7_fail_23 (fun H locs hW => ?_)
    exact rv hQ C hr hlk hW hf dX7_fail_26
  · replace hf := (if_neg h9).symm.trans hf
    exact rv hQ C hr hlk hW hf dX7_fail_7
theorem kvX7_wrong : KV 7 "RightKeysModel" yX7_wrong cX7_wrong 4 none 2 := ⟨⟨w_1301, w_58, w_116, w_1302⟩, ⟨rfl, by decide, by decide, by decide +kernel⟩, by decide, rfl⟩
noncomputable def jX7_wrong_46 (a0 : Nat) (p1 : Int32) (p2 : Int32) (x3 : Int32) (σ : Sg) : Option (Sg) := (let σ4 := wI σ a0 15 p1; let σ5 := wI σ4 a0 16 x3; some σ5)
noncomputable def fX7_wrong (a0 : Nat) (p1 : Int32) (p2 : Int32) (σ : Sg) : Option (Sg) := if vin p2 403 then ((let x3_3 := (σ.1 (a0 + 4) ((p2).toNatClampNeg)); if 0 < (σ.1 a0 13) then (some σ) else (if (σ.1 a0 15) = 0 then (jX7_wrong_46 a0 p1 p2 x3_3 σ) else (if (σ.1 a0 16) < x3_3 then (some σ) else (if x3_3 = (σ.1 a0 16) then (if p1 < (σ.1 a0 15) then (jX7_wrong_46 a0 p1 p2 x3_3 σ) else (some σ)) else (jX7_wrong_46 a0 p1 p2 x3_3 σ)))))) else none
set_option maxRecDepth 100000 in
set_option maxHeartbeats 4000000 in
theorem mX7_wrong {l : Launch} {G : Gm} {a0 : Nat} {p1 : Int32} {p2 : Int32} {σ : Sg} {σ' : Sg} (hk_a0 : gK G a0 = 8) (hf : fX7_wrong a0 p1 p2 σ = some σ') : Mv l G yX7_wrong cX7_wrong 4 0 0 [.ref (gB G + a0), .int p1, .int p2] σ σ' := by
  refine of_W "RightKeysModel" rfl (by decide) (Nat.le_of_ble_eq_true rfl) ?_
  intro p e s m args below meth c Q hQ C hr hlk hW ls hl
  have h00 := hW.1
  have hl : lv_has ls 4 [(0, .ref (gB G + a0)), (1, .int p1), (2, .int p2)] := hl
  delta fX7_wrong at hf
  have J46 : ∀ (x3 : Int32) (σ : Sg) (H : Heap) (locs : List Loc) (ls : Array Slot), jX7_wrong_46 a0 p1 p2 x3 σ = some σ' → Ws G σ s.heap H locs → lv_has ls 4 [(0, .ref (gB G + a0)), (1, .int p1), (3, .int x3)] → W p l e (rmOf 0 0) s m args below meth c H locs 0 0 Q (F0 m 46 ls []) := by
    intro x3 σ H locs ls hf hW hl
    delta jX7_wrong_46 at hf
    refine lv_aload_n C.1.1 C.1.2.1 dX7_wrong_46 rfl (lv_at hl 0 rfl) ?_
    refine lv_iload_n C.1.1 C.1.2.1 dX7_wrong_47 rfl (lv_at hl 1 rfl) ?_
    refine pf7_15 C hW hk_a0 w_1045 dX7_wrong_48 (fun H locs hW => ?_)
    refine lv_aload_n C.1.1 C.1.2.1 dX7_wrong_51 rfl (lv_at hl 0 rfl) ?_
    refine lv_iload_n C.1.1 C.1.2.1 dX7_wrong_52 rfl (lv_at hl 2 rfl) ?_
    refine pf7_16 C hW hk_a0 w_1046 dX7_wrong_53 (fun H locs hW => ?_)
    exact rv hQ C hr hlk hW hf dX7_wrong_56
  refine lv_aload_n C.1.1 C.1.2.1 dX7_wrong_0 rfl (lv_at hl 0 rfl) ?_
  have hk1 := sh7_6 hW hk_a0
  refine gf7_6 C hW hk_a0 w_1036 dX7_wrong_1 ?_
  refine lv_iload_n C.1.1 C.1.2.1 dX7_wrong_4 rfl (lv_at hl 2 rfl) ?_
  obtain ⟨hv2, hf⟩ := gd hf
  refine wai C hW hk1 (vin_p hv2) dX7_wrong_5 ?_
  refine lv_istore_n (lv' := [(3, .int _), (0, .ref _), (1, .int _), (2, .int _)]) C.1.1 C.1.2.1 dX7_wrong_6 rfl hl (by decide) rfl (fun ls hl => ?_)
  refine lv_aload_n C.1.1 C.1.2.1 dX7_wrong_7 rfl (lv_at hl 1 rfl) ?_
  refine gf7_13 C hW hk_a0 w_1043 dX7_wrong_8 ?_
  refine lv_if_gt (tgt := 45) C.1.1 C.1.2.1 dX7_wrong_11 (by decide) (fun h9 => ?_) (fun h9 => ?_)
  · replace hf := (if_pos h9).symm.trans hf
    exact rv hQ C hr hlk hW hf dX7_wrong_45
  · replace hf := (if_neg h9).symm.trans hf
    refine lv_aload_n C.1.1 C.1.2.1 dX7_wrong_14 rfl (lv_at hl 1 rfl) ?_
    refine gf7_15 C hW hk_a0 w_1045 dX7_wrong_15 ?_
    refine lv_if_eq (tgt := 46) C.1.1 C.1.2.1 dX7_wrong_18 (by decide) (fun h9 => ?_) (fun h9 => ?_)
    · replace hf := (if_pos h9).symm.trans hf
      exact J46 _ _ _ _ _ hf hW (lv_sub hl [1, 2, 0] rfl)
    · replace hf := (if_neg h9).symm.trans hf
      refine lv_iload_n C.1.1 C.1.2.1 dX7_wrong_21 rfl (lv_at hl 0 rfl) ?_
      refine lv_aload_n C.1.1 C.1.2.1 dX7_wrong_22 rfl (lv_at hl 1 rfl) ?_
      refine gf7_16 C hW hk_a0 w_1046 dX7_wrong_23 ?_
      refine lv_icmp_gt (tgt := 45) C.1.1 C.1.2.1 dX7_wrong_26 (by decide) (fun h9 => ?_) (fun h9 => ?_)
      · replace hf := (if_pos h9).symm.trans hf
        exact rv hQ C hr hlk hW hf dX7_wrong_45
      · replace hf := (if_neg h9).symm.trans hf
        refine lv_iload_n C.1.1 C.1.2.1 dX7_wrong_29 rfl (lv_at hl 0 rfl) ?_
        refine lv_aload_n C.1.1 C.1.2.1 dX7_wrong_30 rfl (lv_at hl 1 rfl) ?_
        refine gf7_16 C hW hk_a0 w_1046 dX7_wrong_31 ?_
        refine lv_icmp_ne (tgt := 46) C.1.1 C.1.2.1 dX7_wrong_34 (by decide) (fun h9 => ?_) (fun h9 => ?_)
        · replace hf := (if_neg h9).symm.trans hf
          exact J46 _ _ _ _ _ hf hW (lv_sub hl [1, 2, 0] rfl)
        · replace hf := (if_pos h9).symm.trans hf
          refine lv_iload_n C.1.1 C.1.2.1 dX7_wrong_37 rfl (lv_at hl 2 rfl) ?_
          refine lv_aload_n C.1.1 C.1.2.1 dX7_wrong_38 rfl (lv_at hl 1 rfl) ?_
          refine gf7_15 C hW hk_a0 w_1045 dX7_wrong_39 ?_
          refine lv_icmp_lt (tgt := 46) C.1.1 C.1.2.1 dX7_wrong_42 (by decide) (fun h9 => ?_) (fun h9 => ?_)
          · replace hf := (if_pos h9).symm.trans hf
            exact J46 _ _ _ _ _ hf hW (lv_sub hl [1, 2, 0] rfl)
          · replace hf := (if_neg h9).symm.trans hf
            exact rv hQ C hr hlk hW hf dX7_wrong_45
theorem kvX7_goesOn : KV 7 "RightKeysModel" yX7_goesOn cX7_goesOn 1 none 0 := ⟨⟨w_1289, w_55, w_116, w_1290⟩, ⟨rfl, by decide, by decide, by decide +kernel⟩, by decide, rfl⟩
noncomputable def fX7_goesOn (a0 : Nat) (σ : Sg) : Option (Sg) := if (σ.1 a0 11) = (400 : Int32) then ((fX7_fail a0 (2 : Int32) σ).bind (fun σ3 => some σ3)) else ((let σ1 := wI σ a0 11 ((σ.1 a0 11) + (1 : Int32)); some σ1))
set_option maxRecDepth 100000 in
set_option maxHeartbeats 4000000 in
theorem mX7_goesOn {l : Launch} {G : Gm} {a0 : Nat} {σ : Sg} {σ' : Sg} (hk_a0 : gK G a0 = 8) (hf : fX7_goesOn a0 σ = some σ') : Mv l G yX7_goesOn cX7_goesOn 1 1 21 [.ref (gB G + a0)] σ σ' := by
  refine of_W "RightKeysModel" rfl (by decide) (Nat.le_of_ble_eq_true rfl) ?_
  intro p e s m args below meth c Q hQ C hr hlk hW ls hl
  have h00 := hW.1
  have hl : lv_has ls 1 [(0, .ref (gB G + a0))] := hl
  delta fX7_goesOn at hf
  refine lv_aload_n C.1.1 C.1.2.1 dX7_goesOn_0 rfl (lv_at hl 0 rfl) ?_
  refine gf7_11 C hW hk_a0 w_1041 dX7_goesOn_1 ?_
  refine lv_sipush (v := 400) C.1.1 C.1.2.1 dX7_goesOn_4 (by decide) ?_
  refine lv_icmp_ne (tgt := 18) C.1.1 C.1.2.1 dX7_goesOn_7 (by decide) (fun h9 => ?_) (fun h9 => ?_)
  · replace hf := (if_neg h9).symm.trans hf
    refine lv_aload_n C.1.1 C.1.2.1 dX7_goesOn_18 rfl (lv_at hl 0 rfl) ?_
    refine lv_dup C.1.1 C.1.2.1 dX7_goesOn_19 rfl ?_
    refine gf7_11 C hW hk_a0 w_1041 dX7_goesOn_20 ?_
    refine lv_iconst (v := 1) C.1.1 C.1.2.1 dX7_goesOn_23 (by decide) ?_
    refine lv_iadd C.1.1 C.1.2.1 dX7_goesOn_24 ?_
    refine pf7_11 C hW hk_a0 w_1041 dX7_goesOn_25 (fun H locs hW => ?_)
    exact rv hQ C hr hlk hW hf dX7_goesOn_28
  · replace hf := (if_pos h9).symm.trans hf
    refine lv_aload_n C.1.1 C.1.2.1 dX7_goesOn_10 rfl (lv_at hl 0 rfl) ?_
    refine lv_iconst (v := 2) C.1.1 C.1.2.1 dX7_goesOn_11 (by decide) ?_
    obtain ⟨σ3, hc2, hf⟩ := bd hf
    try dsimp only at hf
    refine cVv C hW (mX7_fail hk_a0 hc2) hk_a0 kvX7_fail w_1283 ⟨(Nat.le_of_ble_eq_true rfl), (Nat.le_of_ble_eq_true rfl)⟩ ⟨Nat.zero_le _, Nat.zero_le _⟩ rfl hl.1 (rest := []) rfl (Nat.le_of_ble_eq_true rfl) dX7_goesOn_12 (fun H locs hW => ?_)
    refine lv_goto (tgt := 28) C.1.1 C.1.2.1 dX7_goesOn_15 (by decide) ?_
    exact rv hQ C hr hlk hW hf dX7_goesOn_28
theorem kvX7_must : KV 7 "RightKeysModel" yX7_must cX7_must 2 none 1 := ⟨⟨w_1297, w_57, w_116, w_1298⟩, ⟨rfl, by decide, by decide, by decide +kernel⟩, by decide, rfl⟩
noncomputable def fX7_must (a0 : Nat) (p1 : Int32) (σ : Sg) : Option (Sg) := (fX7_is a0 p1 σ).bind (fun q5 => let r3 := q5.1; let σ2 := q5.2; if r3 = 0 then ((fX7_fail a0 (1 : Int32) σ2).bind (fun σ7 => some σ7)) else ((fX7_goesOn a0 σ2).bind (fun σ12 => some σ12)))
set_option maxRecDepth 100000 in
set_option maxHeartbeats 4000000 in
theorem mX7_must {l : Launch} {G : Gm} {a0 : Nat} {p1 : Int32} {σ : Sg} {σ' : Sg} (hk_a0 : gK G a0 = 8) (hf : fX7_must a0 p1 σ = some σ') : Mv l G yX7_must cX7_must 2 2 41 [.ref (gB G + a0), .int p1] σ σ' := by
  refine of_W "RightKeysModel" rfl (by decide) (Nat.le_of_ble_eq_true rfl) ?_
  intro p e s m args below meth c Q hQ C hr hlk hW ls hl
  have h00 := hW.1
  have hl : lv_has ls 2 [(0, .ref (gB G + a0)), (1, .int p1)] := hl
  delta fX7_must at hf
  refine lv_aload_n C.1.1 C.1.2.1 dX7_must_0 rfl (lv_at hl 0 rfl) ?_
  refine lv_iload_n C.1.1 C.1.2.1 dX7_must_1 rfl (lv_at hl 1 rfl) ?_
  obtain ⟨⟨r3, σ2⟩, hc1, hf⟩ := bd hf
  try dsimp only at hf
  refine cVi C hW (mX7_is hk_a0 hc1) hk_a0 kvX7_is w_1271 ⟨(Nat.le_of_ble_eq_true rfl), (Nat.le_of_ble_eq_true rfl)⟩ ⟨Nat.zero_le _, Nat.zero_le _⟩ rfl hl.1 (rest := []) rfl (Nat.le_of_ble_eq_true rfl) dX7_must_2 (fun H locs hn4 hW => ?_)
  refine lv_if_eq (tgt := 15) C.1.1 C.1.2.1 dX7_must_5 (by decide) (fun h9 => ?_) (fun h9 => ?_)
  · replace hf := (if_pos h9).symm.trans hf
    refine lv_aload_n C.1.1 C.1.2.1 dX7_must_15 rfl (lv_at hl 0 rfl) ?_
    refine lv_iconst (v := 1) C.1.1 C.1.2.1 dX7_must_16 (by decide) ?_
    obtain ⟨σ7, hc6, hf⟩ := bd hf
    try dsimp only at hf
    refine cVv C hW (mX7_fail hk_a0 hc6) hk_a0 kvX7_fail w_1283 ⟨(Nat.le_of_ble_eq_true rfl), (Nat.le_of_ble_eq_true rfl)⟩ ⟨Nat.zero_le _, Nat.zero_le _⟩ rfl hl.1 (rest := []) rfl (Nat.le_of_ble_eq_true rfl) dX7_must_17 (fun H locs hW => ?_)
    exact rv hQ C hr hlk hW hf dX7_must_20
  · replace hf := (if_neg h9).symm.trans hf
    refine lv_aload_n C.1.1 C.1.2.1 dX7_must_8 rfl (lv_at hl 0 rfl) ?_
    obtain ⟨σ12, hc11, hf⟩ := bd hf
    try dsimp only at hf
    refine cVv C hW (mX7_goesOn hk_a0 hc11) hk_a0 kvX7_goesOn w_1287 ⟨(Nat.le_of_ble_eq_true rfl), (Nat.le_of_ble_eq_true rfl)⟩ ⟨Nat.zero_le _, Nat.zero_le _⟩ rfl hl.1 (rest := []) rfl (Nat.le_of_ble_eq_true rfl) dX7_must_9 (fun H locs hW => ?_)
    refine lv_goto (tgt := 20) C.1.1 C.1.2.1 dX7_must_12 (by decide) ?_
    exact rv hQ C hr hlk hW hf dX7_must_20
theorem kvX7_plain : KV 7 "RightKeysModel" yX7_plain cX7_plain 3 none 1 := ⟨⟨w_1014, w_43, w_116, w_1015⟩, ⟨rfl, by decide, by decide, by decide +kernel⟩, by decide, rfl⟩
noncomputable def bX7_plain_23 (a0 : Nat) (p1 : Int32) (x2 : Int32) (σ : Sg) : Option ((Int32 × Sg) ⊕ (Sg)) := if (8 : Int32) ≤ x2 then (some (Sum.inr σ)) else (if vin (((8 : Int32) * p1) + x2) 16 then (let σ10 := wI σ (a0 + 13) (((((8 : Int32) * p1) + x2)).toNatClampNeg) (vp_nar .boolean (0 : Int32)); (let x2_11 := x2 + (1 : Int32); some (Sum.inl (x2_11, σ10)))) else none)
noncomputable def bX7_plain_49 (a0 : Nat) (p1 : Int32) (x2 : Int32) (σ : Sg) : Option ((Int32 × Sg) ⊕ (Sg)) := if (4 : Int32) ≤ x2 then (some (Sum.inr σ)) else (if vin (((4 : Int32) * p1) + x2) 8 then (let σ16 := wI σ (a0 + 18) (((((4 : Int32) * p1) + x2)).toNatClampNeg) (0 : Int32); (let σ18 := wI σ16 (a0 + 19) (((((4 : Int32) * p1) + x2)).toNatClampNeg) (0 : Int32); let x2_19 := x2 + (1 : Int32); some (Sum.inl (x2_19, σ18)))) else none)
noncomputable def fX7_plain (a0 : Nat) (p1 : Int32) (σ : Sg) : Option (Sg) := if vin p1 2 then (let σ3 := wI σ (a0 + 9) ((p1).toNatClampNeg) (0 : Int32); (let σ5 := wI σ3 (a0 + 14) ((p1).toNatClampNeg) (0 : Int32); let σ7 := wI σ5 (a0 + 17) ((p1).toNatClampNeg) (0 : Int32); (lp (fun st => bX7_plain_23 a0 p1 st.1 st.2) ((0 : Int32), σ7)).bind (fun σ13 => (lp (fun st => bX7_plain_49 a0 p1 st.1 st.2) ((0 : Int32), σ13)).bind (fun σ21 => some σ21)))) else none
set_option maxRecDepth 100000 in
set_option maxHeartbeats 4000000 in
theorem mX7_plain {l : Launch} {G : Gm} {a0 : Nat} {p1 : Int32} {σ : Sg} {σ' : Sg} (hk_a0 : gK G a0 = 8) (hf : fX7_plain a0 p1 σ = some σ') : Mv l G yX7_plain cX7_plain 3 0 0 [.ref (gB G + a0), .int p1] σ σ' := by
  refine of_W "RightKeysModel" rfl (by decide) (Nat.le_of_ble_eq_true rfl) ?_
  intro p e s m args below meth c Q hQ C hr hlk hW ls hl
  have h00 := hW.1
  have hl : lv_has ls 3 [(0, .ref (gB G + a0)), (1, .int p1)] := hl
  delta fX7_plain at hf
  have L23 : ∀ (n : Nat) (x2 : Int32) (σ : Sg) (H : Heap) (locs : List Loc) (ls : Array Slot) (out : (Sg)), iter (fun st => bX7_plain_23 a0 p1 st.1 st.2) n (x2, σ) = some out → Ws G σ s.heap H locs → lv_has ls 3 [(0, .ref (gB G + a0)), (1, .int p1), (2, .int x2)] → (∀ (σ : Sg) (H : Heap) (locs : List Loc) (ls : Array Slot), out = σ → Ws G σ s.heap H locs → lv_has ls 3 [(0, .ref (gB G + a0)), (1, .int p1)] → W p l e (rmOf 0 0) s m args below meth c H locs 0 0 Q (F0 m 47 ls [])) → W p l e (rmOf 0 0) s m args below meth c H locs 0 0 Q (F0 m 23 ls []) := by
    intro n
    induction n with
    | zero =>
      intro x2 σ H locs ls out hf
      exact (it_0 hf).elim
    | succ n ih =>
      intro x2 σ H locs ls out hf hW hl K23_47
      obtain ⟨x, hf, hx⟩ := it_s hf
      have hf : bX7_plain_23 a0 p1 x2 σ = some x := hf
      delta bX7_plain_23 at hf
      refine lv_iload_n C.1.1 C.1.2.1 dX7_plain_23 rfl (lv_at hl 2 rfl) ?_
      refine lv_bipush (v := 8) C.1.1 C.1.2.1 dX7_plain_24 (by decide) ?_
      refine lv_icmp_ge (tgt := 47) C.1.1 C.1.2.1 dX7_plain_26 (by decide) (fun h9 => ?_) (fun h9 => ?_)
      · replace hf := (if_pos h9).symm.trans hf
        cases hf
        cases hx
        exact K23_47 _ _ _ _ rfl hW (lv_sub hl [0, 1] rfl)
      · replace hf := (if_neg h9).symm.trans hf
        refine lv_aload_n C.1.1 C.1.2.1 dX7_plain_29 rfl (lv_at hl 0 rfl) ?_
        have hk8 := sh7_26 hW hk_a0
        refine gf7_26 C hW hk_a0 w_1056 dX7_plain_30 ?_
        refine lv_bipush (v := 8) C.1.1 C.1.2.1 dX7_plain_33 (by decide) ?_
        refine lv_iload_n C.1.1 C.1.2.1 dX7_plain_35 rfl (lv_at hl 1 rfl) ?_
        refine lv_imul C.1.1 C.1.2.1 dX7_plain_36 ?_
        refine lv_iload_n C.1.1 C.1.2.1 dX7_plain_37 rfl (lv_at hl 2 rfl) ?_
        refine lv_iadd C.1.1 C.1.2.1 dX7_plain_38 ?_
        refine lv_iconst (v := 0) C.1.1 C.1.2.1 dX7_plain_39 (by decide) ?_
        obtain ⟨hv9, hf⟩ := gd hf
        refine wsz C hW hk8 (vin_p hv9) dX7_plain_40 (fun H locs hW => ?_)
        refine lv_iinc (v := _) (lv' := [(2, .int _), (0, .ref _), (1, .int _)]) C.1.1 C.1.2.1 dX7_plain_41 hl (k := 2) rfl (ii (k := 1) (by decide)) (by decide) rfl (fun ls hl => ?_)
        refine lv_goto (tgt := 23) C.1.1 C.1.2.1 dX7_plain_44 (by decide) ?_
        cases hf
        exact ih _ _ _ _ _ _ hx hW (lv_sub hl [1, 2, 0] rfl) K23_47
  have L49 : ∀ (n : Nat) (x2 : Int32) (σ : Sg) (H : Heap) (locs : List Loc) (ls : Array Slot) (out : (Sg)), iter (fun st => bX7_plain_49 a0 p1 st.1 st.2) n (x2, σ) = some out → Ws G σ s.heap H locs → lv_has ls 3 [(0, .ref (gB G + a0)), (1, .int p1), (2, .int x2)] → (∀ (σ : Sg) (H : Heap) (locs : List Loc) (ls : Array Slot), out = σ → Ws G σ s.heap H locs → lv_has ls 3 [] → W p l e (rmOf 0 0) s m args below meth c H locs 0 0 Q (F0 m 82 ls [])) → W p l e (rmOf 0 0) s m args below meth c H locs 0 0 Q (F0 m 49 ls []) := by
    intro n
    induction n with
    | zero =>
      intro x2 σ H locs ls out hf
      exact (it_0 hf).elim
    | succ n ih =>
      intro x2 σ H locs ls out hf hW hl K49_82
      obtain ⟨x, hf, hx⟩ := it_s hf
      have hf : bX7_plain_49 a0 p1 x2 σ = some x := hf
      delta bX7_plain_49 at hf
      refine lv_iload_n C.1.1 C.1.2.1 dX7_plain_49 rfl (lv_at hl 2 rfl) ?_
      refine lv_iconst (v := 4) C.1.1 C.1.2.1 dX7_plain_50 (by decide) ?_
      refine lv_icmp_ge (tgt := 82) C.1.1 C.1.2.1 dX7_plain_51 (by decide) (fun h9 => ?_) (fun h9 => ?_)
      · replace hf := (if_pos h9).symm.trans hf
        cases hf
        cases hx
        exact K49_82 _ _ _ _ rfl hW (lv_sub hl [] rfl)
      · replace hf := (if_neg h9).symm.trans hf
        refine lv_aload_n C.1.1 C.1.2.1 dX7_plain_54 rfl (lv_at hl 0 rfl) ?_
        have hk14 := sh7_31 hW hk_a0
        refine gf7_31 C hW hk_a0 w_1061 dX7_plain_55 ?_
        refine lv_iconst (v := 4) C.1.1 C.1.2.1 dX7_plain_58 (by decide) ?_
        refine lv_iload_n C.1.1 C.1.2.1 dX7_plain_59 rfl (lv_at hl 1 rfl) ?_
        refine lv_imul C.1.1 C.1.2.1 dX7_plain_60 ?_
        refine lv_iload_n C.1.1 C.1.2.1 dX7_plain_61 rfl (lv_at hl 2 rfl) ?_
        refine lv_iadd C.1.1 C.1.2.1 dX7_plain_62 ?_
        refine lv_iconst (v := 0) C.1.1 C.1.2.1 dX7_plain_63 (by decide) ?_
        obtain ⟨hv15, hf⟩ := gd hf
        refine wsi C hW hk14 (vin_p hv15) dX7_plain_64 (fun H locs hW => ?_)
        refine lv_aload_n C.1.1 C.1.2.1 dX7_plain_65 rfl (lv_at hl 0 rfl) ?_
        have hk17 := sh7_32 hW hk_a0
        refine gf7_32 C hW hk_a0 w_1062 dX7_plain_66 ?_
        refine lv_iconst (v := 4) C.1.1 C.1.2.1 dX7_plain_69 (by decide) ?_
        refine lv_iload_n C.1.1 C.1.2.1 dX7_plain_70 rfl (lv_at hl 1 rfl) ?_
        refine lv_imul C.1.1 C.1.2.1 dX7_plain_71 ?_
        refine lv_iload_n C.1.1 C.1.2.1 dX7_plain_72 rfl (lv_at hl 2 rfl) ?_
        refine lv_iadd C.1.1 C.1.2.1 dX7_plain_73 ?_
        refine lv_iconst (v := 0) C.1.1 C.1.2.1 dX7_plain_74 (by decide) ?_
        refine wsi C hW hk17 (vin_p hv15) dX7_plain_75 (fun H locs hW => ?_)
        refine lv_iinc (v := _) (lv' := [(2, .int _), (0, .ref _), (1, .int _)]) C.1.1 C.1.2.1 dX7_plain_76 hl (k := 2) rfl (ii (k := 1) (by decide)) (by decide) rfl (fun ls hl => ?_)
        refine lv_goto (tgt := 49) C.1.1 C.1.2.1 dX7_plain_79 (by decide) ?_
        cases hf
        exact ih _ _ _ _ _ _ hx hW (lv_sub hl [1, 2, 0] rfl) K49_82
  refine lv_aload_n C.1.1 C.1.2.1 dX7_plain_0 rfl (lv_at hl 0 rfl) ?_
  have hk1 := sh7_22 hW hk_a0
  refine gf7_22 C hW hk_a0 w_1052 dX7_plain_1 ?_
  refine lv_iload_n C.1.1 C.1.2.1 dX7_plain_4 rfl (lv_at hl 1 rfl) ?_
  refine lv_iconst (v := 0) C.1.1 C.1.2.1 dX7_plain_5 (by decide) ?_
  obtain ⟨hv2, hf⟩ := gd hf
  refine wsi C hW hk1 (vin_p hv2) dX7_plain_6 (fun H locs hW => ?_)
  refine lv_aload_n C.1.1 C.1.2.1 dX7_plain_7 rfl (lv_at hl 0 rfl) ?_
  have hk4 := sh7_27 hW hk_a0
  refine gf7_27 C hW hk_a0 w_1057 dX7_plain_8 ?_
  refine lv_iload_n C.1.1 C.1.2.1 dX7_plain_11 rfl (lv_at hl 1 rfl) ?_
  refine lv_iconst (v := 0) C.1.1 C.1.2.1 dX7_plain_12 (by decide) ?_
  refine wsi C hW hk4 (vin_p hv2) dX7_plain_13 (fun H locs hW => ?_)
  refine lv_aload_n C.1.1 C.1.2.1 dX7_plain_14 rfl (lv_at hl 0 rfl) ?_
  have hk6 := sh7_30 hW hk_a0
  refine gf7_30 C hW hk_a0 w_1060 dX7_plain_15 ?_
  refine lv_iload_n C.1.1 C.1.2.1 dX7_plain_18 rfl (lv_at hl 1 rfl) ?_
  refine lv_iconst (v := 0) C.1.1 C.1.2.1 dX7_plain_19 (by decide) ?_
  refine wsi C hW hk6 (vin_p hv2) dX7_plain_20 (fun H locs hW => ?_)
  refine lv_iconst (v := 0) C.1.1 C.1.2.1 dX7_plain_21 (by decide) ?_
  refine lv_istore_n (lv' := [(2, .int _), (0, .ref _), (1, .int _)]) C.1.1 C.1.2.1 dX7_plain_22 rfl hl (by decide) rfl (fun ls hl => ?_)
  obtain ⟨o12, ho, hf⟩ := bd hf
  obtain ⟨n, ho⟩ := lp_it ho
  refine L23 n _ _ _ _ _ o12 ho hW (lv_sub hl [1, 2, 0] rfl) ?_
  intro  σ13 H locs ls e9 hW hl
  subst e9
  try dsimp only at hf
  refine lv_iconst (v := 0) C.1.1 C.1.2.1 dX7_plain_47 (by decide) ?_
  refine lv_istore_n (lv' := [(2, .int _), (0, .ref _), (1, .int _)]) C.1.1 C.1.2.1 dX7_plain_48 rfl hl (by decide) rfl (fun ls hl => ?_)
  obtain ⟨o20, ho, hf⟩ := bd hf
  obtain ⟨n, ho⟩ := lp_it ho
  refine L49 n _ _ _ _ _ o20 ho hW (lv_sub hl [1, 2, 0] rfl) ?_
  intro  σ21 H locs ls e9 hW hl
  subst e9
  try dsimp only at hf
  exact rv hQ C hr hlk hW hf dX7_plain_82
theorem kvX7_begins : KV 7 "RightKeysModel" yX7_begins cX7_begins 2 none 0 := ⟨⟨w_1025, w_44, w_116, w_1026⟩, ⟨rfl, by decide, by decide, by decide +kernel⟩, by decide, rfl⟩
noncomputable def bX7_begins_2 (a0 : Nat) (x1 : Int32) (σ : Sg) : Option ((Int32 × Sg) ⊕ (Sg)) := if (88 : Int32) ≤ x1 then (some (Sum.inr σ)) else (if vin x1 88 then (let σ3 := wI σ (a0 + 31) ((x1).toNatClampNeg) (0 : Int32); (let x1_4 := x1 + (1 : Int32); some (Sum.inl (x1_4, σ3)))) else none)
noncomputable def bX7_begins_23 (a0 : Nat) (x1 : Int32) (σ : Sg) : Option ((Int32 × Sg) ⊕ (Sg)) := if vin (σ.1 a0 18) 2 then (if (σ.1 (a0 + 9) (((σ.1 a0 18)).toNatClampNeg)) ≤ x1 then (some (Sum.inr σ)) else (if vin (((8 : Int32) * (σ.1 a0 18)) + x1) 16 then (if vin x1 88 then (let σ13 := wI σ (a0 + 31) ((x1).toNatClampNeg) (σ.1 (a0 + 10) (((((8 : Int32) * (σ.1 a0 18)) + x1)).toNatClampNeg)); if vin (((8 : Int32) * (σ13.1 a0 18)) + x1) 16 then (if vin ((8 : Int32) + x1) 88 then (let σ18 := wI σ13 (a0 + 31) ((((8 : Int32) + x1)).toNatClampNeg) (σ13.1 (a0 + 11) (((((8 : Int32) * (σ13.1 a0 18)) + x1)).toNatClampNeg)); if vin (((8 : Int32) * (σ18.1 a0 18)) + x1) 16 then (if vin ((16 : Int32) + x1) 88 then (let σ23 := wI σ18 (a0 + 31) ((((16 : Int32) + x1)).toNatClampNeg) (σ18.1 (a0 + 12) (((((8 : Int32) * (σ18.1 a0 18)) + x1)).toNatClampNeg)); if vin ((24 : Int32) + x1) 88 then (let σ26 := wI σ23 (a0 + 31) ((((24 : Int32) + x1)).toNatClampNeg) x1; if vin ((64 : Int32) + x1) 88 then (let σ29 := wI σ26 (a0 + 31) ((((64 : Int32) + x1)).toNatClampNeg) (-2 : Int32); (let x1_30 := x1 + (1 : Int32); some (Sum.inl (x1_30, σ29)))) else none) else none) else none) else none) else none) else none) else none) else none)) else none
noncomputable def jX7_begins_176 (a0 : Nat) (x1 : Int32) (s0 : Nat) (s1 : Int32) (s2 : Int32) (σ : Sg) : Option ((Int32 × Sg) ⊕ (Sg)) := if vin s1 88 then (let σ37 := wI σ s0 ((s1).toNatClampNeg) s2; if vin ((78 : Int32) + x1) 88 then (let σ40 := wI σ37 (a0 + 31) ((((78 : Int32) + x1)).toNatClampNeg) (-2 : Int32); (let x1_41 := x1 + (1 : Int32); some (Sum.inl (x1_41, σ40)))) else none) else none
noncomputable def bX7_begins_131 (a0 : Nat) (x1 : Int32) (σ : Sg) : Option ((Int32 × Sg) ⊕ (Sg)) := if (6 : Int32) ≤ x1 then (some (Sum.inr σ)) else (if vin (σ.1 a0 18) 2 then (if (σ.1 (a0 + 14) (((σ.1 a0 18)).toNatClampNeg)) ≤ x1 then (jX7_begins_176 a0 x1 (a0 + 31) ((72 : Int32) + x1) (-1 : Int32) σ) else (if vin (((6 : Int32) * (σ.1 a0 18)) + x1) 12 then (jX7_begins_176 a0 x1 (a0 + 31) ((72 : Int32) + x1) (σ.1 (a0 + 16) (((((6 : Int32) * (σ.1 a0 18)) + x1)).toNatClampNeg)) σ) else none)) else none)
noncomputable def fX7_begins (a0 : Nat) (σ : Sg) : Option (Sg) := (lp (fun st => bX7_begins_2 a0 st.1 st.2) ((0 : Int32), σ)).bind (fun σ6 => (lp (fun st => bX7_begins_23 a0 st.1 st.2) ((0 : Int32), σ6)).bind (fun σ32 => (lp (fun st => bX7_begins_131 a0 st.1 st.2) ((0 : Int32), σ32)).bind (fun σ45 => if vin (σ45.1 a0 18) 2 then ((let σ48 := wI σ45 a0 49 (σ45.1 (a0 + 17) (((σ45.1 a0 18)).toNatClampNeg)); let σ49 := wI σ48 a0 50 (0 : Int32); let σ50 := wI σ49 a0 51 (-1 : Int32); some σ50)) else none)))
set_option maxRecDepth 100000 in
set_option maxHeartbeats 4000000 in
theorem mX7_begins {l : Launch} {G : Gm} {a0 : Nat} {σ : Sg} {σ' : Sg} (hk_a0 : gK G a0 = 8) (hf : fX7_begins a0 σ = some σ') : Mv l G yX7_begins cX7_begins 2 0 0 [.ref (gB G + a0)] σ σ' := by
  refine of_W "RightKeysModel" rfl (by decide) (Nat.le_of_ble_eq_true rfl) ?_
  intro p e s m args below meth c Q hQ C hr hlk hW ls hl
  have h00 := hW.1
  have hl : lv_has ls 2 [(0, .ref (gB G + a0))] := hl
  delta fX7_begins at hf
  have L2 : ∀ (n : Nat) (x1 : Int32) (σ : Sg) (H : Heap) (locs : List Loc) (ls : Array Slot) (out : (Sg)), iter (fun st => bX7_begins_2 a0 st.1 st.2) n (x1, σ) = some out → Ws G σ s.heap H locs → lv_has ls 2 [(0, .ref (gB G + a0)), (1, .int x1)] → (∀ (σ : Sg) (H : Heap) (locs : List Loc) (ls : Array Slot), out = σ → Ws G σ s.heap H locs → lv_has ls 2 [(0, .ref (gB G + a0))] → W p l e (rmOf 0 0) s m args below meth c H locs 0 0 Q (F0 m 21 ls [])) → W p l e (rmOf 0 0) s m args below meth c H locs 0 0 Q (F0 m 2 ls []) := by
    intro n
    induction n with
    | zero =>
      intro x1 σ H locs ls out hf
      exact (it_0 hf).elim
    | succ n ih =>
      intro x1 σ H locs ls out hf hW hl K2_21
      obtain ⟨x, hf, hx⟩ := it_s hf
      have hf : bX7_begins_2 a0 x1 σ = some x := hf
      delta bX7_begins_2 at hf
      refine lv_iload_n C.1.1 C.1.2.1 dX7_begins_2 rfl (lv_at hl 1 rfl) ?_
      refine lv_bipush (v := 88) C.1.1 C.1.2.1 dX7_begins_3 (by decide) ?_
      refine lv_icmp_ge (tgt := 21) C.1.1 C.1.2.1 dX7_begins_5 (by decide) (fun h9 => ?_) (fun h9 => ?_)
      · replace hf := (if_pos h9).symm.trans hf
        cases hf
        cases hx
        exact K2_21 _ _ _ _ rfl hW (lv_sub hl [0] rfl)
      · replace hf := (if_neg h9).symm.trans hf
        refine lv_aload_n C.1.1 C.1.2.1 dX7_begins_8 rfl (lv_at hl 0 rfl) ?_
        have hk1 := sh7_48 hW hk_a0
        refine gf7_48 C hW hk_a0 w_1078 dX7_begins_9 ?_
        refine lv_iload_n C.1.1 C.1.2.1 dX7_begins_12 rfl (lv_at hl 1 rfl) ?_
        refine lv_iconst (v := 0) C.1.1 C.1.2.1 dX7_begins_13 (by decide) ?_
        obtain ⟨hv2, hf⟩ := gd hf
        refine wsi C hW hk1 (vin_p hv2) dX7_begins_14 (fun H locs hW => ?_)
        refine lv_iinc (v := _) (lv' := [(1, .int _), (0, .ref _)]) C.1.1 C.1.2.1 dX7_begins_15 hl (k := 1) rfl (ii (k := 1) (by decide)) (by decide) rfl (fun ls hl => ?_)
        refine lv_goto (tgt := 2) C.1.1 C.1.2.1 dX7_begins_18 (by decide) ?_
        cases hf
        exact ih _ _ _ _ _ _ hx hW (lv_sub hl [1, 0] rfl) K2_21
  have L23 : ∀ (n : Nat) (x1 : Int32) (σ : Sg) (H : Heap) (locs : List Loc) (ls : Array Slot) (out : (Sg)), iter (fun st => bX7_begins_23 a0 st.1 st.2) n (x1, σ) = some out → Ws G σ s.heap H locs → lv_has ls 2 [(0, .ref (gB G + a0)), (1, .int x1)] → (∀ (σ : Sg) (H : Heap) (locs : List Loc) (ls : Array Slot), out = σ → Ws G σ s.heap H locs → lv_has ls 2 [(0, .ref (gB G + a0))] → W p l e (rmOf 0 0) s m args below meth c H locs 0 0 Q (F0 m 129 ls [])) → W p l e (rmOf 0 0) s m args below meth c H locs 0 0 Q (F0 m 23 ls []) := by
    intro n
    induction n with
    | zero =>
      intro x1 σ H locs ls out hf
      exact (it_0 hf).elim
    | succ n ih =>
      intro x1 σ H locs ls out hf hW hl K23_129
      obtain ⟨x, hf, hx⟩ := it_s hf
      have hf : bX7_begins_23 a0 x1 σ = some x := hf
      delta bX7_begins_23 at hf
      refine lv_iload_n C.1.1 C.1.2.1 dX7_begins_23 rfl (lv_at hl 1 rfl) ?_
      refine lv_aload_n C.1.1 C.1.2.1 dX7_begins_24 rfl (lv_at hl 0 rfl) ?_
      have hk7 := sh7_22 hW hk_a0
      refine gf7_22 C hW hk_a0 w_1052 dX7_begins_25 ?_
      refine lv_aload_n C.1.1 C.1.2.1 dX7_begins_28 rfl (lv_at hl 0 rfl) ?_
      refine gf7_18 C hW hk_a0 w_1048 dX7_begins_29 ?_
      obtain ⟨hv8, hf⟩ := gd hf
      refine wai C hW hk7 (vin_p hv8) dX7_begins_32 ?_
      refine lv_icmp_ge (tgt := 129) C.1.1 C.1.2.1 dX7_begins_33 (by decide) (fun h9 => ?_) (fun h9 => ?_)
      · replace hf := (if_pos h9).symm.trans hf
        cases hf
        cases hx
        exact K23_129 _ _ _ _ rfl hW (lv_sub hl [0] rfl)
      · replace hf := (if_neg h9).symm.trans hf
        refine lv_aload_n C.1.1 C.1.2.1 dX7_begins_36 rfl (lv_at hl 0 rfl) ?_
        have hk9 := sh7_48 hW hk_a0
        refine gf7_48 C hW hk_a0 w_1078 dX7_begins_37 ?_
        refine lv_iload_n C.1.1 C.1.2.1 dX7_begins_40 rfl (lv_at hl 1 rfl) ?_
        refine lv_aload_n C.1.1 C.1.2.1 dX7_begins_41 rfl (lv_at hl 0 rfl) ?_
        have hk10 := sh7_23 hW hk_a0
        refine gf7_23 C hW hk_a0 w_1053 dX7_begins_42 ?_
        refine lv_bipush (v := 8) C.1.1 C.1.2.1 dX7_begins_45 (by decide) ?_
        refine lv_aload_n C.1.1 C.1.2.1 dX7_begins_47 rfl (lv_at hl 0 rfl) ?_
        refine gf7_18 C hW hk_a0 w_1048 dX7_begins_48 ?_
        refine lv_imul C.1.1 C.1.2.1 dX7_begins_51 ?_
        refine lv_iload_n C.1.1 C.1.2.1 dX7_begins_52 rfl (lv_at hl 1 rfl) ?_
        refine lv_iadd C.1.1 C.1.2.1 dX7_begins_53 ?_
        obtain ⟨hv11, hf⟩ := gd hf
        refine wai C hW hk10 (vin_p hv11) dX7_begins_54 ?_
        obtain ⟨hv12, hf⟩ := gd hf
        refine wsi C hW hk9 (vin_p hv12) dX7_begins_55 (fun H locs hW => ?_)
        refine lv_aload_n C.1.1 C.1.2.1 dX7_begins_56 rfl (lv_at hl 0 rfl) ?_
        have hk14 := sh7_48 hW hk_a0
        refine gf7_48 C hW hk_a0 w_1078 dX7_begins_57 ?_
        refine lv_bipush (v := 8) C.1.1 C.1.2.1 dX7_begins_60 (by decide) ?_
        refine lv_iload_n C.1.1 C.1.2.1 dX7_begins_62 rfl (lv_at hl 1 rfl) ?_
        refine lv_iadd C.1.1 C.1.2.1 dX7_begins_63 ?_
        refine lv_aload_n C.1.1 C.1.2.1 dX7_begins_64 rfl (lv_at hl 0 rfl) ?_
        have hk15 := sh7_24 hW hk_a0
        refine gf7_24 C hW hk_a0 w_1054 dX7_begins_65 ?_
        refine lv_bipush (v := 8) C.1.1 C.1.2.1 dX7_begins_68 (by decide) ?_
        refine lv_aload_n C.1.1 C.1.2.1 dX7_begins_70 rfl (lv_at hl 0 rfl) ?_
        refine gf7_18 C hW hk_a0 w_1048 dX7_begins_71 ?_
        refine lv_imul C.1.1 C.1.2.1 dX7_begins_74 ?_
        refine lv_iload_n C.1.1 C.1.2.1 dX7_begins_75 rfl (lv_at hl 1 rfl) ?_
        refine lv_iadd C.1.1 C.1.2.1 dX7_begins_76 ?_
        obtain ⟨hv16, hf⟩ := gd hf
        refine wai C hW hk15 (vin_p hv16) dX7_begins_77 ?_
        obtain ⟨hv17, hf⟩ := gd hf
        refine wsi C hW hk14 (vin_p hv17) dX7_begins_78 (fun H locs hW => ?_)
        refine lv_aload_n C.1.1 C.1.2.1 dX7_begins_79 rfl (lv_at hl 0 rfl) ?_
        have hk19 := sh7_48 hW hk_a0
        refine gf7_48 C hW hk_a0 w_1078 dX7_begins_80 ?_
        refine lv_bipush (v := 16) C.1.1 C.1.2.1 dX7_begins_83 (by decide) ?_
        refine lv_iload_n C.1.1 C.1.2.1 dX7_begins_85 rfl (lv_at hl 1 rfl) ?_
        refine lv_iadd C.1.1 C.1.2.1 dX7_begins_86 ?_
        refine lv_aload_n C.1.1 C.1.2.1 dX7_begins_87 rfl (lv_at hl 0 rfl) ?_
        have hk20 := sh7_25 hW hk_a0
        refine gf7_25 C hW hk_a0 w_1055 dX7_begins_88 ?_
        refine lv_bipush (v := 8) C.1.1 C.1.2.1 dX7_begins_91 (by decide) ?_
        refine lv_aload_n C.1.1 C.1.2.1 dX7_begins_93 rfl (lv_at hl 0 rfl) ?_
        refine gf7_18 C hW hk_a0 w_1048 dX7_begins_94 ?_
        refine lv_imul C.1.1 C.1.2.1 dX7_begins_97 ?_
        refine lv_iload_n C.1.1 C.1.2.1 dX7_begins_98 rfl (lv_at hl 1 rfl) ?_
        refine lv_iadd C.1.1 C.1.2.1 dX7_begins_99 ?_
        obtain ⟨hv21, hf⟩ := gd hf
        refine wai C hW hk20 (vin_p hv21) dX7_begins_100 ?_
        obtain ⟨hv22, hf⟩ := gd hf
        refine wsi C hW hk19 (vin_p hv22) dX7_begins_101 (fun H locs hW => ?_)
        refine lv_aload_n C.1.1 C.1.2.1 dX7_begins_102 rfl (lv_at hl 0 rfl) ?_
        have hk24 := sh7_48 hW hk_a0
        refine gf7_48 C hW hk_a0 w_1078 dX7_begins_103 ?_
        refine lv_bipush (v := 24) C.1.1 C.1.2.1 dX7_begins_106 (by decide) ?_
        refine lv_iload_n C.1.1 C.1.2.1 dX7_begins_108 rfl (lv_at hl 1 rfl) ?_
        refine lv_iadd C.1.1 C.1.2.1 dX7_begins_109 ?_
        refine lv_iload_n C.1.1 C.1.2.1 dX7_begins_110 rfl (lv_at hl 1 rfl) ?_
        obtain ⟨hv25, hf⟩ := gd hf
        refine wsi C hW hk24 (vin_p hv25) dX7_begins_111 (fun H locs hW => ?_)
        refine lv_aload_n C.1.1 C.1.2.1 dX7_begins_112 rfl (lv_at hl 0 rfl) ?_
        have hk27 := sh7_48 hW hk_a0
        refine gf7_48 C hW hk_a0 w_1078 dX7_begins_113 ?_
        refine lv_bipush (v := 64) C.1.1 C.1.2.1 dX7_begins_116 (by decide) ?_
        refine lv_iload_n C.1.1 C.1.2.1 dX7_begins_118 rfl (lv_at hl 1 rfl) ?_
        refine lv_iadd C.1.1 C.1.2.1 dX7_begins_119 ?_
        refine lv_bipush (v := (-2)) C.1.1 C.1.2.1 dX7_begins_120 (by decide) ?_
        obtain ⟨hv28, hf⟩ := gd hf
        refine wsi C hW hk27 (vin_p hv28) dX7_begins_122 (fun H locs hW => ?_)
        refine lv_iinc (v := _) (lv' := [(1, .int _), (0, .ref _)]) C.1.1 C.1.2.1 dX7_begins_123 hl (k := 1) rfl (ii (k := 1) (by decide)) (by decide) rfl (fun ls hl => ?_)
        refine lv_goto (tgt := 23) C.1.1 C.1.2.1 dX7_begins_126 (by decide) ?_
        cases hf
        exact ih _ _ _ _ _ _ hx hW (lv_sub hl [1, 0] rfl) K23_129
  have L131 : ∀ (n : Nat) (x1 : Int32) (σ : Sg) (H : Heap) (locs : List Loc) (ls : Array Slot) (out : (Sg)), iter (fun st => bX7_begins_131 a0 st.1 st.2) n (x1, σ) = some out → Ws G σ s.heap H locs → lv_has ls 2 [(0, .ref (gB G + a0)), (1, .int x1)] → (∀ (σ : Sg) (H : Heap) (locs : List Loc) (ls : Array Slot), out = σ → Ws G σ s.heap H locs → lv_has ls 2 [(0, .ref (gB G + a0))] → W p l e (rmOf 0 0) s m args below meth c H locs 0 0 Q (F0 m 194 ls [])) → W p l e (rmOf 0 0) s m args below meth c H locs 0 0 Q (F0 m 131 ls []) := by
    intro n
    induction n with
    | zero =>
      intro x1 σ H locs ls out hf
      exact (it_0 hf).elim
    | succ n ih =>
      intro x1 σ H locs ls out hf hW hl K131_194
      obtain ⟨x, hf, hx⟩ := it_s hf
      have hf : bX7_begins_131 a0 x1 σ = some x := hf
      delta bX7_begins_131 at hf
      have J176 : ∀ (x1 : Int32) (s0 : Nat) (s1 : Int32) (s2 : Int32) (σ : Sg) (H : Heap) (locs : List Loc) (ls : Array Slot) (hk_s0 : gK G s0 = kA 1 88), jX7_begins_176 a0 x1 s0 s1 s2 σ = some x → Ws G σ s.heap H locs → lv_has ls 2 [(0, .ref (gB G + a0)), (1, .int x1)] → W p l e (rmOf 0 0) s m args below meth c H locs 0 0 Q (F0 m 176 ls [.int s2, .int s1, .ref (gB G + s0)]) := by
        intro x1 s0 s1 s2 σ H locs ls hk_s0 hf hW hl
        delta jX7_begins_176 at hf
        obtain ⟨hv36, hf⟩ := gd hf
        refine wsi C hW hk_s0 (vin_p hv36) dX7_begins_176 (fun H locs hW => ?_)
        refine lv_aload_n C.1.1 C.1.2.1 dX7_begins_177 rfl (lv_at hl 0 rfl) ?_
        have hk38 := sh7_48 hW hk_a0
        refine gf7_48 C hW hk_a0 w_1078 dX7_begins_178 ?_
        refine lv_bipush (v := 78) C.1.1 C.1.2.1 dX7_begins_181 (by decide) ?_
        refine lv_iload_n C.1.1 C.1.2.1 dX7_begins_183 rfl (lv_at hl 1 rfl) ?_
        refine lv_iadd C.1.1 C.1.2.1 dX7_begins_184 ?_
        refine lv_bipush (v := (-2)) C.1.1 C.1.2.1 dX7_begins_185 (by decide) ?_
        obtain ⟨hv39, hf⟩ := gd hf
        refine wsi C hW hk38 (vin_p hv39) dX7_begins_187 (fun H locs hW => ?_)
        refine lv_iinc (v := _) (lv' := [(1, .int _), (0, .ref _)]) C.1.1 C.1.2.1 dX7_begins_188 hl (k := 1) rfl (ii (k := 1) (by decide)) (by decide) rfl (fun ls hl => ?_)
        refine lv_goto (tgt := 131) C.1.1 C.1.2.1 dX7_begins_191 (by decide) ?_
        cases hf
        exact ih _ _ _ _ _ _ hx hW (lv_sub hl [1, 0] rfl) K131_194
      refine lv_iload_n C.1.1 C.1.2.1 dX7_begins_131 rfl (lv_at hl 1 rfl) ?_
      refine lv_bipush (v := 6) C.1.1 C.1.2.1 dX7_begins_132 (by decide) ?_
      refine lv_icmp_ge (tgt := 194) C.1.1 C.1.2.1 dX7_begins_134 (by decide) (fun h9 => ?_) (fun h9 => ?_)
      · replace hf := (if_pos h9).symm.trans hf
        cases hf
        cases hx
        exact K131_194 _ _ _ _ rfl hW (lv_sub hl [0] rfl)
      · replace hf := (if_neg h9).symm.trans hf
        refine lv_aload_n C.1.1 C.1.2.1 dX7_begins_137 rfl (lv_at hl 0 rfl) ?_
        have hk33 := sh7_48 hW hk_a0
        refine gf7_48 C hW hk_a0 w_1078 dX7_begins_138 ?_
        refine lv_bipush (v := 72) C.1.1 C.1.2.1 dX7_begins_141 (by decide) ?_
        refine lv_iload_n C.1.1 C.1.2.1 dX7_begins_143 rfl (lv_at hl 1 rfl) ?_
        refine lv_iadd C.1.1 C.1.2.1 dX7_begins_144 ?_
        refine lv_iload_n C.1.1 C.1.2.1 dX7_begins_145 rfl (lv_at hl 1 rfl) ?_
        refine lv_aload_n C.1.1 C.1.2.1 dX7_begins_146 rfl (lv_at hl 0 rfl) ?_
        have hk34 := sh7_27 hW hk_a0
        refine gf7_27 C hW hk_a0 w_1057 dX7_begins_147 ?_
        refine lv_aload_n C.1.1 C.1.2.1 dX7_begins_150 rfl (lv_at hl 0 rfl) ?_
        refine gf7_18 C hW hk_a0 w_1048 dX7_begins_151 ?_
        obtain ⟨hv35, hf⟩ := gd hf
        refine wai C hW hk34 (vin_p hv35) dX7_begins_154 ?_
        refine lv_icmp_ge (tgt := 175) C.1.1 C.1.2.1 dX7_begins_155 (by decide) (fun h9 => ?_) (fun h9 => ?_)
        · replace hf := (if_pos h9).symm.trans hf
          refine lv_iconst (v := (-1)) C.1.1 C.1.2.1 dX7_begins_175 (by decide) ?_
          exact J176 _ _ _ _ _ _ _ _ hk33 hf hW (lv_sub hl [0, 1] rfl)
        · replace hf := (if_neg h9).symm.trans hf
          refine lv_aload_n C.1.1 C.1.2.1 dX7_begins_158 rfl (lv_at hl 0 rfl) ?_
          have hk42 := sh7_29 hW hk_a0
          refine gf7_29 C hW hk_a0 w_1059 dX7_begins_159 ?_
          refine lv_bipush (v := 6) C.1.1 C.1.2.1 dX7_begins_162 (by decide) ?_
          refine lv_aload_n C.1.1 C.1.2.1 dX7_begins_164 rfl (lv_at hl 0 rfl) ?_
          refine gf7_18 C hW hk_a0 w_1048 dX7_begins_165 ?_
          refine lv_imul C.1.1 C.1.2.1 dX7_begins_168 ?_
          refine lv_iload_n C.1.1 C.1.2.1 dX7_begins_169 rfl (lv_at hl 1 rfl) ?_
          refine lv_iadd C.1.1 C.1.2.1 dX7_begins_170 ?_
          obtain ⟨hv43, hf⟩ := gd hf
          refine wai C hW hk42 (vin_p hv43) dX7_begins_171 ?_
          refine lv_goto (tgt := 176) C.1.1 C.1.2.1 dX7_begins_172 (by decide) ?_
          exact J176 _ _ _ _ _ _ _ _ hk33 hf hW (lv_sub hl [0, 1] rfl)
  refine lv_iconst (v := 0) C.1.1 C.1.2.1 dX7_begins_0 (by decide) ?_
  refine lv_istore_n (lv' := [(1, .int _), (0, .ref _)]) C.1.1 C.1.2.1 dX7_begins_1 rfl hl (by decide) rfl (fun ls hl => ?_)
  obtain ⟨o5, ho, hf⟩ := bd hf
  obtain ⟨n, ho⟩ := lp_it ho
  refine L2 n _ _ _ _ _ o5 ho hW (lv_sub hl [1, 0] rfl) ?_
  intro  σ6 H locs ls e9 hW hl
  subst e9
  try dsimp only at hf
  refine lv_iconst (v := 0) C.1.1 C.1.2.1 dX7_begins_21 (by decide) ?_
  refine lv_istore_n (lv' := [(1, .int _), (0, .ref _)]) C.1.1 C.1.2.1 dX7_begins_22 rfl hl (by decide) rfl (fun ls hl => ?_)
  obtain ⟨o31, ho, hf⟩ := bd hf
  obtain ⟨n, ho⟩ := lp_it ho
  refine L23 n _ _ _ _ _ o31 ho hW (lv_sub hl [1, 0] rfl) ?_
  intro  σ32 H locs ls e9 hW hl
  subst e9
  try dsimp only at hf
  refine lv_iconst (v := 0) C.1.1 C.1.2.1 dX7_begins_129 (by decide) ?_
  refine lv_istore_n (lv' := [(1, .int _), (0, .ref _)]) C.1.1 C.1.2.1 dX7_begins_130 rfl hl (by decide) rfl (fun ls hl => ?_)
  obtain ⟨o44, ho, hf⟩ := bd hf
  obtain ⟨n, ho⟩ := lp_it ho
  refine L131 n _ _ _ _ _ o44 ho hW (lv_sub hl [1, 0] rfl) ?_
  intro  σ45 H locs ls e9 hW hl
  subst e9
  try dsimp only at hf
  refine lv_aload_n C.1.1 C.1.2.1 dX7_begins_194 rfl (lv_at hl 0 rfl) ?_
  refine lv_aload_n C.1.1 C.1.2.1 dX7_begins_195 rfl (lv_at hl 0 rfl) ?_
  have hk46 := sh7_30 hW hk_a0
  refine gf7_30 C hW hk_a0 w_1060 dX7_begins_196 ?_
  refine lv_aload_n C.1.1 C.1.2.1 dX7_begins_199 rfl (lv_at hl 0 rfl) ?_
  refine gf7_18 C hW hk_a0 w_1048 dX7_begins_200 ?_
  obtain ⟨hv47, hf⟩ := gd hf
  refine wai C hW hk46 (vin_p hv47) dX7_begins_203 ?_
  refine pf7_49 C hW hk_a0 w_1079 dX7_begins_204 (fun H locs hW => ?_)
  refine lv_aload_n C.1.1 C.1.2.1 dX7_begins_207 rfl (lv_at hl 0 rfl) ?_
  refine lv_iconst (v := 0) C.1.1 C.1.2.1 dX7_begins_208 (by decide) ?_
  refine pf7_50 C hW hk_a0 w_1080 (Or.inl rfl) dX7_begins_209 (fun H locs hW => ?_)
  refine lv_aload_n C.1.1 C.1.2.1 dX7_begins_212 rfl (lv_at hl 0 rfl) ?_
  refine lv_iconst (v := (-1)) C.1.1 C.1.2.1 dX7_begins_213 (by decide) ?_
  refine pf7_51 C hW hk_a0 w_1081 dX7_begins_214 (fun H locs hW => ?_)
  exact rv hQ C hr hlk hW hf dX7_begins_217
theorem kvX7_keepsRow : KV 7 "RightKeysModel" yX7_keepsRow cX7_keepsRow 2 none 0 := ⟨⟨w_1029, w_45, w_116, w_1030⟩, ⟨rfl, by decide, by decide, by decide +kernel⟩, by decide, rfl⟩
noncomputable def bX7_keepsRow_2 (a0 : Nat) (x1 : Int32) (σ : Sg) : Option ((Int32 × Sg) ⊕ (Sg)) := if (88 : Int32) ≤ x1 then (some (Sum.inr σ)) else (if vin x1 88 then ((let σ4 := wI σ (a0 + 30) ((x1).toNatClampNeg) (σ.1 (a0 + 31) ((x1).toNatClampNeg)); let x1_5 := x1 + (1 : Int32); some (Sum.inl (x1_5, σ4)))) else none)
noncomputable def fX7_keepsRow (a0 : Nat) (σ : Sg) : Option (Sg) := (lp (fun st => bX7_keepsRow_2 a0 st.1 st.2) ((0 : Int32), σ)).bind (fun σ7 => some σ7)
set_option maxRecDepth 100000 in
set_option maxHeartbeats 4000000 in
theorem mX7_keepsRow {l : Launch} {G : Gm} {a0 : Nat} {σ : Sg} {σ' : Sg} (hk_a0 : gK G a0 = 8) (hf : fX7_keepsRow a0 σ = some σ') : Mv l G yX7_keepsRow cX7_keepsRow 2 0 0 [.ref (gB G + a0)] σ σ' := by
  refine of_W "RightKeysModel" rfl (by decide) (Nat.le_of_ble_eq_true rfl) ?_
  intro p e s m args below meth c Q hQ C hr hlk hW ls hl
  have h00 := hW.1
  have hl : lv_has ls 2 [(0, .ref (gB G + a0))] := hl
  delta fX7_keepsRow at hf
  have L2 : ∀ (n : Nat) (x1 : Int32) (σ : Sg) (H : Heap) (locs : List Loc) (ls : Array Slot) (out : (Sg)), iter (fun st => bX7_keepsRow_2 a0 st.1 st.2) n (x1, σ) = some out → Ws G σ s.heap H locs → lv_has ls 2 [(0, .ref (gB G + a0)), (1, .int x1)] → (∀ (σ : Sg) (H : Heap) (locs : List Loc) (ls : Array Slot), out = σ → Ws G σ s.heap H locs → lv_has ls 2 [] → W p l e (rmOf 0 0) s m args below meth c H locs 0 0 Q (F0 m 26 ls [])) → W p l e (rmOf 0 0) s m args below meth c H locs 0 0 Q (F0 m 2 ls []) := by
    intro n
    induction n with
    | zero =>
      intro x1 σ H locs ls out hf
      exact (it_0 hf).elim
    | succ n ih =>
      intro x1 σ H locs ls out hf hW hl K2_26
      obtain ⟨x, hf, hx⟩ := it_s hf
      have hf : bX7_keepsRow_2 a0 x1 σ = some x := hf
      delta bX7_keepsRow_2 at hf
      refine lv_iload_n C.1.1 C.1.2.1 dX7_keepsRow_2 rfl (lv_at hl 1 rfl) ?_
      refine lv_bipush (v := 88) C.1.1 C.1.2.1 dX7_keepsRow_3 (by decide) ?_
      refine lv_icmp_ge (tgt := 26) C.1.1 C.1.2.1 dX7_keepsRow_5 (by decide) (fun h9 => ?_) (fun h9 => ?_)
      · replace hf := (if_pos h9).symm.trans hf
        cases hf
        cases hx
        exact K2_26 _ _ _ _ rfl hW (lv_sub hl [] rfl)
      · replace hf := (if_neg h9).symm.trans hf
        refine lv_aload_n C.1.1 C.1.2.1 dX7_keepsRow_8 rfl (lv_at hl 0 rfl) ?_
        have hk1 := sh7_47 hW hk_a0
        refine gf7_47 C hW hk_a0 w_1077 dX7_keepsRow_9 ?_
        refine lv_iload_n C.1.1 C.1.2.1 dX7_keepsRow_12 rfl (lv_at hl 1 rfl) ?_
        refine lv_aload_n C.1.1 C.1.2.1 dX7_keepsRow_13 rfl (lv_at hl 0 rfl) ?_
        have hk2 := sh7_48 hW hk_a0
        refine gf7_48 C hW hk_a0 w_1078 dX7_keepsRow_14 ?_
        refine lv_iload_n C.1.1 C.1.2.1 dX7_keepsRow_17 rfl (lv_at hl 1 rfl) ?_
        obtain ⟨hv3, hf⟩ := gd hf
        refine wai C hW hk2 (vin_p hv3) dX7_keepsRow_18 ?_
        refine wsi C hW hk1 (vin_p hv3) dX7_keepsRow_19 (fun H locs hW => ?_)
        refine lv_iinc (v := _) (lv' := [(1, .int _), (0, .ref _)]) C.1.1 C.1.2.1 dX7_keepsRow_20 hl (k := 1) rfl (ii (k := 1) (by decide)) (by decide) rfl (fun ls hl => ?_)
        refine lv_goto (tgt := 2) C.1.1 C.1.2.1 dX7_keepsRow_23 (by decide) ?_
        cases hf
        exact ih _ _ _ _ _ _ hx hW (lv_sub hl [1, 0] rfl) K2_26
  refine lv_iconst (v := 0) C.1.1 C.1.2.1 dX7_keepsRow_0 (by decide) ?_
  refine lv_istore_n (lv' := [(1, .int _), (0, .ref _)]) C.1.1 C.1.2.1 dX7_keepsRow_1 rfl hl (by decide) rfl (fun ls hl => ?_)
  obtain ⟨o6, ho, hf⟩ := bd hf
  obtain ⟨n, ho⟩ := lp_it ho
  refine L2 n _ _ _ _ _ o6 ho hW (lv_sub hl [1, 0] rfl) ?_
  intro  σ7 H locs ls e9 hW hl
  subst e9
  try dsimp only at hf
  exact rv hQ C hr hlk hW hf dX7_keepsRow_26
theorem kvX7_bounded : KV 7 "RightKeysModel" yX7_bounded cX7_bounded 4 (some .int) 2 := ⟨⟨w_1305, w_59, w_116, w_1306⟩, ⟨rfl, by decide, by decide, by decide +kernel⟩, by decide, rfl⟩
noncomputable def jX7_bounded_15 (a0 : Nat) (p1 : Int32) (p2 : Int32) (σ : Sg) : Option (Int32 × Sg) := (fX7_fail a0 (1 : Int32) σ).bind (fun σ2 => some (p1, σ2))
noncomputable def jX7_bounded_51 (a0 : Nat) (p1 : Int32) (p2 : Int32) (x3 : Int32) (σ : Sg) : Option (Int32 × Sg) := (fX7_goesOn a0 σ).bind (fun σ20 => some (x3, σ20))
noncomputable def jX7_bounded_42 (a0 : Nat) (p1 : Int32) (p2 : Int32) (x3 : Int32) (σ : Sg) : Option (Int32 × Sg) := (fX7_wrong a0 (5 : Int32) (σ.1 a0 11) σ).bind (fun σ15 => jX7_bounded_51 a0 p1 p2 x3 σ15)
noncomputable def fX7_bounded (a0 : Nat) (p1 : Int32) (p2 : Int32) (σ : Sg) : Option (Int32 × Sg) := if 0 < (σ.1 a0 13) then (jX7_bounded_15 a0 p1 p2 σ) else ((fX7_is a0 (2 : Int32) σ).bind (fun q10 => let r8 := q10.1; let σ7 := q10.2; if r8 = 0 then (jX7_bounded_15 a0 p1 p2 σ7) else (if vin (σ7.1 a0 11) 403 then ((let x3_13 := (σ7.1 (a0 + 5) (((σ7.1 a0 11)).toNatClampNeg)); if x3_13 < p1 then (jX7_bounded_42 a0 p1 p2 x3_13 σ7) else (if x3_13 ≤ p2 then (jX7_bounded_51 a0 p1 p2 x3_13 σ7) else (jX7_bounded_42 a0 p1 p2 x3_13 σ7)))) else none)))
set_option maxRecDepth 100000 in
set_option maxHeartbeats 4000000 in
theorem mX7_bounded {l : Launch} {G : Gm} {a0 : Nat} {p1 : Int32} {p2 : Int32} {σ : Sg} {r : Int32} {σ' : Sg} (hk_a0 : gK G a0 = 8) (hf : fX7_bounded a0 p1 p2 σ = some (r, σ')) : Mi l G yX7_bounded cX7_bounded 4 .int 2 41 [.ref (gB G + a0), .int p1, .int p2] σ r σ' := by
  refine of_W "RightKeysModel" rfl (by decide) (Nat.le_of_ble_eq_true rfl) ?_
  intro p e s m args below meth c Q hQ C hr hlk hW ls hl
  have h00 := hW.1
  have hl : lv_has ls 4 [(0, .ref (gB G + a0)), (1, .int p1), (2, .int p2)] := hl
  delta fX7_bounded at hf
  have J15 : ∀ (σ : Sg) (H : Heap) (locs : List Loc) (ls : Array Slot), jX7_bounded_15 a0 p1 p2 σ = some (r, σ') → Ws G σ s.heap H locs → lv_has ls 4 [(0, .ref (gB G + a0)), (1, .int p1)] → W p l e (rmOf 2 41) s m args below meth c H locs 0 0 Q (F0 m 15 ls []) := by
    intro σ H locs ls hf hW hl
    delta jX7_bounded_15 at hf
    refine lv_aload_n C.1.1 C.1.2.1 dX7_bounded_15 rfl (lv_at hl 0 rfl) ?_
    refine lv_iconst (v := 1) C.1.1 C.1.2.1 dX7_bounded_16 (by decide) ?_
    obtain ⟨σ2, hc1, hf⟩ := bd hf
    try dsimp only at hf
    refine cVv C hW (mX7_fail hk_a0 hc1) hk_a0 kvX7_fail w_1283 ⟨(Nat.le_of_ble_eq_true rfl), (Nat.le_of_ble_eq_true rfl)⟩ ⟨Nat.zero_le _, Nat.zero_le _⟩ rfl hl.1 (rest := []) rfl (Nat.le_of_ble_eq_true rfl) dX7_bounded_17 (fun H locs hW => ?_)
    refine lv_iload_n C.1.1 C.1.2.1 dX7_bounded_20 rfl (lv_at hl 1 rfl) ?_
    exact ri hQ C hr hlk hW hf (rok_i _) dX7_bounded_21
  have J51 : ∀ (x3 : Int32) (σ : Sg) (H : Heap) (locs : List Loc) (ls : Array Slot), jX7_bounded_51 a0 p1 p2 x3 σ = some (r, σ') → Ws G σ s.heap H locs → lv_has ls 4 [(0, .ref (gB G + a0)), (3, .int x3)] → W p l e (rmOf 2 41) s m args below meth c H locs 0 0 Q (F0 m 51 ls []) := by
    intro x3 σ H locs ls hf hW hl
    delta jX7_bounded_51 at hf
    refine lv_aload_n C.1.1 C.1.2.1 dX7_bounded_51 rfl (lv_at hl 0 rfl) ?_
    obtain ⟨σ20, hc19, hf⟩ := bd hf
    try dsimp only at hf
    refine cVv C hW (mX7_goesOn hk_a0 hc19) hk_a0 kvX7_goesOn w_1287 ⟨(Nat.le_of_ble_eq_true rfl), (Nat.le_of_ble_eq_true rfl)⟩ ⟨Nat.zero_le _, Nat.zero_le _⟩ rfl hl.1 (rest := []) rfl (Nat.le_of_ble_eq_true rfl) dX7_bounded_52 (fun H locs hW => ?_)
    refine lv_iload_n C.1.1 C.1.2.1 dX7_bounded_55 rfl (lv_at hl 1 rfl) ?_
    exact ri hQ C hr hlk hW hf (rok_i _) dX7_bounded_56
  have J42 : ∀ (x3 : Int32) (σ : Sg) (H : Heap) (locs : List Loc) (ls : Array Slot), jX7_bounded_42 a0 p1 p2 x3 σ = some (r, σ') → Ws G σ s.heap H locs → lv_has ls 4 [(0, .ref (gB G + a0)), (3, .int x3)] → W p l e (rmOf 2 41) s m args below meth c H locs 0 0 Q (F0 m 42 ls []) := by
    intro x3 σ H locs ls hf hW hl
    delta jX7_bounded_42 at hf
    refine lv_aload_n C.1.1 C.1.2.1 dX7_bounded_42 rfl (lv_at hl 0 rfl) ?_
    refine lv_iconst (v := 5) C.1.1 C.1.2.1 dX7_bounded_43 (by decide) ?_
    refine lv_aload_n C.1.1 C.1.2.1 dX7_bounded_44 rfl (lv_at hl 0 rfl) ?_
    refine gf7_11 C hW hk_a0 w_1041 dX7_bounded_45 ?_
    obtain ⟨σ15, hc14, hf⟩ := bd hf
    try dsimp only at hf
    refine cVv C hW (mX7_wrong hk_a0 hc14) hk_a0 kvX7_wrong w_1299 ⟨(Nat.le_of_ble_eq_true rfl), (Nat.le_of_ble_eq_true rfl)⟩ ⟨Nat.zero_le _, Nat.zero_le _⟩ rfl hl.1 (rest := []) rfl (Nat.le_of_ble_eq_true rfl) dX7_bounded_48 (fun H locs hW => ?_)
    exact J51 _ _ _ _ _ hf hW (lv_sub hl [0, 1] rfl)
  refine lv_aload_n C.1.1 C.1.2.1 dX7_bounded_0 rfl (lv_at hl 0 rfl) ?_
  refine gf7_13 C hW hk_a0 w_1043 dX7_bounded_1 ?_
  refine lv_if_gt (tgt := 15) C.1.1 C.1.2.1 dX7_bounded_4 (by decide) (fun h9 => ?_) (fun h9 => ?_)
  · replace hf := (if_pos h9).symm.trans hf
    exact J15 _ _ _ _ hf hW (lv_sub hl [0, 1] rfl)
  · replace hf := (if_neg h9).symm.trans hf
    refine lv_aload_n C.1.1 C.1.2.1 dX7_bounded_7 rfl (lv_at hl 0 rfl) ?_
    refine lv_iconst (v := 2) C.1.1 C.1.2.1 dX7_bounded_8 (by decide) ?_
    obtain ⟨⟨r8, σ7⟩, hc6, hf⟩ := bd hf
    try dsimp only at hf
    refine cVi C hW (mX7_is hk_a0 hc6) hk_a0 kvX7_is w_1271 ⟨(Nat.le_of_ble_eq_true rfl), (Nat.le_of_ble_eq_true rfl)⟩ ⟨Nat.zero_le _, Nat.zero_le _⟩ rfl hl.1 (rest := []) rfl (Nat.le_of_ble_eq_true rfl) dX7_bounded_9 (fun H locs hn9 hW => ?_)
    refine lv_if_ne (tgt := 22) C.1.1 C.1.2.1 dX7_bounded_12 (by decide) (fun h9 => ?_) (fun h9 => ?_)
    · replace hf := (if_neg h9).symm.trans hf
      refine lv_aload_n C.1.1 C.1.2.1 dX7_bounded_22 rfl (lv_at hl 0 rfl) ?_
      have hk11 := sh7_7 hW hk_a0
      refine gf7_7 C hW hk_a0 w_1037 dX7_bounded_23 ?_
      refine lv_aload_n C.1.1 C.1.2.1 dX7_bounded_26 rfl (lv_at hl 0 rfl) ?_
      refine gf7_11 C hW hk_a0 w_1041 dX7_bounded_27 ?_
      obtain ⟨hv12, hf⟩ := gd hf
      refine wai C hW hk11 (vin_p hv12) dX7_bounded_30 ?_
      refine lv_istore_n (lv' := [(3, .int _), (0, .ref _), (1, .int _), (2, .int _)]) C.1.1 C.1.2.1 dX7_bounded_31 rfl hl (by decide) rfl (fun ls hl => ?_)
      refine lv_iload_n C.1.1 C.1.2.1 dX7_bounded_32 rfl (lv_at hl 0 rfl) ?_
      refine lv_iload_n C.1.1 C.1.2.1 dX7_bounded_33 rfl (lv_at hl 2 rfl) ?_
      refine lv_icmp_lt (tgt := 42) C.1.1 C.1.2.1 dX7_bounded_34 (by decide) (fun h9 => ?_) (fun h9 => ?_)
      · replace hf := (if_pos h9).symm.trans hf
        exact J42 _ _ _ _ _ hf hW (lv_sub hl [1, 0] rfl)
      · replace hf := (if_neg h9).symm.trans hf
        refine lv_iload_n C.1.1 C.1.2.1 dX7_bounded_37 rfl (lv_at hl 0 rfl) ?_
        refine lv_iload_n C.1.1 C.1.2.1 dX7_bounded_38 rfl (lv_at hl 3 rfl) ?_
        refine lv_icmp_le (tgt := 51) C.1.1 C.1.2.1 dX7_bounded_39 (by decide) (fun h9 => ?_) (fun h9 => ?_)
        · replace hf := (if_pos h9).symm.trans hf
          exact J51 _ _ _ _ _ hf hW (lv_sub hl [1, 0] rfl)
        · replace hf := (if_neg h9).symm.trans hf
          exact J42 _ _ _ _ _ hf hW (lv_sub hl [1, 0] rfl)
    · replace hf := (if_pos h9).symm.trans hf
      exact J15 _ _ _ _ hf hW (lv_sub hl [0, 1] rfl)
theorem kvX7_known : KV 7 "RightKeysModel" yX7_known cX7_known 3 (some .int) 0 := ⟨⟨w_1313, w_61, w_116, w_1314⟩, ⟨rfl, by decide, by decide, by decide +kernel⟩, by decide, rfl⟩
noncomputable def bX7_known_21 (a0 : Nat) (x1 : Int32) (x2 : Int32) (σ : Sg) : Option ((Int32 × Sg) ⊕ ((Int32 × Sg) ⊕ (Sg))) := if (σ.1 a0 20) ≤ x2 then (some (Sum.inr (Sum.inr σ))) else (if vin x2 8 then (if vin x1 403 then (if (lg_cmp (σ.2.1 (a0 + 8) ((x2).toNatClampNeg)) (σ.2.1 (a0 + 6) ((x1).toNatClampNeg))) = 0 then (some (Sum.inr (Sum.inl (x2, σ)))) else ((let x2_11 := x2 + (1 : Int32); some (Sum.inl (x2_11, σ))))) else none) else none)
noncomputable def fX7_known (a0 : Nat) (σ : Sg) : Option (Int32 × Sg) := (let x1_1 := (σ.1 a0 11); (fX7_must a0 (1 : Int32) σ).bind (fun σ3 => if (σ3.1 a0 13) ≤ 0 then ((lp (fun st => bX7_known_21 a0 x1_1 st.1 st.2) ((0 : Int32), σ3)).bind (fun o12 => Sum.elim (fun q15 => let y14 := q15.1; let σ13 := q15.2;  some (y14, σ13)) (fun o12_ => (fun σ16 => (fX7_wrong a0 (4 : Int32) x1_1 σ16).bind (fun σ18 => some ((-1 : Int32), σ18))) o12_) o12)) else (some ((-1 : Int32), σ3))))
set_option maxRecDepth 100000 in
set_option maxHeartbeats 4000000 in
theorem mX7_known {l : Launch} {G : Gm} {a0 : Nat} {σ : Sg} {r : Int32} {σ' : Sg} (hk_a0 : gK G a0 = 8) (hf : fX7_known a0 σ = some (r, σ')) : Mi l G yX7_known cX7_known 3 .int 3 62 [.ref (gB G + a0)] σ r σ' := by
  refine of_W "RightKeysModel" rfl (by decide) (Nat.le_of_ble_eq_true rfl) ?_
  intro p e s m args below meth c Q hQ C hr hlk hW ls hl
  have h00 := hW.1
  have hl : lv_has ls 3 [(0, .ref (gB G + a0))] := hl
  delta fX7_known at hf
  have L21 : ∀ (x1 : Int32) (n : Nat) (x2 : Int32) (σ : Sg) (H : Heap) (locs : List Loc) (ls : Array Slot) (out : ((Int32 × Sg) ⊕ (Sg))), iter (fun st => bX7_known_21 a0 x1 st.1 st.2) n (x2, σ) = some out → Ws G σ s.heap H locs → lv_has ls 3 [(0, .ref (gB G + a0)), (1, .int x1), (2, .int x2)] → (∀ (y2 : Int32) (σ : Sg) (H : Heap) (locs : List Loc) (ls : Array Slot), out = (Sum.inl (y2, σ)) → Ws G σ s.heap H locs → lv_has ls 3 [(2, .int y2)] → W p l e (rmOf 3 62) s m args below meth c H locs 0 0 Q (F0 m 45 ls [])) → (∀ (σ : Sg) (H : Heap) (locs : List Loc) (ls : Array Slot), out = (Sum.inr σ) → Ws G σ s.heap H locs → lv_has ls 3 [(0, .ref (gB G + a0)), (1, .int x1)] → W p l e (rmOf 3 62) s m args below meth c H locs 0 0 Q (F0 m 53 ls [])) → W p l e (rmOf 3 62) s m args below meth c H locs 0 0 Q (F0 m 21 ls []) := by
    intro x1 n
    induction n with
    | zero =>
      intro x2 σ H locs ls out hf
      exact (it_0 hf).elim
    | succ n ih =>
      intro x2 σ H locs ls out hf hW hl K21_45 K21_53
      obtain ⟨x, hf, hx⟩ := it_s hf
      have hf : bX7_known_21 a0 x1 x2 σ = some x := hf
      delta bX7_known_21 at hf
      refine lv_iload_n C.1.1 C.1.2.1 dX7_known_21 rfl (lv_at hl 2 rfl) ?_
      refine lv_aload_n C.1.1 C.1.2.1 dX7_known_22 rfl (lv_at hl 0 rfl) ?_
      refine gf7_20 C hW hk_a0 w_1050 dX7_known_23 ?_
      refine lv_icmp_ge (tgt := 53) C.1.1 C.1.2.1 dX7_known_26 (by decide) (fun h9 => ?_) (fun h9 => ?_)
      · replace hf := (if_pos h9).symm.trans hf
        cases hf
        cases hx
        exact K21_53 _ _ _ _ rfl hW (lv_sub hl [0, 1] rfl)
      · replace hf := (if_neg h9).symm.trans hf
        refine lv_aload_n C.1.1 C.1.2.1 dX7_known_29 rfl (lv_at hl 0 rfl) ?_
        have hk7 := sh7_21 hW hk_a0
        refine gf7_21 C hW hk_a0 w_1051 dX7_known_30 ?_
        refine lv_iload_n C.1.1 C.1.2.1 dX7_known_33 rfl (lv_at hl 2 rfl) ?_
        obtain ⟨hv8, hf⟩ := gd hf
        refine wal C hW hk7 (vin_p hv8) dX7_known_34 ?_
        refine lv_aload_n C.1.1 C.1.2.1 dX7_known_35 rfl (lv_at hl 0 rfl) ?_
        have hk9 := sh7_8 hW hk_a0
        refine gf7_8 C hW hk_a0 w_1038 dX7_known_36 ?_
        refine lv_iload_n C.1.1 C.1.2.1 dX7_known_39 rfl (lv_at hl 1 rfl) ?_
        obtain ⟨hv10, hf⟩ := gd hf
        refine wal C hW hk9 (vin_p hv10) dX7_known_40 ?_
        refine W.lcmp C.1.1 C.1.2.1 dX7_known_41 ?_
        refine lv_if_ne (tgt := 47) C.1.1 C.1.2.1 dX7_known_42 (by decide) (fun h9 => ?_) (fun h9 => ?_)
        · replace hf := (if_neg h9).symm.trans hf
          refine lv_iinc (v := _) (lv' := [(2, .int _), (0, .ref _), (1, .int _)]) C.1.1 C.1.2.1 dX7_known_47 hl (k := 2) rfl (ii (k := 1) (by decide)) (by decide) rfl (fun ls hl => ?_)
          refine lv_goto (tgt := 21) C.1.1 C.1.2.1 dX7_known_50 (by decide) ?_
          cases hf
          exact ih _ _ _ _ _ _ hx hW (lv_sub hl [1, 2, 0] rfl) K21_45 K21_53
        · replace hf := (if_pos h9).symm.trans hf
          cases hf
          cases hx
          exact K21_45 _ _ _ _ _ rfl hW (lv_sub hl [2] rfl)
  refine lv_aload_n C.1.1 C.1.2.1 dX7_known_0 rfl (lv_at hl 0 rfl) ?_
  refine gf7_11 C hW hk_a0 w_1041 dX7_known_1 ?_
  refine lv_istore_n (lv' := [(1, .int _), (0, .ref _)]) C.1.1 C.1.2.1 dX7_known_4 rfl hl (by decide) rfl (fun ls hl => ?_)
  refine lv_aload_n C.1.1 C.1.2.1 dX7_known_5 rfl (lv_at hl 1 rfl) ?_
  refine lv_iconst (v := 1) C.1.1 C.1.2.1 dX7_known_6 (by decide) ?_
  obtain ⟨σ3, hc2, hf⟩ := bd hf
  try dsimp only at hf
  refine cVv C hW (mX7_must hk_a0 hc2) hk_a0 kvX7_must w_1295 ⟨(Nat.le_of_ble_eq_true rfl), (Nat.le_of_ble_eq_true rfl)⟩ ⟨Nat.zero_le _, Nat.zero_le _⟩ rfl hl.1 (rest := []) rfl (Nat.le_of_ble_eq_true rfl) dX7_known_7 (fun H locs hW => ?_)
  refine lv_aload_n C.1.1 C.1.2.1 dX7_known_10 rfl (lv_at hl 1 rfl) ?_
  refine gf7_13 C hW hk_a0 w_1043 dX7_known_11 ?_
  refine lv_if_le (tgt := 19) C.1.1 C.1.2.1 dX7_known_14 (by decide) (fun h9 => ?_) (fun h9 => ?_)
  · replace hf := (if_pos h9).symm.trans hf
    refine lv_iconst (v := 0) C.1.1 C.1.2.1 dX7_known_19 (by decide) ?_
    refine lv_istore_n (lv' := [(2, .int _), (1, .int _), (0, .ref _)]) C.1.1 C.1.2.1 dX7_known_20 rfl hl (by decide) rfl (fun ls hl => ?_)
    obtain ⟨o12, ho, hf⟩ := bd hf
    obtain ⟨n, ho⟩ := lp_it ho
    refine L21 _ n _ _ _ _ _ o12 ho hW (lv_sub hl [2, 1, 0] rfl) ?_ ?_
    · intro y14 σ13 H locs ls e9 hW hl
      subst e9
      try dsimp only at hf
      refine lv_iload_n C.1.1 C.1.2.1 dX7_known_45 rfl (lv_at hl 0 rfl) ?_
      exact ri hQ C hr hlk hW hf (rok_i _) dX7_known_46
    · intro  σ16 H locs ls e9 hW hl
      subst e9
      try dsimp only at hf
      refine lv_aload_n C.1.1 C.1.2.1 dX7_known_53 rfl (lv_at hl 0 rfl) ?_
      refine lv_iconst (v := 4) C.1.1 C.1.2.1 dX7_known_54 (by decide) ?_
      refine lv_iload_n C.1.1 C.1.2.1 dX7_known_55 rfl (lv_at hl 1 rfl) ?_
      obtain ⟨σ18, hc17, hf⟩ := bd hf
      try dsimp only at hf
      refine cVv C hW (mX7_wrong hk_a0 hc17) hk_a0 kvX7_wrong w_1299 ⟨(Nat.le_of_ble_eq_true rfl), (Nat.le_of_ble_eq_true rfl)⟩ ⟨Nat.zero_le _, Nat.zero_le _⟩ rfl hl.1 (rest := []) rfl (Nat.le_of_ble_eq_true rfl) dX7_known_56 (fun H locs hW => ?_)
      refine lv_iconst (v := (-1)) C.1.1 C.1.2.1 dX7_known_59 (by decide) ?_
      exact ri hQ C hr hlk hW hf (rok_i _) dX7_known_60
  · replace hf := (if_neg h9).symm.trans hf
    refine lv_iconst (v := (-1)) C.1.1 C.1.2.1 dX7_known_17 (by decide) ?_
    exact ri hQ C hr hlk hW hf (rok_i _) dX7_known_18
theorem kvX7_roomFor : KV 7 "RightKeysModel" yX7_roomFor cX7_roomFor 3 none 2 := ⟨⟨w_1281, w_53, w_116, w_1282⟩, ⟨rfl, by decide, by decide, by decide +kernel⟩, by decide, rfl⟩
noncomputable def jX7_roomFor_10 (a0 : Nat) (p1 : Int32) (p2 : Int32) (σ : Sg) : Option (Sg) := if (σ.1 a0 13) = 0 then ((fX7_goesOn a0 σ).bind (fun σ2 => some σ2)) else (some σ)
noncomputable def fX7_roomFor (a0 : Nat) (p1 : Int32) (p2 : Int32) (σ : Sg) : Option (Sg) := if p1 = p2 then ((fX7_fail a0 (2 : Int32) σ).bind (fun σ7 => jX7_roomFor_10 a0 p1 p2 σ7)) else (jX7_roomFor_10 a0 p1 p2 σ)
set_option maxRecDepth 100000 in
set_option maxHeartbeats 4000000 in
theorem mX7_roomFor {l : Launch} {G : Gm} {a0 : Nat} {p1 : Int32} {p2 : Int32} {σ : Sg} {σ' : Sg} (hk_a0 : gK G a0 = 8) (hf : fX7_roomFor a0 p1 p2 σ = some σ') : Mv l G yX7_roomFor cX7_roomFor 3 2 41 [.ref (gB G + a0), .int p1, .int p2] σ σ' := by
  refine of_W "RightKeysModel" rfl (by decide) (Nat.le_of_ble_eq_true rfl) ?_
  intro p e s m args below meth c Q hQ C hr hlk hW ls hl
  have h00 := hW.1
  have hl : lv_has ls 3 [(0, .ref (gB G + a0)), (1, .int p1), (2, .int p2)] := hl
  delta fX7_roomFor at hf
  have J10 : ∀ (σ : Sg) (H : Heap) (locs : List Loc) (ls : Array Slot), jX7_roomFor_10 a0 p1 p2 σ = some σ' → Ws G σ s.heap H locs → lv_has ls 3 [(0, .ref (gB G + a0))] → W p l e (rmOf 2 41) s m args below meth c H locs 0 0 Q (F0 m 10 ls []) := by
    intro σ H locs ls hf hW hl
    delta jX7_roomFor_10 at hf
    refine lv_aload_n C.1.1 C.1.2.1 dX7_roomFor_10 rfl (lv_at hl 0 rfl) ?_
    refine gf7_13 C hW hk_a0 w_1043 dX7_roomFor_11 ?_
    refine lv_if_ne (tgt := 21) C.1.1 C.1.2.1 dX7_roomFor_14 (by decide) (fun h9 => ?_) (fun h9 => ?_)
    · replace hf := (if_neg h9).symm.trans hf
      exact rv hQ C hr hlk hW hf dX7_roomFor_21
    · replace hf := (if_pos h9).symm.trans hf
      refine lv_aload_n C.1.1 C.1.2.1 dX7_roomFor_17 rfl (lv_at hl 0 rfl) ?_
      obtain ⟨σ2, hc1, hf⟩ := bd hf
      try dsimp only at hf
      refine cVv C hW (mX7_goesOn hk_a0 hc1) hk_a0 kvX7_goesOn w_1287 ⟨(Nat.le_of_ble_eq_true rfl), (Nat.le_of_ble_eq_true rfl)⟩ ⟨Nat.zero_le _, Nat.zero_le _⟩ rfl hl.1 (rest := []) rfl (Nat.le_of_ble_eq_true rfl) dX7_roomFor_18 (fun H locs hW => ?_)
      exact rv hQ C hr hlk hW hf dX7_roomFor_21
  refine lv_iload_n C.1.1 C.1.2.1 dX7_roomFor_0 rfl (lv_at hl 1 rfl) ?_
  refine lv_iload_n C.1.1 C.1.2.1 dX7_roomFor_1 rfl (lv_at hl 2 rfl) ?_
  refine lv_icmp_ne (tgt := 10) C.1.1 C.1.2.1 dX7_roomFor_2 (by decide) (fun h9 => ?_) (fun h9 => ?_)
  · replace hf := (if_neg h9).symm.trans hf
    exact J10 _ _ _ _ hf hW (lv_sub hl [0] rfl)
  · replace hf := (if_pos h9).symm.trans hf
    refine lv_aload_n C.1.1 C.1.2.1 dX7_roomFor_5 rfl (lv_at hl 0 rfl) ?_
    refine lv_iconst (v := 2) C.1.1 C.1.2.1 dX7_roomFor_6 (by decide) ?_
    obtain ⟨σ7, hc6, hf⟩ := bd hf
    try dsimp only at hf
    refine cVv C hW (mX7_fail hk_a0 hc6) hk_a0 kvX7_fail w_1283 ⟨(Nat.le_of_ble_eq_true rfl), (Nat.le_of_ble_eq_true rfl)⟩ ⟨Nat.zero_le _, Nat.zero_le _⟩ rfl hl.1 (rest := []) rfl (Nat.le_of_ble_eq_true rfl) dX7_roomFor_7 (fun H locs hW => ?_)
    exact J10 _ _ _ _ hf hW (lv_sub hl [0] rfl)
theorem kvX7_tellHouse : KV 7 "RightKeysModel" yX7_tellHouse cX7_tellHouse 4 none 0 := ⟨⟨w_1293, w_56, w_116, w_1294⟩, ⟨rfl, by decide, by decide, by decide +kernel⟩, by decide, rfl⟩
noncomputable def jX7_tellHouse_67 (a0 : Nat) (x1 : Int32) (x2 : Int32) (x3 : Int32) (σ : Sg) : Option ((Int32 × Sg) ⊕ (Sg)) := (let x3_14 := x3 + (1 : Int32); some (Sum.inl (x3_14, σ)))
noncomputable def bX7_tellHouse_30 (a0 : Nat) (x1 : Int32) (x2 : Int32) (x3 : Int32) (σ : Sg) : Option ((Int32 × Sg) ⊕ (Sg)) := if (σ.1 a0 20) ≤ x3 then (some (Sum.inr σ)) else (if (σ.1 a0 13) = 0 then (if vin x3 8 then (if vin x2 403 then (if (lg_cmp (σ.2.1 (a0 + 8) ((x3).toNatClampNeg)) (σ.2.1 (a0 + 6) ((x2).toNatClampNeg))) = 0 then ((fX7_wrong a0 (3 : Int32) x2 σ).bind (fun σ16 => jX7_tellHouse_67 a0 x1 x2 x3 σ16)) else (jX7_tellHouse_67 a0 x1 x2 x3 σ)) else none) else none) else (some (Sum.inr σ)))
noncomputable def fX7_tellHouse (a0 : Nat) (σ : Sg) : Option (Sg) := if vin (σ.1 a0 19) 2 then ((let x1_3 := (((8 : Int32) * (σ.1 a0 19)) + (σ.1 (a0 + 9) (((σ.1 a0 19)).toNatClampNeg))); let x2_4 := (σ.1 a0 11); (fX7_must a0 (1 : Int32) σ).bind (fun σ6 => (lp (fun st => bX7_tellHouse_30 a0 x1_3 x2_4 st.1 st.2) ((0 : Int32), σ6)).bind (fun σ21 => (fX7_bounded a0 (0 : Int32) (23 : Int32) σ21).bind (fun q27 => let r25 := q27.1; let σ24 := q27.2; if vin x1_3 16 then (let σ29 := wI σ24 (a0 + 10) ((x1_3).toNatClampNeg) r25; (fX7_bounded a0 (0 : Int32) (23 : Int32) σ29).bind (fun q35 => let r33 := q35.1; let σ32 := q35.2; (let σ36 := wI σ32 (a0 + 11) ((x1_3).toNatClampNeg) r33; (fX7_bounded a0 (0 : Int32) (9 : Int32) σ36).bind (fun q42 => let r40 := q42.1; let σ39 := q42.2; (let σ43 := wI σ39 (a0 + 12) ((x1_3).toNatClampNeg) r40; (fX7_must a0 (4 : Int32) σ43).bind (fun σ45 => if (σ45.1 a0 13) ≤ 0 then (if vin x2_4 403 then (if vin (σ45.1 a0 20) 8 then (let σ53 := wJ σ45 (a0 + 8) (((σ45.1 a0 20)).toNatClampNeg) (σ45.2.1 (a0 + 6) ((x2_4).toNatClampNeg)); (let σ54 := wI σ53 a0 20 ((σ53.1 a0 20) + (1 : Int32)); if vin (σ54.1 a0 19) 2 then ((let σ57 := wI σ54 (a0 + 9) (((σ54.1 a0 19)).toNatClampNeg) ((σ54.1 (a0 + 9) (((σ54.1 a0 19)).toNatClampNeg)) + (1 : Int32)); some σ57)) else none)) else none) else none) else (some σ45))))))) else none))))) else none
set_option maxRecDepth 100000 in
set_option maxHeartbeats 4000000 in
theorem mX7_tellHouse {l : Launch} {G : Gm} {a0 : Nat} {σ : Sg} {σ' : Sg} (hk_a0 : gK G a0 = 8) (hf : fX7_tellHouse a0 σ = some σ') : Mv l G yX7_tellHouse cX7_tellHouse 4 3 64 [.ref (gB G + a0)] σ σ' := by
  refine of_W "RightKeysModel" rfl (by decide) (Nat.le_of_ble_eq_true rfl) ?_
  intro p e s m args below meth c Q hQ C hr hlk hW ls hl
  have h00 := hW.1
  have hl : lv_has ls 4 [(0, .ref (gB G + a0))] := hl
  delta fX7_tellHouse at hf
  have L30 : ∀ (x1 : Int32) (x2 : Int32) (n : Nat) (x3 : Int32) (σ : Sg) (H : Heap) (locs : List Loc) (ls : Array Slot) (out : (Sg)), iter (fun st => bX7_tellHouse_30 a0 x1 x2 st.1 st.2) n (x3, σ) = some out → Ws G σ s.heap H locs → lv_has ls 4 [(0, .ref (gB G + a0)), (1, .int x1), (2, .int x2), (3, .int x3)] → (∀ (σ : Sg) (H : Heap) (locs : List Loc) (ls : Array Slot), out = σ → Ws G σ s.heap H locs → lv_has ls 4 [(0, .ref (gB G + a0)), (1, .int x1), (2, .int x2)] → W p l e (rmOf 3 64) s m args below meth c H locs 0 0 Q (F0 m 73 ls [])) → W p l e (rmOf 3 64) s m args below meth c H locs 0 0 Q (F0 m 30 ls []) := by
    intro x1 x2 n
    induction n with
    | zero =>
      intro x3 σ H locs ls out hf
      exact (it_0 hf).elim
    | succ n ih =>
      intro x3 σ H locs ls out hf hW hl K30_73
      obtain ⟨x, hf, hx⟩ := it_s hf
      have hf : bX7_tellHouse_30 a0 x1 x2 x3 σ = some x := hf
      delta bX7_tellHouse_30 at hf
      have J67 : ∀ (x3 : Int32) (σ : Sg) (H : Heap) (locs : List Loc) (ls : Array Slot), jX7_tellHouse_67 a0 x1 x2 x3 σ = some x → Ws G σ s.heap H locs → lv_has ls 4 [(0, .ref (gB G + a0)), (1, .int x1), (2, .int x2), (3, .int x3)] → W p l e (rmOf 3 64) s m args below meth c H locs 0 0 Q (F0 m 67 ls []) := by
        intro x3 σ H locs ls hf hW hl
        delta jX7_tellHouse_67 at hf
        refine lv_iinc (v := _) (lv' := [(3, .int _), (0, .ref _), (1, .int _), (2, .int _)]) C.1.1 C.1.2.1 dX7_tellHouse_67 hl (k := 3) rfl (ii (k := 1) (by decide)) (by decide) rfl (fun ls hl => ?_)
        refine lv_goto (tgt := 30) C.1.1 C.1.2.1 dX7_tellHouse_70 (by decide) ?_
        cases hf
        exact ih _ _ _ _ _ _ hx hW (lv_sub hl [1, 2, 3, 0] rfl) K30_73
      refine lv_iload_n C.1.1 C.1.2.1 dX7_tellHouse_30 rfl (lv_at hl 3 rfl) ?_
      refine lv_aload_n C.1.1 C.1.2.1 dX7_tellHouse_31 rfl (lv_at hl 0 rfl) ?_
      refine gf7_20 C hW hk_a0 w_1050 dX7_tellHouse_32 ?_
      refine lv_icmp_ge (tgt := 73) C.1.1 C.1.2.1 dX7_tellHouse_35 (by decide) (fun h9 => ?_) (fun h9 => ?_)
      · replace hf := (if_pos h9).symm.trans hf
        cases hf
        cases hx
        exact K30_73 _ _ _ _ rfl hW (lv_sub hl [0, 1, 2] rfl)
      · replace hf := (if_neg h9).symm.trans hf
        refine lv_aload_n C.1.1 C.1.2.1 dX7_tellHouse_38 rfl (lv_at hl 0 rfl) ?_
        refine gf7_13 C hW hk_a0 w_1043 dX7_tellHouse_39 ?_
        refine lv_if_ne (tgt := 73) C.1.1 C.1.2.1 dX7_tellHouse_42 (by decide) (fun h9 => ?_) (fun h9 => ?_)
        · replace hf := (if_neg h9).symm.trans hf
          cases hf
          cases hx
          exact K30_73 _ _ _ _ rfl hW (lv_sub hl [0, 1, 2] rfl)
        · replace hf := (if_pos h9).symm.trans hf
          refine lv_aload_n C.1.1 C.1.2.1 dX7_tellHouse_45 rfl (lv_at hl 0 rfl) ?_
          have hk10 := sh7_21 hW hk_a0
          refine gf7_21 C hW hk_a0 w_1051 dX7_tellHouse_46 ?_
          refine lv_iload_n C.1.1 C.1.2.1 dX7_tellHouse_49 rfl (lv_at hl 3 rfl) ?_
          obtain ⟨hv11, hf⟩ := gd hf
          refine wal C hW hk10 (vin_p hv11) dX7_tellHouse_50 ?_
          refine lv_aload_n C.1.1 C.1.2.1 dX7_tellHouse_51 rfl (lv_at hl 0 rfl) ?_
          have hk12 := sh7_8 hW hk_a0
          refine gf7_8 C hW hk_a0 w_1038 dX7_tellHouse_52 ?_
          refine lv_iload_n C.1.1 C.1.2.1 dX7_tellHouse_55 rfl (lv_at hl 2 rfl) ?_
          obtain ⟨hv13, hf⟩ := gd hf
          refine wal C hW hk12 (vin_p hv13) dX7_tellHouse_56 ?_
          refine W.lcmp C.1.1 C.1.2.1 dX7_tellHouse_57 ?_
          refine lv_if_ne (tgt := 67) C.1.1 C.1.2.1 dX7_tellHouse_58 (by decide) (fun h9 => ?_) (fun h9 => ?_)
          · replace hf := (if_neg h9).symm.trans hf
            exact J67 _ _ _ _ _ hf hW (lv_sub hl [0, 1, 2, 3] rfl)
          · replace hf := (if_pos h9).symm.trans hf
            refine lv_aload_n C.1.1 C.1.2.1 dX7_tellHouse_61 rfl (lv_at hl 0 rfl) ?_
            refine lv_iconst (v := 3) C.1.1 C.1.2.1 dX7_tellHouse_62 (by decide) ?_
            refine lv_iload_n C.1.1 C.1.2.1 dX7_tellHouse_63 rfl (lv_at hl 2 rfl) ?_
            obtain ⟨σ16, hc15, hf⟩ := bd hf
            try dsimp only at hf
            refine cVv C hW (mX7_wrong hk_a0 hc15) hk_a0 kvX7_wrong w_1299 ⟨(Nat.le_of_ble_eq_true rfl), (Nat.le_of_ble_eq_true rfl)⟩ ⟨Nat.zero_le _, Nat.zero_le _⟩ rfl hl.1 (rest := []) rfl (Nat.le_of_ble_eq_true rfl) dX7_tellHouse_64 (fun H locs hW => ?_)
            exact J67 _ _ _ _ _ hf hW (lv_sub hl [0, 1, 2, 3] rfl)
  refine lv_bipush (v := 8) C.1.1 C.1.2.1 dX7_tellHouse_0 (by decide) ?_
  refine lv_aload_n C.1.1 C.1.2.1 dX7_tellHouse_2 rfl (lv_at hl 0 rfl) ?_
  refine gf7_19 C hW hk_a0 w_1049 dX7_tellHouse_3 ?_
  refine lv_imul C.1.1 C.1.2.1 dX7_tellHouse_6 ?_
  refine lv_aload_n C.1.1 C.1.2.1 dX7_tellHouse_7 rfl (lv_at hl 0 rfl) ?_
  have hk1 := sh7_22 hW hk_a0
  refine gf7_22 C hW hk_a0 w_1052 dX7_tellHouse_8 ?_
  refine lv_aload_n C.1.1 C.1.2.1 dX7_tellHouse_11 rfl (lv_at hl 0 rfl) ?_
  refine gf7_19 C hW hk_a0 w_1049 dX7_tellHouse_12 ?_
  obtain ⟨hv2, hf⟩ := gd hf
  refine wai C hW hk1 (vin_p hv2) dX7_tellHouse_15 ?_
  refine lv_iadd C.1.1 C.1.2.1 dX7_tellHouse_16 ?_
  refine lv_istore_n (lv' := [(1, .int _), (0, .ref _)]) C.1.1 C.1.2.1 dX7_tellHouse_17 rfl hl (by decide) rfl (fun ls hl => ?_)
  refine lv_aload_n C.1.1 C.1.2.1 dX7_tellHouse_18 rfl (lv_at hl 1 rfl) ?_
  refine gf7_11 C hW hk_a0 w_1041 dX7_tellHouse_19 ?_
  refine lv_istore_n (lv' := [(2, .int _), (1, .int _), (0, .ref _)]) C.1.1 C.1.2.1 dX7_tellHouse_22 rfl hl (by decide) rfl (fun ls hl => ?_)
  refine lv_aload_n C.1.1 C.1.2.1 dX7_tellHouse_23 rfl (lv_at hl 2 rfl) ?_
  refine lv_iconst (v := 1) C.1.1 C.1.2.1 dX7_tellHouse_24 (by decide) ?_
  obtain ⟨σ6, hc5, hf⟩ := bd hf
  try dsimp only at hf
  refine cVv C hW (mX7_must hk_a0 hc5) hk_a0 kvX7_must w_1295 ⟨(Nat.le_of_ble_eq_true rfl), (Nat.le_of_ble_eq_true rfl)⟩ ⟨Nat.zero_le _, Nat.zero_le _⟩ rfl hl.1 (rest := []) rfl (Nat.le_of_ble_eq_true rfl) dX7_tellHouse_25 (fun H locs hW => ?_)
  refine lv_iconst (v := 0) C.1.1 C.1.2.1 dX7_tellHouse_28 (by decide) ?_
  refine lv_istore_n (lv' := [(3, .int _), (2, .int _), (1, .int _), (0, .ref _)]) C.1.1 C.1.2.1 dX7_tellHouse_29 rfl hl (by decide) rfl (fun ls hl => ?_)
  obtain ⟨o20, ho, hf⟩ := bd hf
  obtain ⟨n, ho⟩ := lp_it ho
  refine L30 _ _ n _ _ _ _ _ o20 ho hW (lv_sub hl [3, 2, 1, 0] rfl) ?_
  intro  σ21 H locs ls e9 hW hl
  subst e9
  try dsimp only at hf
  refine lv_aload_n C.1.1 C.1.2.1 dX7_tellHouse_73 rfl (lv_at hl 0 rfl) ?_
  have hk22 := sh7_23 hW hk_a0
  refine gf7_23 C hW hk_a0 w_1053 dX7_tellHouse_74 ?_
  refine lv_iload_n C.1.1 C.1.2.1 dX7_tellHouse_77 rfl (lv_at hl 1 rfl) ?_
  refine lv_aload_n C.1.1 C.1.2.1 dX7_tellHouse_78 rfl (lv_at hl 0 rfl) ?_
  refine lv_iconst (v := 0) C.1.1 C.1.2.1 dX7_tellHouse_79 (by decide) ?_
  refine lv_bipush (v := 23) C.1.1 C.1.2.1 dX7_tellHouse_80 (by decide) ?_
  obtain ⟨⟨r25, σ24⟩, hc23, hf⟩ := bd hf
  try dsimp only at hf
  refine cVi C hW (mX7_bounded hk_a0 hc23) hk_a0 kvX7_bounded w_1303 ⟨(Nat.le_of_ble_eq_true rfl), (Nat.le_of_ble_eq_true rfl)⟩ ⟨Nat.zero_le _, Nat.zero_le _⟩ rfl hl.1 (rest := [.int _, .ref _]) rfl (Nat.le_of_ble_eq_true rfl) dX7_tellHouse_82 (fun H locs hn26 hW => ?_)
  obtain ⟨hv28, hf⟩ := gd hf
  refine wsi C hW hk22 (vin_p hv28) dX7_tellHouse_85 (fun H locs hW => ?_)
  refine lv_aload_n C.1.1 C.1.2.1 dX7_tellHouse_86 rfl (lv_at hl 0 rfl) ?_
  have hk30 := sh7_24 hW hk_a0
  refine gf7_24 C hW hk_a0 w_1054 dX7_tellHouse_87 ?_
  refine lv_iload_n C.1.1 C.1.2.1 dX7_tellHouse_90 rfl (lv_at hl 1 rfl) ?_
  refine lv_aload_n C.1.1 C.1.2.1 dX7_tellHouse_91 rfl (lv_at hl 0 rfl) ?_
  refine lv_iconst (v := 0) C.1.1 C.1.2.1 dX7_tellHouse_92 (by decide) ?_
  refine lv_bipush (v := 23) C.1.1 C.1.2.1 dX7_tellHouse_93 (by decide) ?_
  obtain ⟨⟨r33, σ32⟩, hc31, hf⟩ := bd hf
  try dsimp only at hf
  refine cVi C hW (mX7_bounded hk_a0 hc31) hk_a0 kvX7_bounded w_1303 ⟨(Nat.le_of_ble_eq_true rfl), (Nat.le_of_ble_eq_true rfl)⟩ ⟨Nat.zero_le _, Nat.zero_le _⟩ rfl hl.1 (rest := [.int _, .ref _]) rfl (Nat.le_of_ble_eq_true rfl) dX7_tellHouse_95 (fun H locs hn34 hW => ?_)
  refine wsi C hW hk30 (vin_p hv28) dX7_tellHouse_98 (fun H locs hW => ?_)
  refine lv_aload_n C.1.1 C.1.2.1 dX7_tellHouse_99 rfl (lv_at hl 0 rfl) ?_
  have hk37 := sh7_25 hW hk_a0
  refine gf7_25 C hW hk_a0 w_1055 dX7_tellHouse_100 ?_
  refine lv_iload_n C.1.1 C.1.2.1 dX7_tellHouse_103 rfl (lv_at hl 1 rfl) ?_
  refine lv_aload_n C.1.1 C.1.2.1 dX7_tellHouse_104 rfl (lv_at hl 0 rfl) ?_
  refine lv_iconst (v := 0) C.1.1 C.1.2.1 dX7_tellHouse_105 (by decide) ?_
  refine lv_bipush (v := 9) C.1.1 C.1.2.1 dX7_tellHouse_106 (by decide) ?_
  obtain ⟨⟨r40, σ39⟩, hc38, hf⟩ := bd hf
  try dsimp only at hf
  refine cVi C hW (mX7_bounded hk_a0 hc38) hk_a0 kvX7_bounded w_1303 ⟨(Nat.le_of_ble_eq_true rfl), (Nat.le_of_ble_eq_true rfl)⟩ ⟨Nat.zero_le _, Nat.zero_le _⟩ rfl hl.1 (rest := [.int _, .ref _]) rfl (Nat.le_of_ble_eq_true rfl) dX7_tellHouse_108 (fun H locs hn41 hW => ?_)
  refine wsi C hW hk37 (vin_p hv28) dX7_tellHouse_111 (fun H locs hW => ?_)
  refine lv_aload_n C.1.1 C.1.2.1 dX7_tellHouse_112 rfl (lv_at hl 0 rfl) ?_
  refine lv_iconst (v := 4) C.1.1 C.1.2.1 dX7_tellHouse_113 (by decide) ?_
  obtain ⟨σ45, hc44, hf⟩ := bd hf
  try dsimp only at hf
  refine cVv C hW (mX7_must hk_a0 hc44) hk_a0 kvX7_must w_1295 ⟨(Nat.le_of_ble_eq_true rfl), (Nat.le_of_ble_eq_true rfl)⟩ ⟨Nat.zero_le _, Nat.zero_le _⟩ rfl hl.1 (rest := []) rfl (Nat.le_of_ble_eq_true rfl) dX7_tellHouse_114 (fun H locs hW => ?_)
  refine lv_aload_n C.1.1 C.1.2.1 dX7_tellHouse_117 rfl (lv_at hl 0 rfl) ?_
  refine gf7_13 C hW hk_a0 w_1043 dX7_tellHouse_118 ?_
  refine lv_if_le (tgt := 125) C.1.1 C.1.2.1 dX7_tellHouse_121 (by decide) (fun h9 => ?_) (fun h9 => ?_)
  · replace hf := (if_pos h9).symm.trans hf
    refine lv_aload_n C.1.1 C.1.2.1 dX7_tellHouse_125 rfl (lv_at hl 0 rfl) ?_
    have hk49 := sh7_21 hW hk_a0
    refine gf7_21 C hW hk_a0 w_1051 dX7_tellHouse_126 ?_
    refine lv_aload_n C.1.1 C.1.2.1 dX7_tellHouse_129 rfl (lv_at hl 0 rfl) ?_
    refine gf7_20 C hW hk_a0 w_1050 dX7_tellHouse_130 ?_
    refine lv_aload_n C.1.1 C.1.2.1 dX7_tellHouse_133 rfl (lv_at hl 0 rfl) ?_
    have hk50 := sh7_8 hW hk_a0
    refine gf7_8 C hW hk_a0 w_1038 dX7_tellHouse_134 ?_
    refine lv_iload_n C.1.1 C.1.2.1 dX7_tellHouse_137 rfl (lv_at hl 2 rfl) ?_
    obtain ⟨hv51, hf⟩ := gd hf
    refine wal C hW hk50 (vin_p hv51) dX7_tellHouse_138 ?_
    obtain ⟨hv52, hf⟩ := gd hf
    refine wsl C hW hk49 (vin_p hv52) dX7_tellHouse_139 (fun H locs hW => ?_)
    refine lv_aload_n C.1.1 C.1.2.1 dX7_tellHouse_140 rfl (lv_at hl 0 rfl) ?_
    refine lv_dup C.1.1 C.1.2.1 dX7_tellHouse_141 rfl ?_
    refine gf7_20 C hW hk_a0 w_1050 dX7_tellHouse_142 ?_
    refine lv_iconst (v := 1) C.1.1 C.1.2.1 dX7_tellHouse_145 (by decide) ?_
    refine lv_iadd C.1.1 C.1.2.1 dX7_tellHouse_146 ?_
    refine pf7_20 C hW hk_a0 w_1050 dX7_tellHouse_147 (fun H locs hW => ?_)
    refine lv_aload_n C.1.1 C.1.2.1 dX7_tellHouse_150 rfl (lv_at hl 0 rfl) ?_
    have hk55 := sh7_22 hW hk_a0
    refine gf7_22 C hW hk_a0 w_1052 dX7_tellHouse_151 ?_
    refine lv_aload_n C.1.1 C.1.2.1 dX7_tellHouse_154 rfl (lv_at hl 0 rfl) ?_
    refine gf7_19 C hW hk_a0 w_1049 dX7_tellHouse_155 ?_
    refine lv_dup2_11 C.1.1 C.1.2.1 dX7_tellHouse_158 rfl rfl ?_
    obtain ⟨hv56, hf⟩ := gd hf
    refine wai C hW hk55 (vin_p hv56) dX7_tellHouse_159 ?_
    refine lv_iconst (v := 1) C.1.1 C.1.2.1 dX7_tellHouse_160 (by decide) ?_
    refine lv_iadd C.1.1 C.1.2.1 dX7_tellHouse_161 ?_
    refine wsi C hW hk55 (vin_p hv56) dX7_tellHouse_162 (fun H locs hW => ?_)
    exact rv hQ C hr hlk hW hf dX7_tellHouse_163
  · replace hf := (if_neg h9).symm.trans hf
    exact rv hQ C hr hlk hW hf dX7_tellHouse_124
theorem kvX7_emit : KV 7 "RightKeysModel" yX7_emit cX7_emit 3 none 2 := ⟨⟨w_1329, w_65, w_116, w_1330⟩, ⟨rfl, by decide, by decide, by decide +kernel⟩, by decide, rfl⟩
noncomputable def fX7_emit (a0 : Nat) (p1 : Int32) (p2 : Int32) (σ : Sg) : Option (Sg) := if vin (σ.1 a0 39) 840 then (let σ3 := wI σ (a0 + 25) (((σ.1 a0 39)).toNatClampNeg) p1; if vin (σ3.1 a0 39) 840 then (let σ6 := wI σ3 (a0 + 26) (((σ3.1 a0 39)).toNatClampNeg) p2; (let σ7 := wI σ6 a0 39 ((σ6.1 a0 39) + (1 : Int32)); some σ7)) else none) else none
set_option maxRecDepth 100000 in
set_option maxHeartbeats 4000000 in
theorem mX7_emit {l : Launch} {G : Gm} {a0 : Nat} {p1 : Int32} {p2 : Int32} {σ : Sg} {σ' : Sg} (hk_a0 : gK G a0 = 8) (hf : fX7_emit a0 p1 p2 σ = some σ') : Mv l G yX7_emit cX7_emit 3 0 0 [.ref (gB G + a0), .int p1, .int p2] σ σ' := by
  refine of_W "RightKeysModel" rfl (by decide) (Nat.le_of_ble_eq_true rfl) ?_
  intro p e s m args below meth c Q hQ C hr hlk hW ls hl
  have h00 := hW.1
  have hl : lv_has ls 3 [(0, .ref (gB G + a0)), (1, .int p1), (2, .int p2)] := hl
  delta fX7_emit at hf
  refine lv_aload_n C.1.1 C.1.2.1 dX7_emit_0 rfl (lv_at hl 0 rfl) ?_
  have hk1 := sh7_40 hW hk_a0
  refine gf7_40 C hW hk_a0 w_1070 dX7_emit_1 ?_
  refine lv_aload_n C.1.1 C.1.2.1 dX7_emit_4 rfl (lv_at hl 0 rfl) ?_
  refine gf7_39 C hW hk_a0 w_1069 dX7_emit_5 ?_
  refine lv_iload_n C.1.1 C.1.2.1 dX7_emit_8 rfl (lv_at hl 1 rfl) ?_
  obtain ⟨hv2, hf⟩ := gd hf
  refine wsi C hW hk1 (vin_p hv2) dX7_emit_9 (fun H locs hW => ?_)
  refine lv_aload_n C.1.1 C.1.2.1 dX7_emit_10 rfl (lv_at hl 0 rfl) ?_
  have hk4 := sh7_41 hW hk_a0
  refine gf7_41 C hW hk_a0 w_1071 dX7_emit_11 ?_
  refine lv_aload_n C.1.1 C.1.2.1 dX7_emit_14 rfl (lv_at hl 0 rfl) ?_
  refine gf7_39 C hW hk_a0 w_1069 dX7_emit_15 ?_
  refine lv_iload_n C.1.1 C.1.2.1 dX7_emit_18 rfl (lv_at hl 2 rfl) ?_
  obtain ⟨hv5, hf⟩ := gd hf
  refine wsi C hW hk4 (vin_p hv5) dX7_emit_19 (fun H locs hW => ?_)
  refine lv_aload_n C.1.1 C.1.2.1 dX7_emit_20 rfl (lv_at hl 0 rfl) ?_
  refine lv_dup C.1.1 C.1.2.1 dX7_emit_21 rfl ?_
  refine gf7_39 C hW hk_a0 w_1069 dX7_emit_22 ?_
  refine lv_iconst (v := 1) C.1.1 C.1.2.1 dX7_emit_25 (by decide) ?_
  refine lv_iadd C.1.1 C.1.2.1 dX7_emit_26 ?_
  refine pf7_39 C hW hk_a0 w_1069 dX7_emit_27 (fun H locs hW => ?_)
  exact rv hQ C hr hlk hW hf dX7_emit_30
theorem kvX7_comesOut : KV 7 "RightKeysModel" yX7_comesOut cX7_comesOut 3 none 1 := ⟨⟨w_1333, w_66, w_116, w_1334⟩, ⟨rfl, by decide, by decide, by decide +kernel⟩, by decide, rfl⟩
noncomputable def jX7_comesOut_84 (a0 : Nat) (p1 : Int32) (s0 : Nat) (s1 : Int32) (σ : Sg) : Option ((Sg) ⊕ ((Sg) ⊕ (Sg))) := (fX7_emit s0 s1 (0 : Int32) σ).bind (fun σ6 => some (Sum.inl σ6))
noncomputable def jX7_comesOut_42 (a0 : Nat) (p1 : Int32) (x2 : Int32) (σ : Sg) : Option ((Sg) ⊕ ((Sg) ⊕ (Sg))) := (let σ4 := wI σ a0 43 ((σ.1 a0 43) - (1 : Int32)); if x2 = (8 : Int32) then (jX7_comesOut_84 a0 p1 a0 (2 : Int32) σ4) else (if x2 = (9 : Int32) then (jX7_comesOut_84 a0 p1 a0 (3 : Int32) σ4) else (if x2 = (10 : Int32) then (jX7_comesOut_84 a0 p1 a0 (4 : Int32) σ4) else (jX7_comesOut_84 a0 p1 a0 (5 : Int32) σ4))))
noncomputable def bX7_comesOut_0 (a0 : Nat) (p1 : Int32) (σ : Sg) : Option ((Sg) ⊕ ((Sg) ⊕ (Sg))) := if (σ.1 a0 43) ≤ 0 then (some (Sum.inr (Sum.inr σ))) else (if vin ((σ.1 a0 43) - (1 : Int32)) 64 then ((let x2_3 := (σ.1 (a0 + 27) ((((σ.1 a0 43) - (1 : Int32))).toNatClampNeg)); if x2_3 = (6 : Int32) then (some (Sum.inr (Sum.inl σ))) else (if p1 = 0 then (jX7_comesOut_42 a0 p1 x2_3 σ) else (if x2_3 = (8 : Int32) then (some (Sum.inr (Sum.inl σ))) else (if x2_3 = (9 : Int32) then (some (Sum.inr (Sum.inl σ))) else (jX7_comesOut_42 a0 p1 x2_3 σ)))))) else none)
noncomputable def fX7_comesOut (a0 : Nat) (p1 : Int32) (σ : Sg) : Option (Sg) := (lp (bX7_comesOut_0 a0 p1) σ).bind (fun o10 => Sum.elim (fun σ11 => some σ11) (fun o10_ => (fun σ12 => some σ12) o10_) o10)
set_option maxRecDepth 100000 in
set_option maxHeartbeats 4000000 in
theorem mX7_comesOut {l : Launch} {G : Gm} {a0 : Nat} {p1 : Int32} {σ : Sg} {σ' : Sg} (hk_a0 : gK G a0 = 8) (hf : fX7_comesOut a0 p1 σ = some σ') : Mv l G yX7_comesOut cX7_comesOut 3 1 22 [.ref (gB G + a0), .int p1] σ σ' := by
  refine of_W "RightKeysModel" rfl (by decide) (Nat.le_of_ble_eq_true rfl) ?_
  intro p e s m args below meth c Q hQ C hr hlk hW ls hl
  have h00 := hW.1
  have hl : lv_has ls 3 [(0, .ref (gB G + a0)), (1, .int p1)] := hl
  delta fX7_comesOut at hf
  have L0 : ∀ (n : Nat) (σ : Sg) (H : Heap) (locs : List Loc) (ls : Array Slot) (out : ((Sg) ⊕ (Sg))), iter (bX7_comesOut_0 a0 p1) n σ = some out → Ws G σ s.heap H locs → lv_has ls 3 [(0, .ref (gB G + a0)), (1, .int p1)] → (∀ (σ : Sg) (H : Heap) (locs : List Loc) (ls : Array Slot), out = (Sum.inl σ) → Ws G σ s.heap H locs → lv_has ls 3 [] → W p l e (rmOf 1 22) s m args below meth c H locs 0 0 Q (F0 m 41 ls [])) → (∀ (σ : Sg) (H : Heap) (locs : List Loc) (ls : Array Slot), out = (Sum.inr σ) → Ws G σ s.heap H locs → lv_has ls 3 [] → W p l e (rmOf 1 22) s m args below meth c H locs 0 0 Q (F0 m 91 ls [])) → W p l e (rmOf 1 22) s m args below meth c H locs 0 0 Q (F0 m 0 ls []) := by
    intro n
    induction n with
    | zero =>
      intro σ H locs ls out hf
      exact (it_0 hf).elim
    | succ n ih =>
      intro σ H locs ls out hf hW hl K0_41 K0_91
      obtain ⟨x, hf, hx⟩ := it_s hf
      have hf : bX7_comesOut_0 a0 p1 σ = some x := hf
      delta bX7_comesOut_0 at hf
      have J84 : ∀ (s0 : Nat) (s1 : Int32) (σ : Sg) (H : Heap) (locs : List Loc) (ls : Array Slot) (hk_s0 : gK G s0 = 8), jX7_comesOut_84 a0 p1 s0 s1 σ = some x → Ws G σ s.heap H locs → lv_has ls 3 [(0, .ref (gB G + a0)), (1, .int p1)] → W p l e (rmOf 1 22) s m args below meth c H locs 0 0 Q (F0 m 84 ls [.int s1, .ref (gB G + s0)]) := by
        intro s0 s1 σ H locs ls hk_s0 hf hW hl
        delta jX7_comesOut_84 at hf
        refine lv_iconst (v := 0) C.1.1 C.1.2.1 dX7_comesOut_84 (by decide) ?_
        obtain ⟨σ6, hc5, hf⟩ := bd hf
        try dsimp only at hf
        refine cVv C hW (mX7_emit hk_s0 hc5) hk_s0 kvX7_emit w_1327 ⟨(Nat.le_of_ble_eq_true rfl), (Nat.le_of_ble_eq_true rfl)⟩ ⟨Nat.zero_le _, Nat.zero_le _⟩ rfl hl.1 (rest := []) rfl (Nat.le_of_ble_eq_true rfl) dX7_comesOut_85 (fun H locs hW => ?_)
        refine lv_goto (tgt := 0) C.1.1 C.1.2.1 dX7_comesOut_88 (by decide) ?_
        cases hf
        exact ih _ _ _ _ _ hx hW (lv_sub hl [0, 1] rfl) K0_41 K0_91
      have J42 : ∀ (x2 : Int32) (σ : Sg) (H : Heap) (locs : List Loc) (ls : Array Slot), jX7_comesOut_42 a0 p1 x2 σ = some x → Ws G σ s.heap H locs → lv_has ls 3 [(0, .ref (gB G + a0)), (1, .int p1), (2, .int x2)] → W p l e (rmOf 1 22) s m args below meth c H locs 0 0 Q (F0 m 42 ls []) := by
        intro x2 σ H locs ls hf hW hl
        delta jX7_comesOut_42 at hf
        refine lv_aload_n C.1.1 C.1.2.1 dX7_comesOut_42 rfl (lv_at hl 0 rfl) ?_
        refine lv_dup C.1.1 C.1.2.1 dX7_comesOut_43 rfl ?_
        refine gf7_43 C hW hk_a0 w_1073 dX7_comesOut_44 ?_
        refine lv_iconst (v := 1) C.1.1 C.1.2.1 dX7_comesOut_47 (by decide) ?_
        refine lv_isub C.1.1 C.1.2.1 dX7_comesOut_48 ?_
        refine pf7_43 C hW hk_a0 w_1073 dX7_comesOut_49 (fun H locs hW => ?_)
        refine lv_aload_n C.1.1 C.1.2.1 dX7_comesOut_52 rfl (lv_at hl 0 rfl) ?_
        refine lv_iload_n C.1.1 C.1.2.1 dX7_comesOut_53 rfl (lv_at hl 2 rfl) ?_
        refine lv_bipush (v := 8) C.1.1 C.1.2.1 dX7_comesOut_54 (by decide) ?_
        refine lv_icmp_ne (tgt := 63) C.1.1 C.1.2.1 dX7_comesOut_56 (by decide) (fun h9 => ?_) (fun h9 => ?_)
        · replace hf := (if_neg h9).symm.trans hf
          refine lv_iload_n C.1.1 C.1.2.1 dX7_comesOut_63 rfl (lv_at hl 2 rfl) ?_
          refine lv_bipush (v := 9) C.1.1 C.1.2.1 dX7_comesOut_64 (by decide) ?_
          refine lv_icmp_ne (tgt := 73) C.1.1 C.1.2.1 dX7_comesOut_66 (by decide) (fun h9 => ?_) (fun h9 => ?_)
          · replace hf := (if_neg h9).symm.trans hf
            refine lv_iload_n C.1.1 C.1.2.1 dX7_comesOut_73 rfl (lv_at hl 2 rfl) ?_
            refine lv_bipush (v := 10) C.1.1 C.1.2.1 dX7_comesOut_74 (by decide) ?_
            refine lv_icmp_ne (tgt := 83) C.1.1 C.1.2.1 dX7_comesOut_76 (by decide) (fun h9 => ?_) (fun h9 => ?_)
            · replace hf := (if_neg h9).symm.trans hf
              refine lv_iconst (v := 5) C.1.1 C.1.2.1 dX7_comesOut_83 (by decide) ?_
              exact J84 _ _ _ _ _ _ hk_a0 hf hW (lv_sub hl [0, 1] rfl)
            · replace hf := (if_pos h9).symm.trans hf
              refine lv_iconst (v := 4) C.1.1 C.1.2.1 dX7_comesOut_79 (by decide) ?_
              refine lv_goto (tgt := 84) C.1.1 C.1.2.1 dX7_comesOut_80 (by decide) ?_
              exact J84 _ _ _ _ _ _ hk_a0 hf hW (lv_sub hl [0, 1] rfl)
          · replace hf := (if_pos h9).symm.trans hf
            refine lv_iconst (v := 3) C.1.1 C.1.2.1 dX7_comesOut_69 (by decide) ?_
            refine lv_goto (tgt := 84) C.1.1 C.1.2.1 dX7_comesOut_70 (by decide) ?_
            exact J84 _ _ _ _ _ _ hk_a0 hf hW (lv_sub hl [0, 1] rfl)
        · replace hf := (if_pos h9).symm.trans hf
          refine lv_iconst (v := 2) C.1.1 C.1.2.1 dX7_comesOut_59 (by decide) ?_
          refine lv_goto (tgt := 84) C.1.1 C.1.2.1 dX7_comesOut_60 (by decide) ?_
          exact J84 _ _ _ _ _ _ hk_a0 hf hW (lv_sub hl [0, 1] rfl)
      refine lv_aload_n C.1.1 C.1.2.1 dX7_comesOut_0 rfl (lv_at hl 0 rfl) ?_
      refine gf7_43 C hW hk_a0 w_1073 dX7_comesOut_1 ?_
      refine lv_if_le (tgt := 91) C.1.1 C.1.2.1 dX7_comesOut_4 (by decide) (fun h9 => ?_) (fun h9 => ?_)
      · replace hf := (if_pos h9).symm.trans hf
        cases hf
        cases hx
        exact K0_91 _ _ _ _ rfl hW (lv_sub hl [] rfl)
      · replace hf := (if_neg h9).symm.trans hf
        refine lv_aload_n C.1.1 C.1.2.1 dX7_comesOut_7 rfl (lv_at hl 0 rfl) ?_
        have hk1 := sh7_42 hW hk_a0
        refine gf7_42 C hW hk_a0 w_1072 dX7_comesOut_8 ?_
        refine lv_aload_n C.1.1 C.1.2.1 dX7_comesOut_11 rfl (lv_at hl 0 rfl) ?_
        refine gf7_43 C hW hk_a0 w_1073 dX7_comesOut_12 ?_
        refine lv_iconst (v := 1) C.1.1 C.1.2.1 dX7_comesOut_15 (by decide) ?_
        refine lv_isub C.1.1 C.1.2.1 dX7_comesOut_16 ?_
        obtain ⟨hv2, hf⟩ := gd hf
        refine wai C hW hk1 (vin_p hv2) dX7_comesOut_17 ?_
        refine lv_istore_n (lv' := [(2, .int _), (0, .ref _), (1, .int _)]) C.1.1 C.1.2.1 dX7_comesOut_18 rfl hl (by decide) rfl (fun ls hl => ?_)
        refine lv_iload_n C.1.1 C.1.2.1 dX7_comesOut_19 rfl (lv_at hl 0 rfl) ?_
        refine lv_bipush (v := 6) C.1.1 C.1.2.1 dX7_comesOut_20 (by decide) ?_
        refine lv_icmp_eq (tgt := 41) C.1.1 C.1.2.1 dX7_comesOut_22 (by decide) (fun h9 => ?_) (fun h9 => ?_)
        · replace hf := (if_pos h9).symm.trans hf
          cases hf
          cases hx
          exact K0_41 _ _ _ _ rfl hW (lv_sub hl [] rfl)
        · replace hf := (if_neg h9).symm.trans hf
          refine lv_iload_n C.1.1 C.1.2.1 dX7_comesOut_25 rfl (lv_at hl 2 rfl) ?_
          refine lv_if_eq (tgt := 42) C.1.1 C.1.2.1 dX7_comesOut_26 (by decide) (fun h9 => ?_) (fun h9 => ?_)
          · replace hf := (if_pos h9).symm.trans hf
            exact J42 _ _ _ _ _ hf hW (lv_sub hl [1, 2, 0] rfl)
          · replace hf := (if_neg h9).symm.trans hf
            refine lv_iload_n C.1.1 C.1.2.1 dX7_comesOut_29 rfl (lv_at hl 0 rfl) ?_
            refine lv_bipush (v := 8) C.1.1 C.1.2.1 dX7_comesOut_30 (by decide) ?_
            refine lv_icmp_eq (tgt := 41) C.1.1 C.1.2.1 dX7_comesOut_32 (by decide) (fun h9 => ?_) (fun h9 => ?_)
            · replace hf := (if_pos h9).symm.trans hf
              cases hf
              cases hx
              exact K0_41 _ _ _ _ rfl hW (lv_sub hl [] rfl)
            · replace hf := (if_neg h9).symm.trans hf
              refine lv_iload_n C.1.1 C.1.2.1 dX7_comesOut_35 rfl (lv_at hl 0 rfl) ?_
              refine lv_bipush (v := 9) C.1.1 C.1.2.1 dX7_comesOut_36 (by decide) ?_
              refine lv_icmp_ne (tgt := 42) C.1.1 C.1.2.1 dX7_comesOut_38 (by decide) (fun h9 => ?_) (fun h9 => ?_)
              · replace hf := (if_neg h9).symm.trans hf
                exact J42 _ _ _ _ _ hf hW (lv_sub hl [1, 2, 0] rfl)
              · replace hf := (if_pos h9).symm.trans hf
                cases hf
                cases hx
                exact K0_41 _ _ _ _ rfl hW (lv_sub hl [] rfl)
  obtain ⟨o10, ho, hf⟩ := bd hf
  obtain ⟨n, ho⟩ := lp_it ho
  refine L0 n _ _ _ _ o10 ho hW (lv_sub hl [0, 1] rfl) ?_ ?_
  · intro  σ11 H locs ls e9 hW hl
    subst e9
    try dsimp only at hf
    exact rv hQ C hr hlk hW hf dX7_comesOut_41
  · intro  σ12 H locs ls e9 hW hl
    subst e9
    try dsimp only at hf
    exact rv hQ C hr hlk hW hf dX7_comesOut_91
theorem kvX7_unit : KV 7 "RightKeysModel" yX7_unit cX7_unit 1 none 0 := ⟨⟨w_1325, w_64, w_116, w_1326⟩, ⟨rfl, by decide, by decide, by decide +kernel⟩, by decide, rfl⟩
noncomputable def jX7_unit_88 (a0 : Nat) (σ : Sg) : Option (Sg) := (fX7_fail a0 (1 : Int32) σ).bind (fun σ7 => some σ7)
noncomputable def fX7_unit (a0 : Nat) (σ : Sg) : Option (Sg) := (fX7_is a0 (2 : Int32) σ).bind (fun q5 => let r3 := q5.1; let σ2 := q5.2; if r3 = 0 then (if (σ2.1 a0 13) = 0 then (if vin (σ2.1 a0 11) 403 then (if (σ2.1 (a0 + 3) (((σ2.1 a0 11)).toNatClampNeg)) < (31 : Int32) then (jX7_unit_88 a0 σ2) else (if (39 : Int32) < (σ2.1 (a0 + 3) (((σ2.1 a0 11)).toNatClampNeg)) then (jX7_unit_88 a0 σ2) else ((fX7_emit a0 (1 : Int32) ((σ2.1 (a0 + 3) (((σ2.1 a0 11)).toNatClampNeg)) - (31 : Int32)) σ2).bind (fun σ16 => (fX7_goesOn a0 σ16).bind (fun σ21 => some σ21))))) else none) else (jX7_unit_88 a0 σ2)) else (if vin (σ2.1 a0 11) 403 then ((fX7_emit a0 (0 : Int32) (σ2.1 (a0 + 5) (((σ2.1 a0 11)).toNatClampNeg)) σ2).bind (fun σ28 => (fX7_goesOn a0 σ28).bind (fun σ33 => some σ33))) else none))
set_option maxRecDepth 100000 in
set_option maxHeartbeats 4000000 in
theorem mX7_unit {l : Launch} {G : Gm} {a0 : Nat} {σ : Sg} {σ' : Sg} (hk_a0 : gK G a0 = 8) (hf : fX7_unit a0 σ = some σ') : Mv l G yX7_unit cX7_unit 1 2 41 [.ref (gB G + a0)] σ σ' := by
  refine of_W "RightKeysModel" rfl (by decide) (Nat.le_of_ble_eq_true rfl) ?_
  intro p e s m args below meth c Q hQ C hr hlk hW ls hl
  have h00 := hW.1
  have hl : lv_has ls 1 [(0, .ref (gB G + a0))] := hl
  delta fX7_unit at hf
  have J88 : ∀ (σ : Sg) (H : Heap) (locs : List Loc) (ls : Array Slot), jX7_unit_88 a0 σ = some σ' → Ws G σ s.heap H locs → lv_has ls 1 [(0, .ref (gB G + a0))] → W p l e (rmOf 2 41) s m args below meth c H locs 0 0 Q (F0 m 88 ls []) := by
    intro σ H locs ls hf hW hl
    delta jX7_unit_88 at hf
    refine lv_aload_n C.1.1 C.1.2.1 dX7_unit_88 rfl (lv_at hl 0 rfl) ?_
    refine lv_iconst (v := 1) C.1.1 C.1.2.1 dX7_unit_89 (by decide) ?_
    obtain ⟨σ7, hc6, hf⟩ := bd hf
    try dsimp only at hf
    refine cVv C hW (mX7_fail hk_a0 hc6) hk_a0 kvX7_fail w_1283 ⟨(Nat.le_of_ble_eq_true rfl), (Nat.le_of_ble_eq_true rfl)⟩ ⟨Nat.zero_le _, Nat.zero_le _⟩ rfl hl.1 (rest := []) rfl (Nat.le_of_ble_eq_true rfl) dX7_unit_90 (fun H locs hW => ?_)
    exact rv hQ C hr hlk hW hf dX7_unit_93
  refine lv_aload_n C.1.1 C.1.2.1 dX7_unit_0 rfl (lv_at hl 0 rfl) ?_
  refine lv_iconst (v := 2) C.1.1 C.1.2.1 dX7_unit_1 (by decide) ?_
  obtain ⟨⟨r3, σ2⟩, hc1, hf⟩ := bd hf
  try dsimp only at hf
  refine cVi C hW (mX7_is hk_a0 hc1) hk_a0 kvX7_is w_1271 ⟨(Nat.le_of_ble_eq_true rfl), (Nat.le_of_ble_eq_true rfl)⟩ ⟨Nat.zero_le _, Nat.zero_le _⟩ rfl hl.1 (rest := []) rfl (Nat.le_of_ble_eq_true rfl) dX7_unit_2 (fun H locs hn4 hW => ?_)
  refine lv_if_eq (tgt := 29) C.1.1 C.1.2.1 dX7_unit_5 (by decide) (fun h9 => ?_) (fun h9 => ?_)
  · replace hf := (if_pos h9).symm.trans hf
    refine lv_aload_n C.1.1 C.1.2.1 dX7_unit_29 rfl (lv_at hl 0 rfl) ?_
    refine gf7_13 C hW hk_a0 w_1043 dX7_unit_30 ?_
    refine lv_if_ne (tgt := 88) C.1.1 C.1.2.1 dX7_unit_33 (by decide) (fun h9 => ?_) (fun h9 => ?_)
    · replace hf := (if_neg h9).symm.trans hf
      exact J88 _ _ _ _ hf hW (lv_sub hl [0] rfl)
    · replace hf := (if_pos h9).symm.trans hf
      refine lv_aload_n C.1.1 C.1.2.1 dX7_unit_36 rfl (lv_at hl 0 rfl) ?_
      have hk11 := sh7_5 hW hk_a0
      refine gf7_5 C hW hk_a0 w_1035 dX7_unit_37 ?_
      refine lv_aload_n C.1.1 C.1.2.1 dX7_unit_40 rfl (lv_at hl 0 rfl) ?_
      refine gf7_11 C hW hk_a0 w_1041 dX7_unit_41 ?_
      obtain ⟨hv12, hf⟩ := gd hf
      refine wai C hW hk11 (vin_p hv12) dX7_unit_44 ?_
      refine lv_bipush (v := 31) C.1.1 C.1.2.1 dX7_unit_45 (by decide) ?_
      refine lv_icmp_lt (tgt := 88) C.1.1 C.1.2.1 dX7_unit_47 (by decide) (fun h9 => ?_) (fun h9 => ?_)
      · replace hf := (if_pos h9).symm.trans hf
        exact J88 _ _ _ _ hf hW (lv_sub hl [0] rfl)
      · replace hf := (if_neg h9).symm.trans hf
        refine lv_aload_n C.1.1 C.1.2.1 dX7_unit_50 rfl (lv_at hl 0 rfl) ?_
        have hk13 := sh7_5 hW hk_a0
        refine gf7_5 C hW hk_a0 w_1035 dX7_unit_51 ?_
        refine lv_aload_n C.1.1 C.1.2.1 dX7_unit_54 rfl (lv_at hl 0 rfl) ?_
        refine gf7_11 C hW hk_a0 w_1041 dX7_unit_55 ?_
        refine wai C hW hk13 (vin_p hv12) dX7_unit_58 ?_
        refine lv_bipush (v := 39) C.1.1 C.1.2.1 dX7_unit_59 (by decide) ?_
        refine lv_icmp_gt (tgt := 88) C.1.1 C.1.2.1 dX7_unit_61 (by decide) (fun h9 => ?_) (fun h9 => ?_)
        · replace hf := (if_pos h9).symm.trans hf
          exact J88 _ _ _ _ hf hW (lv_sub hl [0] rfl)
        · replace hf := (if_neg h9).symm.trans hf
          refine lv_aload_n C.1.1 C.1.2.1 dX7_unit_64 rfl (lv_at hl 0 rfl) ?_
          refine lv_iconst (v := 1) C.1.1 C.1.2.1 dX7_unit_65 (by decide) ?_
          refine lv_aload_n C.1.1 C.1.2.1 dX7_unit_66 rfl (lv_at hl 0 rfl) ?_
          have hk14 := sh7_5 hW hk_a0
          refine gf7_5 C hW hk_a0 w_1035 dX7_unit_67 ?_
          refine lv_aload_n C.1.1 C.1.2.1 dX7_unit_70 rfl (lv_at hl 0 rfl) ?_
          refine gf7_11 C hW hk_a0 w_1041 dX7_unit_71 ?_
          refine wai C hW hk14 (vin_p hv12) dX7_unit_74 ?_
          refine lv_bipush (v := 31) C.1.1 C.1.2.1 dX7_unit_75 (by decide) ?_
          refine lv_isub C.1.1 C.1.2.1 dX7_unit_77 ?_
          obtain ⟨σ16, hc15, hf⟩ := bd hf
          try dsimp only at hf
          refine cVv C hW (mX7_emit hk_a0 hc15) hk_a0 kvX7_emit w_1327 ⟨(Nat.le_of_ble_eq_true rfl), (Nat.le_of_ble_eq_true rfl)⟩ ⟨Nat.zero_le _, Nat.zero_le _⟩ rfl hl.1 (rest := []) rfl (Nat.le_of_ble_eq_true rfl) dX7_unit_78 (fun H locs hW => ?_)
          refine lv_aload_n C.1.1 C.1.2.1 dX7_unit_81 rfl (lv_at hl 0 rfl) ?_
          obtain ⟨σ21, hc20, hf⟩ := bd hf
          try dsimp only at hf
          refine cVv C hW (mX7_goesOn hk_a0 hc20) hk_a0 kvX7_goesOn w_1287 ⟨(Nat.le_of_ble_eq_true rfl), (Nat.le_of_ble_eq_true rfl)⟩ ⟨Nat.zero_le _, Nat.zero_le _⟩ rfl hl.1 (rest := []) rfl (Nat.le_of_ble_eq_true rfl) dX7_unit_82 (fun H locs hW => ?_)
          refine lv_goto (tgt := 93) C.1.1 C.1.2.1 dX7_unit_85 (by decide) ?_
          exact rv hQ C hr hlk hW hf dX7_unit_93
  · replace hf := (if_neg h9).symm.trans hf
    refine lv_aload_n C.1.1 C.1.2.1 dX7_unit_8 rfl (lv_at hl 0 rfl) ?_
    refine lv_iconst (v := 0) C.1.1 C.1.2.1 dX7_unit_9 (by decide) ?_
    refine lv_aload_n C.1.1 C.1.2.1 dX7_unit_10 rfl (lv_at hl 0 rfl) ?_
    have hk25 := sh7_7 hW hk_a0
    refine gf7_7 C hW hk_a0 w_1037 dX7_unit_11 ?_
    refine lv_aload_n C.1.1 C.1.2.1 dX7_unit_14 rfl (lv_at hl 0 rfl) ?_
    refine gf7_11 C hW hk_a0 w_1041 dX7_unit_15 ?_
    obtain ⟨hv26, hf⟩ := gd hf
    refine wai C hW hk25 (vin_p hv26) dX7_unit_18 ?_
    obtain ⟨σ28, hc27, hf⟩ := bd hf
    try dsimp only at hf
    refine cVv C hW (mX7_emit hk_a0 hc27) hk_a0 kvX7_emit w_1327 ⟨(Nat.le_of_ble_eq_true rfl), (Nat.le_of_ble_eq_true rfl)⟩ ⟨Nat.zero_le _, Nat.zero_le _⟩ rfl hl.1 (rest := []) rfl (Nat.le_of_ble_eq_true rfl) dX7_unit_19 (fun H locs hW => ?_)
    refine lv_aload_n C.1.1 C.1.2.1 dX7_unit_22 rfl (lv_at hl 0 rfl) ?_
    obtain ⟨σ33, hc32, hf⟩ := bd hf
    try dsimp only at hf
    refine cVv C hW (mX7_goesOn hk_a0 hc32) hk_a0 kvX7_goesOn w_1287 ⟨(Nat.le_of_ble_eq_true rfl), (Nat.le_of_ble_eq_true rfl)⟩ ⟨Nat.zero_le _, Nat.zero_le _⟩ rfl hl.1 (rest := []) rfl (Nat.le_of_ble_eq_true rfl) dX7_unit_23 (fun H locs hW => ?_)
    refine lv_goto (tgt := 93) C.1.1 C.1.2.1 dX7_unit_26 (by decide) ?_
    exact rv hQ C hr hlk hW hf dX7_unit_93
theorem kvX7_expression : KV 7 "RightKeysModel" yX7_expression cX7_expression 3 none 0 := ⟨⟨w_1321, w_63, w_116, w_1322⟩, ⟨rfl, by decide, by decide, by decide +kernel⟩, by decide, rfl⟩
noncomputable def jX7_expression_46 (a0 : Nat) (x1 : Int32) (σ : Sg) : Option ((Sg) ⊕ (Sg)) := (let σ8 := wI σ a0 12 ((σ.1 a0 12) + (1 : Int32)); (fX7_goesOn a0 σ8).bind (fun σ10 => if vin (σ10.1 a0 43) 64 then (let σ16 := wI σ10 (a0 + 27) (((σ10.1 a0 43)).toNatClampNeg) (6 : Int32); (let σ17 := wI σ16 a0 43 ((σ16.1 a0 43) + (1 : Int32)); some (Sum.inl σ17))) else none))
noncomputable def bX7_expression_23 (a0 : Nat) (x1 : Int32) (σ : Sg) : Option ((Sg) ⊕ (Sg)) := (fX7_is a0 (6 : Int32) σ).bind (fun q7 => let r5 := q7.1; let σ4 := q7.2; if r5 = 0 then (some (Sum.inr σ4)) else (if (σ4.1 a0 12) = (6 : Int32) then ((fX7_fail a0 (2 : Int32) σ4).bind (fun σ19 => jX7_expression_46 a0 x1 σ19)) else (jX7_expression_46 a0 x1 σ4)))
noncomputable def bX7_expression_96 (a0 : Nat) (x1 : Int32) (σ : Sg) : Option ((Sg) ⊕ (Sg)) := (fX7_is a0 (7 : Int32) σ).bind (fun q34 => let r32 := q34.1; let σ31 := q34.2; if r32 = 0 then (some (Sum.inr σ31)) else (if (σ31.1 a0 12) ≤ x1 then (some (Sum.inr σ31)) else ((fX7_comesOut a0 (0 : Int32) σ31).bind (fun σ36 => (let σ40 := wI σ36 a0 43 ((σ36.1 a0 43) - (1 : Int32)); let σ41 := wI σ40 a0 12 ((σ40.1 a0 12) - (1 : Int32)); (fX7_goesOn a0 σ41).bind (fun σ43 => some (Sum.inl σ43)))))))
noncomputable def jX7_expression_234 (a0 : Nat) (x1 : Int32) (x2 : Int32) (s0 : Nat) (s1 : Int32) (σ : Sg) : Option ((Int32 × Sg) ⊕ ((Sg) ⊕ ((Sg) ⊕ (Sg)))) := (fX7_comesOut s0 s1 σ).bind (fun σ60 => if vin (σ60.1 a0 11) 403 then (if vin (σ60.1 a0 43) 64 then (let σ68 := wI σ60 (a0 + 27) (((σ60.1 a0 43)).toNatClampNeg) (σ60.1 (a0 + 3) (((σ60.1 a0 11)).toNatClampNeg)); (let σ69 := wI σ68 a0 43 ((σ68.1 a0 43) + (1 : Int32)); (fX7_goesOn a0 σ69).bind (fun σ71 => some (Sum.inl (x2, σ71))))) else none) else none)
noncomputable def jX7_expression_229 (a0 : Nat) (x1 : Int32) (x2 : Int32) (s0 : Nat) (σ : Sg) : Option ((Int32 × Sg) ⊕ ((Sg) ⊕ ((Sg) ⊕ (Sg)))) := jX7_expression_234 a0 x1 x2 s0 (1 : Int32) σ
noncomputable def jX7_expression_186 (a0 : Nat) (x1 : Int32) (s0 : Int32) (σ : Sg) : Option ((Int32 × Sg) ⊕ ((Sg) ⊕ ((Sg) ⊕ (Sg)))) := if s0 = 0 then (some (Sum.inr (Sum.inr (Sum.inl σ)))) else ((fX7_is a0 (10 : Int32) σ).bind (fun q58 => let r56 := q58.1; let σ55 := q58.2; if r56 = 0 then ((fX7_is a0 (15 : Int32) σ55).bind (fun q79 => let r77 := q79.1; let σ76 := q79.2; if r77 = 0 then (jX7_expression_234 a0 x1 s0 a0 (0 : Int32) σ76) else (jX7_expression_229 a0 x1 s0 a0 σ76))) else (jX7_expression_229 a0 x1 s0 a0 σ55)))
noncomputable def jX7_expression_181 (a0 : Nat) (x1 : Int32) (σ : Sg) : Option ((Int32 × Sg) ⊕ ((Sg) ⊕ ((Sg) ⊕ (Sg)))) := jX7_expression_186 a0 x1 (1 : Int32) σ
noncomputable def bX7_expression_12 (a0 : Nat) (x1 : Int32) (x2 : Int32) (σ : Sg) : Option ((Int32 × Sg) ⊕ ((Sg) ⊕ ((Sg) ⊕ (Sg)))) := if x2 = 0 then (some (Sum.inr (Sum.inr (Sum.inr σ)))) else (if (σ.1 a0 13) = 0 then ((lp (bX7_expression_23 a0 x1) σ).bind (fun σ24 => (fX7_unit a0 σ24).bind (fun σ26 => if (σ26.1 a0 13) ≤ 0 then ((lp (bX7_expression_96 a0 x1) σ26).bind (fun σ48 => (fX7_is a0 (8 : Int32) σ48).bind (fun q53 => let r51 := q53.1; let σ50 := q53.2; if r51 = 0 then ((fX7_is a0 (9 : Int32) σ50).bind (fun q84 => let r82 := q84.1; let σ81 := q84.2; if r82 = 0 then ((fX7_is a0 (10 : Int32) σ81).bind (fun q89 => let r87 := q89.1; let σ86 := q89.2; if r87 = 0 then ((fX7_is a0 (15 : Int32) σ86).bind (fun q94 => let r92 := q94.1; let σ91 := q94.2; if r92 = 0 then (jX7_expression_186 a0 x1 (0 : Int32) σ91) else (jX7_expression_181 a0 x1 σ91))) else (jX7_expression_181 a0 x1 σ86))) else (jX7_expression_181 a0 x1 σ81))) else (jX7_expression_181 a0 x1 σ50)))) else (some (Sum.inr (Sum.inl σ26)))))) else (some (Sum.inr (Sum.inr (Sum.inr σ)))))
noncomputable def jX7_expression_204 (a0 : Nat) (σ : Sg) : Option (Sg) := (fX7_comesOut a0 (0 : Int32) σ).bind (fun σ99 => some σ99)
noncomputable def fX7_expression (a0 : Nat) (σ : Sg) : Option (Sg) := (let σ1 := wI σ a0 43 (0 : Int32); let x1_2 := (σ1.1 a0 12); (lp (fun st => bX7_expression_12 a0 x1_2 st.1 st.2) ((1 : Int32), σ1)).bind (fun o95 => Sum.elim (fun σ96 => some σ96) (fun o95_ => Sum.elim (fun σ97 => if (σ97.1 a0 12) ≤ x1_2 then (jX7_expression_204 a0 σ97) else ((fX7_fail a0 (1 : Int32) σ97).bind (fun σ104 => jX7_expression_204 a0 σ104))) (fun o95__ => (fun σ108 => some σ108) o95__) o95_) o95))
set_option maxRecDepth 100000 in
set_option maxHeartbeats 4000000 in
theorem mX7_expression {l : Launch} {G : Gm} {a0 : Nat} {σ : Sg} {σ' : Sg} (hk_a0 : gK G a0 = 8) (hf : fX7_expression a0 σ = some σ') : Mv l G yX7_expression cX7_expression 3 3 61 [.ref (gB G + a0)] σ σ' := by
  refine of_W "RightKeysModel" rfl (by decide) (Nat.le_of_ble_eq_true rfl) ?_
  intro p e s m args below meth c Q hQ C hr hlk hW ls hl
  have h00 := hW.1
  have hl : lv_has ls 3 [(0, .ref (gB G + a0))] := hl
  delta fX7_expression at hf
  have L12 : ∀ (x1 : Int32) (n : Nat) (x2 : Int32) (σ : Sg) (H : Heap) (locs : List Loc) (ls : Array Slot) (out : ((Sg) ⊕ ((Sg) ⊕ (Sg)))), iter (fun st => bX7_expression_12 a0 x1 st.1 st.2) n (x2, σ) = some out → Ws G σ s.heap H locs → lv_has ls 3 [(0, .ref (gB G + a0)), (1, .int x1), (2, .int x2)] → (∀ (σ : Sg) (H : Heap) (locs : List Loc) (ls : Array Slot), out = (Sum.inl σ) → Ws G σ s.heap H locs → lv_has ls 3 [] → W p l e (rmOf 3 61) s m args below meth c H locs 0 0 Q (F0 m 95 ls [])) → (∀ (σ : Sg) (H : Heap) (locs : List Loc) (ls : Array Slot), out = (Sum.inr (Sum.inl σ)) → Ws G σ s.heap H locs → lv_has ls 3 [(0, .ref (gB G + a0)), (1, .int x1)] → W p l e (rmOf 3 61) s m args below meth c H locs 0 0 Q (F0 m 191 ls [])) → (∀ (σ : Sg) (H : Heap) (locs : List Loc) (ls : Array Slot), out = (Sum.inr (Sum.inr σ)) → Ws G σ s.heap H locs → lv_has ls 3 [] → W p l e (rmOf 3 61) s m args below meth c H locs 0 0 Q (F0 m 272 ls [])) → W p l e (rmOf 3 61) s m args below meth c H locs 0 0 Q (F0 m 12 ls []) := by
    intro x1 n
    induction n with
    | zero =>
      intro x2 σ H locs ls out hf
      exact (it_0 hf).elim
    | succ n ih =>
      intro x2 σ H locs ls out hf hW hl K12_95 K12_191 K12_272
      obtain ⟨x, hf, hx⟩ := it_s hf
      have hf : bX7_expression_12 a0 x1 x2 σ = some x := hf
      delta bX7_expression_12 at hf
      have L23 : ∀ (x1 : Int32) (n : Nat) (σ : Sg) (H : Heap) (locs : List Loc) (ls : Array Slot) (out : (Sg)), iter (bX7_expression_23 a0 x1) n σ = some out → Ws G σ s.heap H locs → lv_has ls 3 [(0, .ref (gB G + a0)), (1, .int x1)] → (∀ (σ : Sg) (H : Heap) (locs : List Loc) (ls : Array Slot), out = σ → Ws G σ s.heap H locs → lv_has ls 3 [(0, .ref (gB G + a0)), (1, .int x1)] → W p l e (rmOf 3 61) s m args below meth c H locs 0 0 Q (F0 m 84 ls [])) → W p l e (rmOf 3 61) s m args below meth c H locs 0 0 Q (F0 m 23 ls []) := by
        intro x1 n
        induction n with
        | zero =>
          intro σ H locs ls out hf
          exact (it_0 hf).elim
        | succ n ih =>
          intro σ H locs ls out hf hW hl K23_84
          obtain ⟨x, hf, hx⟩ := it_s hf
          have hf : bX7_expression_23 a0 x1 σ = some x := hf
          delta bX7_expression_23 at hf
          have J46 : ∀ (σ : Sg) (H : Heap) (locs : List Loc) (ls : Array Slot), jX7_expression_46 a0 x1 σ = some x → Ws G σ s.heap H locs → lv_has ls 3 [(0, .ref (gB G + a0)), (1, .int x1)] → W p l e (rmOf 3 61) s m args below meth c H locs 0 0 Q (F0 m 46 ls []) := by
            intro σ H locs ls hf hW hl
            delta jX7_expression_46 at hf
            refine lv_aload_n C.1.1 C.1.2.1 dX7_expression_46 rfl (lv_at hl 0 rfl) ?_
            refine lv_dup C.1.1 C.1.2.1 dX7_expression_47 rfl ?_
            refine gf7_12 C hW hk_a0 w_1042 dX7_expression_48 ?_
            refine lv_iconst (v := 1) C.1.1 C.1.2.1 dX7_expression_51 (by decide) ?_
            refine lv_iadd C.1.1 C.1.2.1 dX7_expression_52 ?_
            refine pf7_12 C hW hk_a0 w_1042 dX7_expression_53 (fun H locs hW => ?_)
            refine lv_aload_n C.1.1 C.1.2.1 dX7_expression_56 rfl (lv_at hl 0 rfl) ?_
            obtain ⟨σ10, hc9, hf⟩ := bd hf
            try dsimp only at hf
            refine cVv C hW (mX7_goesOn hk_a0 hc9) hk_a0 kvX7_goesOn w_1287 ⟨(Nat.le_of_ble_eq_true rfl), (Nat.le_of_ble_eq_true rfl)⟩ ⟨Nat.zero_le _, Nat.zero_le _⟩ rfl hl.1 (rest := []) rfl (Nat.le_of_ble_eq_true rfl) dX7_expression_57 (fun H locs hW => ?_)
            refine lv_aload_n C.1.1 C.1.2.1 dX7_expression_60 rfl (lv_at hl 0 rfl) ?_
            have hk14 := sh7_42 hW hk_a0
            refine gf7_42 C hW hk_a0 w_1072 dX7_expression_61 ?_
            refine lv_aload_n C.1.1 C.1.2.1 dX7_expression_64 rfl (lv_at hl 0 rfl) ?_
            refine gf7_43 C hW hk_a0 w_1073 dX7_expression_65 ?_
            refine lv_bipush (v := 6) C.1.1 C.1.2.1 dX7_expression_68 (by decide) ?_
            obtain ⟨hv15, hf⟩ := gd hf
            refine wsi C hW hk14 (vin_p hv15) dX7_expression_70 (fun H locs hW => ?_)
            refine lv_aload_n C.1.1 C.1.2.1 dX7_expression_71 rfl (lv_at hl 0 rfl) ?_
            refine lv_dup C.1.1 C.1.2.1 dX7_expression_72 rfl ?_
            refine gf7_43 C hW hk_a0 w_1073 dX7_expression_73 ?_
            refine lv_iconst (v := 1) C.1.1 C.1.2.1 dX7_expression_76 (by decide) ?_
            refine lv_iadd C.1.1 C.1.2.1 dX7_expression_77 ?_
            refine pf7_43 C hW hk_a0 w_1073 dX7_expression_78 (fun H locs hW => ?_)
            refine lv_goto (tgt := 23) C.1.1 C.1.2.1 dX7_expression_81 (by decide) ?_
            cases hf
            exact ih _ _ _ _ _ hx hW (lv_sub hl [0, 1] rfl) K23_84
          refine lv_aload_n C.1.1 C.1.2.1 dX7_expression_23 rfl (lv_at hl 0 rfl) ?_
          refine lv_bipush (v := 6) C.1.1 C.1.2.1 dX7_expression_24 (by decide) ?_
          obtain ⟨⟨r5, σ4⟩, hc3, hf⟩ := bd hf
          try dsimp only at hf
          refine cVi C hW (mX7_is hk_a0 hc3) hk_a0 kvX7_is w_1271 ⟨(Nat.le_of_ble_eq_true rfl), (Nat.le_of_ble_eq_true rfl)⟩ ⟨Nat.zero_le _, Nat.zero_le _⟩ rfl hl.1 (rest := []) rfl (Nat.le_of_ble_eq_true rfl) dX7_expression_26 (fun H locs hn6 hW => ?_)
          refine lv_if_eq (tgt := 84) C.1.1 C.1.2.1 dX7_expression_29 (by decide) (fun h9 => ?_) (fun h9 => ?_)
          · replace hf := (if_pos h9).symm.trans hf
            cases hf
            cases hx
            exact K23_84 _ _ _ _ rfl hW (lv_sub hl [0, 1] rfl)
          · replace hf := (if_neg h9).symm.trans hf
            refine lv_aload_n C.1.1 C.1.2.1 dX7_expression_32 rfl (lv_at hl 0 rfl) ?_
            refine gf7_12 C hW hk_a0 w_1042 dX7_expression_33 ?_
            refine lv_bipush (v := 6) C.1.1 C.1.2.1 dX7_expression_36 (by decide) ?_
            refine lv_icmp_ne (tgt := 46) C.1.1 C.1.2.1 dX7_expression_38 (by decide) (fun h9 => ?_) (fun h9 => ?_)
            · replace hf := (if_neg h9).symm.trans hf
              exact J46 _ _ _ _ hf hW (lv_sub hl [0, 1] rfl)
            · replace hf := (if_pos h9).symm.trans hf
              refine lv_aload_n C.1.1 C.1.2.1 dX7_expression_41 rfl (lv_at hl 0 rfl) ?_
              refine lv_iconst (v := 2) C.1.1 C.1.2.1 dX7_expression_42 (by decide) ?_
              obtain ⟨σ19, hc18, hf⟩ := bd hf
              try dsimp only at hf
              refine cVv C hW (mX7_fail hk_a0 hc18) hk_a0 kvX7_fail w_1283 ⟨(Nat.le_of_ble_eq_true rfl), (Nat.le_of_ble_eq_true rfl)⟩ ⟨Nat.zero_le _, Nat.zero_le _⟩ rfl hl.1 (rest := []) rfl (Nat.le_of_ble_eq_true rfl) dX7_expression_43 (fun H locs hW => ?_)
              exact J46 _ _ _ _ hf hW (lv_sub hl [0, 1] rfl)
      have L96 : ∀ (x1 : Int32) (n : Nat) (σ : Sg) (H : Heap) (locs : List Loc) (ls : Array Slot) (out : (Sg)), iter (bX7_expression_96 a0 x1) n σ = some out → Ws G σ s.heap H locs → lv_has ls 3 [(0, .ref (gB G + a0)), (1, .int x1)] → (∀ (σ : Sg) (H : Heap) (locs : List Loc) (ls : Array Slot), out = σ → Ws G σ s.heap H locs → lv_has ls 3 [(0, .ref (gB G + a0)), (1, .int x1)] → W p l e (rmOf 3 61) s m args below meth c H locs 0 0 Q (F0 m 145 ls [])) → W p l e (rmOf 3 61) s m args below meth c H locs 0 0 Q (F0 m 96 ls []) := by
        intro x1 n
        induction n with
        | zero =>
          intro σ H locs ls out hf
          exact (it_0 hf).elim
        | succ n ih =>
          intro σ H locs ls out hf hW hl K96_145
          obtain ⟨x, hf, hx⟩ := it_s hf
          have hf : bX7_expression_96 a0 x1 σ = some x := hf
          delta bX7_expression_96 at hf
          refine lv_aload_n C.1.1 C.1.2.1 dX7_expression_96 rfl (lv_at hl 0 rfl) ?_
          refine lv_bipush (v := 7) C.1.1 C.1.2.1 dX7_expression_97 (by decide) ?_
          obtain ⟨⟨r32, σ31⟩, hc30, hf⟩ := bd hf
          try dsimp only at hf
          refine cVi C hW (mX7_is hk_a0 hc30) hk_a0 kvX7_is w_1271 ⟨(Nat.le_of_ble_eq_true rfl), (Nat.le_of_ble_eq_true rfl)⟩ ⟨Nat.zero_le _, Nat.zero_le _⟩ rfl hl.1 (rest := []) rfl (Nat.le_of_ble_eq_true rfl) dX7_expression_99 (fun H locs hn33 hW => ?_)
          refine lv_if_eq (tgt := 145) C.1.1 C.1.2.1 dX7_expression_102 (by decide) (fun h9 => ?_) (fun h9 => ?_)
          · replace hf := (if_pos h9).symm.trans hf
            cases hf
            cases hx
            exact K96_145 _ _ _ _ rfl hW (lv_sub hl [0, 1] rfl)
          · replace hf := (if_neg h9).symm.trans hf
            refine lv_aload_n C.1.1 C.1.2.1 dX7_expression_105 rfl (lv_at hl 0 rfl) ?_
            refine gf7_12 C hW hk_a0 w_1042 dX7_expression_106 ?_
            refine lv_iload_n C.1.1 C.1.2.1 dX7_expression_109 rfl (lv_at hl 1 rfl) ?_
            refine lv_icmp_le (tgt := 145) C.1.1 C.1.2.1 dX7_expression_110 (by decide) (fun h9 => ?_) (fun h9 => ?_)
            · replace hf := (if_pos h9).symm.trans hf
              cases hf
              cases hx
              exact K96_145 _ _ _ _ rfl hW (lv_sub hl [0, 1] rfl)
            · replace hf := (if_neg h9).symm.trans hf
              refine lv_aload_n C.1.1 C.1.2.1 dX7_expression_113 rfl (lv_at hl 0 rfl) ?_
              refine lv_iconst (v := 0) C.1.1 C.1.2.1 dX7_expression_114 (by decide) ?_
              obtain ⟨σ36, hc35, hf⟩ := bd hf
              try dsimp only at hf
              refine cVv C hW (mX7_comesOut hk_a0 hc35) hk_a0 kvX7_comesOut w_1331 ⟨(Nat.le_of_ble_eq_true rfl), (Nat.le_of_ble_eq_true rfl)⟩ ⟨Nat.zero_le _, Nat.zero_le _⟩ rfl hl.1 (rest := []) rfl (Nat.le_of_ble_eq_true rfl) dX7_expression_115 (fun H locs hW => ?_)
              refine lv_aload_n C.1.1 C.1.2.1 dX7_expression_118 rfl (lv_at hl 0 rfl) ?_
              refine lv_dup C.1.1 C.1.2.1 dX7_expression_119 rfl ?_
              refine gf7_43 C hW hk_a0 w_1073 dX7_expression_120 ?_
              refine lv_iconst (v := 1) C.1.1 C.1.2.1 dX7_expression_123 (by decide) ?_
              refine lv_isub C.1.1 C.1.2.1 dX7_expression_124 ?_
              refine pf7_43 C hW hk_a0 w_1073 dX7_expression_125 (fun H locs hW => ?_)
              refine lv_aload_n C.1.1 C.1.2.1 dX7_expression_128 rfl (lv_at hl 0 rfl) ?_
              refine lv_dup C.1.1 C.1.2.1 dX7_expression_129 rfl ?_
              refine gf7_12 C hW hk_a0 w_1042 dX7_expression_130 ?_
              refine lv_iconst (v := 1) C.1.1 C.1.2.1 dX7_expression_133 (by decide) ?_
              refine lv_isub C.1.1 C.1.2.1 dX7_expression_134 ?_
              refine pf7_12 C hW hk_a0 w_1042 dX7_expression_135 (fun H locs hW => ?_)
              refine lv_aload_n C.1.1 C.1.2.1 dX7_expression_138 rfl (lv_at hl 0 rfl) ?_
              obtain ⟨σ43, hc42, hf⟩ := bd hf
              try dsimp only at hf
              refine cVv C hW (mX7_goesOn hk_a0 hc42) hk_a0 kvX7_goesOn w_1287 ⟨(Nat.le_of_ble_eq_true rfl), (Nat.le_of_ble_eq_true rfl)⟩ ⟨Nat.zero_le _, Nat.zero_le _⟩ rfl hl.1 (rest := []) rfl (Nat.le_of_ble_eq_true rfl) dX7_expression_139 (fun H locs hW => ?_)
              refine lv_goto (tgt := 96) C.1.1 C.1.2.1 dX7_expression_142 (by decide) ?_
              cases hf
              exact ih _ _ _ _ _ hx hW (lv_sub hl [0, 1] rfl) K96_145
      have J234 : ∀ (x2 : Int32) (s0 : Nat) (s1 : Int32) (σ : Sg) (H : Heap) (locs : List Loc) (ls : Array Slot) (hk_s0 : gK G s0 = 8), jX7_expression_234 a0 x1 x2 s0 s1 σ = some x → Ws G σ s.heap H locs → lv_has ls 3 [(0, .ref (gB G + a0)), (1, .int x1), (2, .int x2)] → W p l e (rmOf 3 61) s m args below meth c H locs 0 0 Q (F0 m 234 ls [.int s1, .ref (gB G + s0)]) := by
        intro x2 s0 s1 σ H locs ls hk_s0 hf hW hl
        delta jX7_expression_234 at hf
        obtain ⟨σ60, hc59, hf⟩ := bd hf
        try dsimp only at hf
        refine cVv C hW (mX7_comesOut hk_s0 hc59) hk_s0 kvX7_comesOut w_1331 ⟨(Nat.le_of_ble_eq_true rfl), (Nat.le_of_ble_eq_true rfl)⟩ ⟨Nat.zero_le _, Nat.zero_le _⟩ rfl hl.1 (rest := []) rfl (Nat.le_of_ble_eq_true rfl) dX7_expression_234 (fun H locs hW => ?_)
        refine lv_aload_n C.1.1 C.1.2.1 dX7_expression_237 rfl (lv_at hl 0 rfl) ?_
        have hk64 := sh7_42 hW hk_a0
        refine gf7_42 C hW hk_a0 w_1072 dX7_expression_238 ?_
        refine lv_aload_n C.1.1 C.1.2.1 dX7_expression_241 rfl (lv_at hl 0 rfl) ?_
        refine gf7_43 C hW hk_a0 w_1073 dX7_expression_242 ?_
        refine lv_aload_n C.1.1 C.1.2.1 dX7_expression_245 rfl (lv_at hl 0 rfl) ?_
        have hk65 := sh7_5 hW hk_a0
        refine gf7_5 C hW hk_a0 w_1035 dX7_expression_246 ?_
        refine lv_aload_n C.1.1 C.1.2.1 dX7_expression_249 rfl (lv_at hl 0 rfl) ?_
        refine gf7_11 C hW hk_a0 w_1041 dX7_expression_250 ?_
        obtain ⟨hv66, hf⟩ := gd hf
        refine wai C hW hk65 (vin_p hv66) dX7_expression_253 ?_
        obtain ⟨hv67, hf⟩ := gd hf
        refine wsi C hW hk64 (vin_p hv67) dX7_expression_254 (fun H locs hW => ?_)
        refine lv_aload_n C.1.1 C.1.2.1 dX7_expression_255 rfl (lv_at hl 0 rfl) ?_
        refine lv_dup C.1.1 C.1.2.1 dX7_expression_256 rfl ?_
        refine gf7_43 C hW hk_a0 w_1073 dX7_expression_257 ?_
        refine lv_iconst (v := 1) C.1.1 C.1.2.1 dX7_expression_260 (by decide) ?_
        refine lv_iadd C.1.1 C.1.2.1 dX7_expression_261 ?_
        refine pf7_43 C hW hk_a0 w_1073 dX7_expression_262 (fun H locs hW => ?_)
        refine lv_aload_n C.1.1 C.1.2.1 dX7_expression_265 rfl (lv_at hl 0 rfl) ?_
        obtain ⟨σ71, hc70, hf⟩ := bd hf
        try dsimp only at hf
        refine cVv C hW (mX7_goesOn hk_a0 hc70) hk_a0 kvX7_goesOn w_1287 ⟨(Nat.le_of_ble_eq_true rfl), (Nat.le_of_ble_eq_true rfl)⟩ ⟨Nat.zero_le _, Nat.zero_le _⟩ rfl hl.1 (rest := []) rfl (Nat.le_of_ble_eq_true rfl) dX7_expression_266 (fun H locs hW => ?_)
        refine lv_goto (tgt := 12) C.1.1 C.1.2.1 dX7_expression_269 (by decide) ?_
        cases hf
        exact ih _ _ _ _ _ _ hx hW (lv_sub hl [0, 1, 2] rfl) K12_95 K12_191 K12_272
      have J229 : ∀ (x2 : Int32) (s0 : Nat) (σ : Sg) (H : Heap) (locs : List Loc) (ls : Array Slot) (hk_s0 : gK G s0 = 8), jX7_expression_229 a0 x1 x2 s0 σ = some x → Ws G σ s.heap H locs → lv_has ls 3 [(0, .ref (gB G + a0)), (1, .int x1), (2, .int x2)] → W p l e (rmOf 3 61) s m args below meth c H locs 0 0 Q (F0 m 229 ls [.ref (gB G + s0)]) := by
        intro x2 s0 σ H locs ls hk_s0 hf hW hl
        delta jX7_expression_229 at hf
        refine lv_iconst (v := 1) C.1.1 C.1.2.1 dX7_expression_229 (by decide) ?_
        refine lv_goto (tgt := 234) C.1.1 C.1.2.1 dX7_expression_230 (by decide) ?_
        exact J234 _ _ _ _ _ _ _ hk_s0 hf hW (lv_sub hl [0, 1, 2] rfl)
      have J186 : ∀ (s0 : Int32) (σ : Sg) (H : Heap) (locs : List Loc) (ls : Array Slot), jX7_expression_186 a0 x1 s0 σ = some x → Ws G σ s.heap H locs → lv_has ls 3 [(0, .ref (gB G + a0)), (1, .int x1)] → W p l e (rmOf 3 61) s m args below meth c H locs 0 0 Q (F0 m 186 ls [.int s0]) := by
        intro s0 σ H locs ls hf hW hl
        delta jX7_expression_186 at hf
        refine lv_istore_n (lv' := [(2, .int _), (0, .ref _), (1, .int _)]) C.1.1 C.1.2.1 dX7_expression_186 rfl hl (by decide) rfl (fun ls hl => ?_)
        refine lv_iload_n C.1.1 C.1.2.1 dX7_expression_187 rfl (lv_at hl 0 rfl) ?_
        refine lv_if_ne (tgt := 210) C.1.1 C.1.2.1 dX7_expression_188 (by decide) (fun h9 => ?_) (fun h9 => ?_)
        · replace hf := (if_neg h9).symm.trans hf
          refine lv_aload_n C.1.1 C.1.2.1 dX7_expression_210 rfl (lv_at hl 1 rfl) ?_
          refine lv_aload_n C.1.1 C.1.2.1 dX7_expression_211 rfl (lv_at hl 1 rfl) ?_
          refine lv_bipush (v := 10) C.1.1 C.1.2.1 dX7_expression_212 (by decide) ?_
          obtain ⟨⟨r56, σ55⟩, hc54, hf⟩ := bd hf
          try dsimp only at hf
          refine cVi C hW (mX7_is hk_a0 hc54) hk_a0 kvX7_is w_1271 ⟨(Nat.le_of_ble_eq_true rfl), (Nat.le_of_ble_eq_true rfl)⟩ ⟨Nat.zero_le _, Nat.zero_le _⟩ rfl hl.1 (rest := [.ref _]) rfl (Nat.le_of_ble_eq_true rfl) dX7_expression_214 (fun H locs hn57 hW => ?_)
          refine lv_if_ne (tgt := 229) C.1.1 C.1.2.1 dX7_expression_217 (by decide) (fun h9 => ?_) (fun h9 => ?_)
          · replace hf := (if_neg h9).symm.trans hf
            exact J229 _ _ _ _ _ _ hk_a0 hf hW (lv_sub hl [1, 2, 0] rfl)
          · replace hf := (if_pos h9).symm.trans hf
            refine lv_aload_n C.1.1 C.1.2.1 dX7_expression_220 rfl (lv_at hl 1 rfl) ?_
            refine lv_bipush (v := 15) C.1.1 C.1.2.1 dX7_expression_221 (by decide) ?_
            obtain ⟨⟨r77, σ76⟩, hc75, hf⟩ := bd hf
            try dsimp only at hf
            refine cVi C hW (mX7_is hk_a0 hc75) hk_a0 kvX7_is w_1271 ⟨(Nat.le_of_ble_eq_true rfl), (Nat.le_of_ble_eq_true rfl)⟩ ⟨Nat.zero_le _, Nat.zero_le _⟩ rfl hl.1 (rest := [.ref _]) rfl (Nat.le_of_ble_eq_true rfl) dX7_expression_223 (fun H locs hn78 hW => ?_)
            refine lv_if_eq (tgt := 233) C.1.1 C.1.2.1 dX7_expression_226 (by decide) (fun h9 => ?_) (fun h9 => ?_)
            · replace hf := (if_pos h9).symm.trans hf
              refine lv_iconst (v := 0) C.1.1 C.1.2.1 dX7_expression_233 (by decide) ?_
              exact J234 _ _ _ _ _ _ _ hk_a0 hf hW (lv_sub hl [1, 2, 0] rfl)
            · replace hf := (if_neg h9).symm.trans hf
              exact J229 _ _ _ _ _ _ hk_a0 hf hW (lv_sub hl [1, 2, 0] rfl)
        · replace hf := (if_pos h9).symm.trans hf
          cases hf
          cases hx
          exact K12_191 _ _ _ _ rfl hW (lv_sub hl [1, 2] rfl)
      have J181 : ∀ (σ : Sg) (H : Heap) (locs : List Loc) (ls : Array Slot), jX7_expression_181 a0 x1 σ = some x → Ws G σ s.heap H locs → lv_has ls 3 [(0, .ref (gB G + a0)), (1, .int x1)] → W p l e (rmOf 3 61) s m args below meth c H locs 0 0 Q (F0 m 181 ls []) := by
        intro σ H locs ls hf hW hl
        delta jX7_expression_181 at hf
        refine lv_iconst (v := 1) C.1.1 C.1.2.1 dX7_expression_181 (by decide) ?_
        refine lv_goto (tgt := 186) C.1.1 C.1.2.1 dX7_expression_182 (by decide) ?_
        exact J186 _ _ _ _ _ hf hW (lv_sub hl [0, 1] rfl)
      refine lv_iload_n C.1.1 C.1.2.1 dX7_expression_12 rfl (lv_at hl 2 rfl) ?_
      refine lv_if_eq (tgt := 272) C.1.1 C.1.2.1 dX7_expression_13 (by decide) (fun h9 => ?_) (fun h9 => ?_)
      · replace hf := (if_pos h9).symm.trans hf
        cases hf
        cases hx
        exact K12_272 _ _ _ _ rfl hW (lv_sub hl [] rfl)
      · replace hf := (if_neg h9).symm.trans hf
        refine lv_aload_n C.1.1 C.1.2.1 dX7_expression_16 rfl (lv_at hl 0 rfl) ?_
        refine gf7_13 C hW hk_a0 w_1043 dX7_expression_17 ?_
        refine lv_if_ne (tgt := 272) C.1.1 C.1.2.1 dX7_expression_20 (by decide) (fun h9 => ?_) (fun h9 => ?_)
        · replace hf := (if_neg h9).symm.trans hf
          cases hf
          cases hx
          exact K12_272 _ _ _ _ rfl hW (lv_sub hl [] rfl)
        · replace hf := (if_pos h9).symm.trans hf
          obtain ⟨o23, ho, hf⟩ := bd hf
          obtain ⟨n, ho⟩ := lp_it ho
          refine L23 _ n _ _ _ _ o23 ho hW (lv_sub hl [0, 1] rfl) ?_
          intro  σ24 H locs ls e9 hW hl
          subst e9
          try dsimp only at hf
          refine lv_aload_n C.1.1 C.1.2.1 dX7_expression_84 rfl (lv_at hl 0 rfl) ?_
          obtain ⟨σ26, hc25, hf⟩ := bd hf
          try dsimp only at hf
          refine cVv C hW (mX7_unit hk_a0 hc25) hk_a0 kvX7_unit w_1323 ⟨(Nat.le_of_ble_eq_true rfl), (Nat.le_of_ble_eq_true rfl)⟩ ⟨Nat.zero_le _, Nat.zero_le _⟩ rfl hl.1 (rest := []) rfl (Nat.le_of_ble_eq_true rfl) dX7_expression_85 (fun H locs hW => ?_)
          refine lv_aload_n C.1.1 C.1.2.1 dX7_expression_88 rfl (lv_at hl 0 rfl) ?_
          refine gf7_13 C hW hk_a0 w_1043 dX7_expression_89 ?_
          refine lv_if_le (tgt := 96) C.1.1 C.1.2.1 dX7_expression_92 (by decide) (fun h9 => ?_) (fun h9 => ?_)
          · replace hf := (if_pos h9).symm.trans hf
            obtain ⟨o47, ho, hf⟩ := bd hf
            obtain ⟨n, ho⟩ := lp_it ho
            refine L96 _ n _ _ _ _ o47 ho hW (lv_sub hl [0, 1] rfl) ?_
            intro  σ48 H locs ls e9 hW hl
            subst e9
            try dsimp only at hf
            refine lv_aload_n C.1.1 C.1.2.1 dX7_expression_145 rfl (lv_at hl 0 rfl) ?_
            refine lv_bipush (v := 8) C.1.1 C.1.2.1 dX7_expression_146 (by decide) ?_
            obtain ⟨⟨r51, σ50⟩, hc49, hf⟩ := bd hf
            try dsimp only at hf
            refine cVi C hW (mX7_is hk_a0 hc49) hk_a0 kvX7_is w_1271 ⟨(Nat.le_of_ble_eq_true rfl), (Nat.le_of_ble_eq_true rfl)⟩ ⟨Nat.zero_le _, Nat.zero_le _⟩ rfl hl.1 (rest := []) rfl (Nat.le_of_ble_eq_true rfl) dX7_expression_148 (fun H locs hn52 hW => ?_)
            refine lv_if_ne (tgt := 181) C.1.1 C.1.2.1 dX7_expression_151 (by decide) (fun h9 => ?_) (fun h9 => ?_)
            · replace hf := (if_neg h9).symm.trans hf
              exact J181 _ _ _ _ hf hW (lv_sub hl [0, 1] rfl)
            · replace hf := (if_pos h9).symm.trans hf
              refine lv_aload_n C.1.1 C.1.2.1 dX7_expression_154 rfl (lv_at hl 0 rfl) ?_
              refine lv_bipush (v := 9) C.1.1 C.1.2.1 dX7_expression_155 (by decide) ?_
              obtain ⟨⟨r82, σ81⟩, hc80, hf⟩ := bd hf
              try dsimp only at hf
              refine cVi C hW (mX7_is hk_a0 hc80) hk_a0 kvX7_is w_1271 ⟨(Nat.le_of_ble_eq_true rfl), (Nat.le_of_ble_eq_true rfl)⟩ ⟨Nat.zero_le _, Nat.zero_le _⟩ rfl hl.1 (rest := []) rfl (Nat.le_of_ble_eq_true rfl) dX7_expression_157 (fun H locs hn83 hW => ?_)
              refine lv_if_ne (tgt := 181) C.1.1 C.1.2.1 dX7_expression_160 (by decide) (fun h9 => ?_) (fun h9 => ?_)
              · replace hf := (if_neg h9).symm.trans hf
                exact J181 _ _ _ _ hf hW (lv_sub hl [0, 1] rfl)
              · replace hf := (if_pos h9).symm.trans hf
                refine lv_aload_n C.1.1 C.1.2.1 dX7_expression_163 rfl (lv_at hl 0 rfl) ?_
                refine lv_bipush (v := 10) C.1.1 C.1.2.1 dX7_expression_164 (by decide) ?_
                obtain ⟨⟨r87, σ86⟩, hc85, hf⟩ := bd hf
                try dsimp only at hf
                refine cVi C hW (mX7_is hk_a0 hc85) hk_a0 kvX7_is w_1271 ⟨(Nat.le_of_ble_eq_true rfl), (Nat.le_of_ble_eq_true rfl)⟩ ⟨Nat.zero_le _, Nat.zero_le _⟩ rfl hl.1 (rest := []) rfl (Nat.le_of_ble_eq_true rfl) dX7_expression_166 (fun H locs hn88 hW => ?_)
                refine lv_if_ne (tgt := 181) C.1.1 C.1.2.1 dX7_expression_169 (by decide) (fun h9 => ?_) (fun h9 => ?_)
                · replace hf := (if_neg h9).symm.trans hf
                  exact J181 _ _ _ _ hf hW (lv_sub hl [0, 1] rfl)
                · replace hf := (if_pos h9).symm.trans hf
                  refine lv_aload_n C.1.1 C.1.2.1 dX7_expression_172 rfl (lv_at hl 0 rfl) ?_
                  refine lv_bipush (v := 15) C.1.1 C.1.2.1 dX7_expression_173 (by decide) ?_
                  obtain ⟨⟨r92, σ91⟩, hc90, hf⟩ := bd hf
                  try dsimp only at hf
                  refine cVi C hW (mX7_is hk_a0 hc90) hk_a0 kvX7_is w_1271 ⟨(Nat.le_of_ble_eq_true rfl), (Nat.le_of_ble_eq_true rfl)⟩ ⟨Nat.zero_le _, Nat.zero_le _⟩ rfl hl.1 (rest := []) rfl (Nat.le_of_ble_eq_true rfl) dX7_expression_175 (fun H locs hn93 hW => ?_)
                  refine lv_if_eq (tgt := 185) C.1.1 C.1.2.1 dX7_expression_178 (by decide) (fun h9 => ?_) (fun h9 => ?_)
                  · replace hf := (if_pos h9).symm.trans hf
                    refine lv_iconst (v := 0) C.1.1 C.1.2.1 dX7_expression_185 (by decide) ?_
                    exact J186 _ _ _ _ _ hf hW (lv_sub hl [0, 1] rfl)
                  · replace hf := (if_neg h9).symm.trans hf
                    exact J181 _ _ _ _ hf hW (lv_sub hl [0, 1] rfl)
          · replace hf := (if_neg h9).symm.trans hf
            cases hf
            cases hx
            exact K12_95 _ _ _ _ rfl hW (lv_sub hl [] rfl)
  have J204 : ∀ (σ : Sg) (H : Heap) (locs : List Loc) (ls : Array Slot), jX7_expression_204 a0 σ = some σ' → Ws G σ s.heap H locs → lv_has ls 3 [(0, .ref (gB G + a0))] → W p l e (rmOf 3 61) s m args below meth c H locs 0 0 Q (F0 m 204 ls []) := by
    intro σ H locs ls hf hW hl
    delta jX7_expression_204 at hf
    refine lv_aload_n C.1.1 C.1.2.1 dX7_expression_204 rfl (lv_at hl 0 rfl) ?_
    refine lv_iconst (v := 0) C.1.1 C.1.2.1 dX7_expression_205 (by decide) ?_
    obtain ⟨σ99, hc98, hf⟩ := bd hf
    try dsimp only at hf
    refine cVv C hW (mX7_comesOut hk_a0 hc98) hk_a0 kvX7_comesOut w_1331 ⟨(Nat.le_of_ble_eq_true rfl), (Nat.le_of_ble_eq_true rfl)⟩ ⟨Nat.zero_le _, Nat.zero_le _⟩ rfl hl.1 (rest := []) rfl (Nat.le_of_ble_eq_true rfl) dX7_expression_206 (fun H locs hW => ?_)
    exact rv hQ C hr hlk hW hf dX7_expression_209
  refine lv_aload_n C.1.1 C.1.2.1 dX7_expression_0 rfl (lv_at hl 0 rfl) ?_
  refine lv_iconst (v := 0) C.1.1 C.1.2.1 dX7_expression_1 (by decide) ?_
  refine pf7_43 C hW hk_a0 w_1073 dX7_expression_2 (fun H locs hW => ?_)
  refine lv_aload_n C.1.1 C.1.2.1 dX7_expression_5 rfl (lv_at hl 0 rfl) ?_
  refine gf7_12 C hW hk_a0 w_1042 dX7_expression_6 ?_
  refine lv_istore_n (lv' := [(1, .int _), (0, .ref _)]) C.1.1 C.1.2.1 dX7_expression_9 rfl hl (by decide) rfl (fun ls hl => ?_)
  refine lv_iconst (v := 1) C.1.1 C.1.2.1 dX7_expression_10 (by decide) ?_
  refine lv_istore_n (lv' := [(2, .int _), (1, .int _), (0, .ref _)]) C.1.1 C.1.2.1 dX7_expression_11 rfl hl (by decide) rfl (fun ls hl => ?_)
  obtain ⟨o95, ho, hf⟩ := bd hf
  obtain ⟨n, ho⟩ := lp_it ho
  refine L12 _ n _ _ _ _ _ o95 ho hW (lv_sub hl [2, 1, 0] rfl) ?_ ?_ ?_
  · intro  σ96 H locs ls e9 hW hl
    subst e9
    try dsimp only at hf
    exact rv hQ C hr hlk hW hf dX7_expression_95
  · intro  σ97 H locs ls e9 hW hl
    subst e9
    try dsimp only at hf
    refine lv_aload_n C.1.1 C.1.2.1 dX7_expression_191 rfl (lv_at hl 0 rfl) ?_
    refine gf7_12 C hW hk_a0 w_1042 dX7_expression_192 ?_
    refine lv_iload_n C.1.1 C.1.2.1 dX7_expression_195 rfl (lv_at hl 1 rfl) ?_
    refine lv_icmp_le (tgt := 204) C.1.1 C.1.2.1 dX7_expression_196 (by decide) (fun h9 => ?_) (fun h9 => ?_)
    · replace hf := (if_pos h9).symm.trans hf
      exact J204 _ _ _ _ hf hW (lv_sub hl [0] rfl)
    · replace hf := (if_neg h9).symm.trans hf
      refine lv_aload_n C.1.1 C.1.2.1 dX7_expression_199 rfl (lv_at hl 0 rfl) ?_
      refine lv_iconst (v := 1) C.1.1 C.1.2.1 dX7_expression_200 (by decide) ?_
      obtain ⟨σ104, hc103, hf⟩ := bd hf
      try dsimp only at hf
      refine cVv C hW (mX7_fail hk_a0 hc103) hk_a0 kvX7_fail w_1283 ⟨(Nat.le_of_ble_eq_true rfl), (Nat.le_of_ble_eq_true rfl)⟩ ⟨Nat.zero_le _, Nat.zero_le _⟩ rfl hl.1 (rest := []) rfl (Nat.le_of_ble_eq_true rfl) dX7_expression_201 (fun H locs hW => ?_)
      exact J204 _ _ _ _ hf hW (lv_sub hl [0] rfl)
  · intro  σ108 H locs ls e9 hW hl
    subst e9
    try dsimp only at hf
    exact rv hQ C hr hlk hW hf dX7_expression_272
theorem kvX7_term : KV 7 "RightKeysModel" yX7_term cX7_term 1 none 0 := ⟨⟨w_1337, w_67, w_116, w_1338⟩, ⟨rfl, by decide, by decide, by decide +kernel⟩, by decide, rfl⟩
noncomputable def jX7_term_24 (a0 : Nat) (σ : Sg) : Option (Sg) := if vin (σ.1 a0 33) 260 then (let σ6 := wI σ (a0 + 24) (((σ.1 a0 33)).toNatClampNeg) (σ.1 a0 39); (let σ7 := wI σ6 a0 33 ((σ6.1 a0 33) + (1 : Int32)); some σ7)) else none
noncomputable def fX7_term (a0 : Nat) (σ : Sg) : Option (Sg) := if vin (σ.1 a0 33) 260 then (let σ3 := wI σ (a0 + 23) (((σ.1 a0 33)).toNatClampNeg) (σ.1 a0 39); if (σ3.1 a0 13) = 0 then ((fX7_expression a0 σ3).bind (fun σ9 => jX7_term_24 a0 σ9)) else (jX7_term_24 a0 σ3)) else none
set_option maxRecDepth 100000 in
set_option maxHeartbeats 4000000 in
theorem mX7_term {l : Launch} {G : Gm} {a0 : Nat} {σ : Sg} {σ' : Sg} (hk_a0 : gK G a0 = 8) (hf : fX7_term a0 σ = some σ') : Mv l G yX7_term cX7_term 1 4 83 [.ref (gB G + a0)] σ σ' := by
  refine of_W "RightKeysModel" rfl (by decide) (Nat.le_of_ble_eq_true rfl) ?_
  intro p e s m args below meth c Q hQ C hr hlk hW ls hl
  have h00 := hW.1
  have hl : lv_has ls 1 [(0, .ref (gB G + a0))] := hl
  delta fX7_term at hf
  have J24 : ∀ (σ : Sg) (H : Heap) (locs : List Loc) (ls : Array Slot), jX7_term_24 a0 σ = some σ' → Ws G σ s.heap H locs → lv_has ls 1 [(0, .ref (gB G + a0))] → W p l e (rmOf 4 83) s m args below meth c H locs 0 0 Q (F0 m 24 ls []) := by
    intro σ H locs ls hf hW hl
    delta jX7_term_24 at hf
    refine lv_aload_n C.1.1 C.1.2.1 dX7_term_24 rfl (lv_at hl 0 rfl) ?_
    have hk4 := sh7_38 hW hk_a0
    refine gf7_38 C hW hk_a0 w_1068 dX7_term_25 ?_
    refine lv_aload_n C.1.1 C.1.2.1 dX7_term_28 rfl (lv_at hl 0 rfl) ?_
    refine gf7_33 C hW hk_a0 w_1063 dX7_term_29 ?_
    refine lv_aload_n C.1.1 C.1.2.1 dX7_term_32 rfl (lv_at hl 0 rfl) ?_
    refine gf7_39 C hW hk_a0 w_1069 dX7_term_33 ?_
    obtain ⟨hv5, hf⟩ := gd hf
    refine wsi C hW hk4 (vin_p hv5) dX7_term_36 (fun H locs hW => ?_)
    refine lv_aload_n C.1.1 C.1.2.1 dX7_term_37 rfl (lv_at hl 0 rfl) ?_
    refine lv_dup C.1.1 C.1.2.1 dX7_term_38 rfl ?_
    refine gf7_33 C hW hk_a0 w_1063 dX7_term_39 ?_
    refine lv_iconst (v := 1) C.1.1 C.1.2.1 dX7_term_42 (by decide) ?_
    refine lv_iadd C.1.1 C.1.2.1 dX7_term_43 ?_
    refine pf7_33 C hW hk_a0 w_1063 dX7_term_44 (fun H locs hW => ?_)
    exact rv hQ C hr hlk hW hf dX7_term_47
  refine lv_aload_n C.1.1 C.1.2.1 dX7_term_0 rfl (lv_at hl 0 rfl) ?_
  have hk1 := sh7_37 hW hk_a0
  refine gf7_37 C hW hk_a0 w_1067 dX7_term_1 ?_
  refine lv_aload_n C.1.1 C.1.2.1 dX7_term_4 rfl (lv_at hl 0 rfl) ?_
  refine gf7_33 C hW hk_a0 w_1063 dX7_term_5 ?_
  refine lv_aload_n C.1.1 C.1.2.1 dX7_term_8 rfl (lv_at hl 0 rfl) ?_
  refine gf7_39 C hW hk_a0 w_1069 dX7_term_9 ?_
  obtain ⟨hv2, hf⟩ := gd hf
  refine wsi C hW hk1 (vin_p hv2) dX7_term_12 (fun H locs hW => ?_)
  refine lv_aload_n C.1.1 C.1.2.1 dX7_term_13 rfl (lv_at hl 0 rfl) ?_
  refine gf7_13 C hW hk_a0 w_1043 dX7_term_14 ?_
  refine lv_if_ne (tgt := 24) C.1.1 C.1.2.1 dX7_term_17 (by decide) (fun h9 => ?_) (fun h9 => ?_)
  · replace hf := (if_neg h9).symm.trans hf
    exact J24 _ _ _ _ hf hW (lv_sub hl [0] rfl)
  · replace hf := (if_pos h9).symm.trans hf
    refine lv_aload_n C.1.1 C.1.2.1 dX7_term_20 rfl (lv_at hl 0 rfl) ?_
    obtain ⟨σ9, hc8, hf⟩ := bd hf
    try dsimp only at hf
    refine cVv C hW (mX7_expression hk_a0 hc8) hk_a0 kvX7_expression w_1319 ⟨(Nat.le_of_ble_eq_true rfl), (Nat.le_of_ble_eq_true rfl)⟩ ⟨Nat.zero_le _, Nat.zero_le _⟩ rfl hl.1 (rest := []) rfl (Nat.le_of_ble_eq_true rfl) dX7_term_21 (fun H locs hW => ?_)
    exact J24 _ _ _ _ hf hW (lv_sub hl [0] rfl)
theorem kvX7_tellLaw : KV 7 "RightKeysModel" yX7_tellLaw cX7_tellLaw 4 none 1 := ⟨⟨w_1317, w_62, w_116, w_1318⟩, ⟨rfl, by decide, by decide, by decide +kernel⟩, by decide, rfl⟩
noncomputable def jX7_tellLaw_110 (a0 : Nat) (p1 : Int32) (x2 : Int32) (x3 : Int32) (σ : Sg) : Option ((Int32 × Sg) ⊕ ((Sg) ⊕ (Sg))) := (fX7_must a0 (29 : Int32) σ).bind (fun σ38 => (fX7_term a0 σ38).bind (fun σ43 => (fX7_must a0 (30 : Int32) σ43).bind (fun σ48 => some (Sum.inl (x3, σ48)))))
noncomputable def jX7_tellLaw_38 (a0 : Nat) (p1 : Int32) (x2 : Int32) (x3 : Int32) (σ : Sg) : Option ((Int32 × Sg) ⊕ ((Sg) ⊕ (Sg))) := if (σ.1 a0 13) ≤ 0 then ((let x3_12 := x3 + (1 : Int32); (fX7_goesOn a0 σ).bind (fun σ14 => if vin (σ14.1 a0 33) 260 then (let σ20 := wI σ14 (a0 + 20) (((σ14.1 a0 33)).toNatClampNeg) (vp_nar .boolean (1 : Int32)); if vin (σ20.1 a0 33) 260 then (let σ23 := wI σ20 (a0 + 21) (((σ20.1 a0 33)).toNatClampNeg) (σ20.1 a0 39); (fX7_expression a0 σ23).bind (fun σ25 => (fX7_must a0 (13 : Int32) σ25).bind (fun σ30 => if vin (σ30.1 a0 33) 260 then (let σ36 := wI σ30 (a0 + 22) (((σ30.1 a0 33)).toNatClampNeg) (σ30.1 a0 39); if (σ36.1 a0 13) = 0 then ((fX7_expression a0 σ36).bind (fun σ53 => jX7_tellLaw_110 a0 p1 x2 x3_12 σ53)) else (jX7_tellLaw_110 a0 p1 x2 x3_12 σ36)) else none))) else none) else none))) else (some (Sum.inr (Sum.inl σ)))
noncomputable def bX7_tellLaw_12 (a0 : Nat) (p1 : Int32) (x2 : Int32) (x3 : Int32) (σ : Sg) : Option ((Int32 × Sg) ⊕ ((Sg) ⊕ (Sg))) := if (σ.1 a0 13) = 0 then ((fX7_is a0 (28 : Int32) σ).bind (fun q11 => let r9 := q11.1; let σ8 := q11.2; if r9 = 0 then (some (Sum.inr (Sum.inr σ8))) else (if x3 = (4 : Int32) then ((fX7_fail a0 (2 : Int32) σ8).bind (fun σ58 => jX7_tellLaw_38 a0 p1 x2 x3 σ58)) else (jX7_tellLaw_38 a0 p1 x2 x3 σ8)))) else (some (Sum.inr (Sum.inr σ)))
noncomputable def fX7_tellLaw (a0 : Nat) (p1 : Int32) (σ : Sg) : Option (Sg) := (fX7_must a0 (5 : Int32) σ).bind (fun σ2 => (let x2_6 := (σ2.1 a0 33); (lp (fun st => bX7_tellLaw_12 a0 p1 x2_6 st.1 st.2) ((0 : Int32), σ2)).bind (fun o62 => Sum.elim (fun σ63 => some σ63) (fun o62_ => (fun σ64 => if vin (σ64.1 a0 33) 260 then (let σ67 := wI σ64 (a0 + 20) (((σ64.1 a0 33)).toNatClampNeg) (vp_nar .boolean (0 : Int32)); (fX7_term a0 σ67).bind (fun σ69 => (fX7_must a0 (4 : Int32) σ69).bind (fun σ74 => if (σ74.1 a0 13) ≤ 0 then (if vin (((4 : Int32) * (σ74.1 a0 19)) + p1) 8 then (let σ80 := wI σ74 (a0 + 18) (((((4 : Int32) * (σ74.1 a0 19)) + p1)).toNatClampNeg) x2_6; if vin (((4 : Int32) * (σ80.1 a0 19)) + p1) 8 then (let σ83 := wI σ80 (a0 + 19) (((((4 : Int32) * (σ80.1 a0 19)) + p1)).toNatClampNeg) (σ80.1 a0 33); some σ83) else none) else none) else (some σ74)))) else none) o62_) o62)))
set_option maxRecDepth 100000 in
set_option maxHeartbeats 4000000 in
theorem mX7_tellLaw {l : Launch} {G : Gm} {a0 : Nat} {p1 : Int32} {σ : Sg} {σ' : Sg} (hk_a0 : gK G a0 = 8) (hf : fX7_tellLaw a0 p1 σ = some σ') : Mv l G yX7_tellLaw cX7_tellLaw 4 5 103 [.ref (gB G + a0), .int p1] σ σ' := by
  refine of_W "RightKeysModel" rfl (by decide) (Nat.le_of_ble_eq_true rfl) ?_
  intro p e s m args below meth c Q hQ C hr hlk hW ls hl
  have h00 := hW.1
  have hl : lv_has ls 4 [(0, .ref (gB G + a0)), (1, .int p1)] := hl
  delta fX7_tellLaw at hf
  have L12 : ∀ (x2 : Int32) (n : Nat) (x3 : Int32) (σ : Sg) (H : Heap) (locs : List Loc) (ls : Array Slot) (out : ((Sg) ⊕ (Sg))), iter (fun st => bX7_tellLaw_12 a0 p1 x2 st.1 st.2) n (x3, σ) = some out → Ws G σ s.heap H locs → lv_has ls 4 [(0, .ref (gB G + a0)), (1, .int p1), (2, .int x2), (3, .int x3)] → (∀ (σ : Sg) (H : Heap) (locs : List Loc) (ls : Array Slot), out = (Sum.inl σ) → Ws G σ s.heap H locs → lv_has ls 4 [] → W p l e (rmOf 5 103) s m args below meth c H locs 0 0 Q (F0 m 45 ls [])) → (∀ (σ : Sg) (H : Heap) (locs : List Loc) (ls : Array Slot), out = (Sum.inr σ) → Ws G σ s.heap H locs → lv_has ls 4 [(0, .ref (gB G + a0)), (1, .int p1), (2, .int x2)] → W p l e (rmOf 5 103) s m args below meth c H locs 0 0 Q (F0 m 129 ls [])) → W p l e (rmOf 5 103) s m args below meth c H locs 0 0 Q (F0 m 12 ls []) := by
    intro x2 n
    induction n with
    | zero =>
      intro x3 σ H locs ls out hf
      exact (it_0 hf).elim
    | succ n ih =>
      intro x3 σ H locs ls out hf hW hl K12_45 K12_129
      obtain ⟨x, hf, hx⟩ := it_s hf
      have hf : bX7_tellLaw_12 a0 p1 x2 x3 σ = some x := hf
      delta bX7_tellLaw_12 at hf
      have J110 : ∀ (x3 : Int32) (σ : Sg) (H : Heap) (locs : List Loc) (ls : Array Slot), jX7_tellLaw_110 a0 p1 x2 x3 σ = some x → Ws G σ s.heap H locs → lv_has ls 4 [(0, .ref (gB G + a0)), (1, .int p1), (2, .int x2), (3, .int x3)] → W p l e (rmOf 5 103) s m args below meth c H locs 0 0 Q (F0 m 110 ls []) := by
        intro x3 σ H locs ls hf hW hl
        delta jX7_tellLaw_110 at hf
        refine lv_aload_n C.1.1 C.1.2.1 dX7_tellLaw_110 rfl (lv_at hl 0 rfl) ?_
        refine lv_bipush (v := 29) C.1.1 C.1.2.1 dX7_tellLaw_111 (by decide) ?_
        obtain ⟨σ38, hc37, hf⟩ := bd hf
        try dsimp only at hf
        refine cVv C hW (mX7_must hk_a0 hc37) hk_a0 kvX7_must w_1295 ⟨(Nat.le_of_ble_eq_true rfl), (Nat.le_of_ble_eq_true rfl)⟩ ⟨Nat.zero_le _, Nat.zero_le _⟩ rfl hl.1 (rest := []) rfl (Nat.le_of_ble_eq_true rfl) dX7_tellLaw_113 (fun H locs hW => ?_)
        refine lv_aload_n C.1.1 C.1.2.1 dX7_tellLaw_116 rfl (lv_at hl 0 rfl) ?_
        obtain ⟨σ43, hc42, hf⟩ := bd hf
        try dsimp only at hf
        refine cVv C hW (mX7_term hk_a0 hc42) hk_a0 kvX7_term w_1335 ⟨(Nat.le_of_ble_eq_true rfl), (Nat.le_of_ble_eq_true rfl)⟩ ⟨Nat.zero_le _, Nat.zero_le _⟩ rfl hl.1 (rest := []) rfl (Nat.le_of_ble_eq_true rfl) dX7_tellLaw_117 (fun H locs hW => ?_)
        refine lv_aload_n C.1.1 C.1.2.1 dX7_tellLaw_120 rfl (lv_at hl 0 rfl) ?_
        refine lv_bipush (v := 30) C.1.1 C.1.2.1 dX7_tellLaw_121 (by decide) ?_
        obtain ⟨σ48, hc47, hf⟩ := bd hf
        try dsimp only at hf
        refine cVv C hW (mX7_must hk_a0 hc47) hk_a0 kvX7_must w_1295 ⟨(Nat.le_of_ble_eq_true rfl), (Nat.le_of_ble_eq_true rfl)⟩ ⟨Nat.zero_le _, Nat.zero_le _⟩ rfl hl.1 (rest := []) rfl (Nat.le_of_ble_eq_true rfl) dX7_tellLaw_123 (fun H locs hW => ?_)
        refine lv_goto (tgt := 12) C.1.1 C.1.2.1 dX7_tellLaw_126 (by decide) ?_
        cases hf
        exact ih _ _ _ _ _ _ hx hW (lv_sub hl [0, 1, 2, 3] rfl) K12_45 K12_129
      have J38 : ∀ (x3 : Int32) (σ : Sg) (H : Heap) (locs : List Loc) (ls : Array Slot), jX7_tellLaw_38 a0 p1 x2 x3 σ = some x → Ws G σ s.heap H locs → lv_has ls 4 [(0, .ref (gB G + a0)), (1, .int p1), (2, .int x2), (3, .int x3)] → W p l e (rmOf 5 103) s m args below meth c H locs 0 0 Q (F0 m 38 ls []) := by
        intro x3 σ H locs ls hf hW hl
        delta jX7_tellLaw_38 at hf
        refine lv_aload_n C.1.1 C.1.2.1 dX7_tellLaw_38 rfl (lv_at hl 0 rfl) ?_
        refine gf7_13 C hW hk_a0 w_1043 dX7_tellLaw_39 ?_
        refine lv_if_le (tgt := 46) C.1.1 C.1.2.1 dX7_tellLaw_42 (by decide) (fun h9 => ?_) (fun h9 => ?_)
        · replace hf := (if_pos h9).symm.trans hf
          refine lv_iinc (v := _) (lv' := [(3, .int _), (0, .ref _), (1, .int _), (2, .int _)]) C.1.1 C.1.2.1 dX7_tellLaw_46 hl (k := 3) rfl (ii (k := 1) (by decide)) (by decide) rfl (fun ls hl => ?_)
          refine lv_aload_n C.1.1 C.1.2.1 dX7_tellLaw_49 rfl (lv_at hl 1 rfl) ?_
          obtain ⟨σ14, hc13, hf⟩ := bd hf
          try dsimp only at hf
          refine cVv C hW (mX7_goesOn hk_a0 hc13) hk_a0 kvX7_goesOn w_1287 ⟨(Nat.le_of_ble_eq_true rfl), (Nat.le_of_ble_eq_true rfl)⟩ ⟨Nat.zero_le _, Nat.zero_le _⟩ rfl hl.1 (rest := []) rfl (Nat.le_of_ble_eq_true rfl) dX7_tellLaw_50 (fun H locs hW => ?_)
          refine lv_aload_n C.1.1 C.1.2.1 dX7_tellLaw_53 rfl (lv_at hl 1 rfl) ?_
          have hk18 := sh7_34 hW hk_a0
          refine gf7_34 C hW hk_a0 w_1064 dX7_tellLaw_54 ?_
          refine lv_aload_n C.1.1 C.1.2.1 dX7_tellLaw_57 rfl (lv_at hl 1 rfl) ?_
          refine gf7_33 C hW hk_a0 w_1063 dX7_tellLaw_58 ?_
          refine lv_iconst (v := 1) C.1.1 C.1.2.1 dX7_tellLaw_61 (by decide) ?_
          obtain ⟨hv19, hf⟩ := gd hf
          refine wsz C hW hk18 (vin_p hv19) dX7_tellLaw_62 (fun H locs hW => ?_)
          refine lv_aload_n C.1.1 C.1.2.1 dX7_tellLaw_63 rfl (lv_at hl 1 rfl) ?_
          have hk21 := sh7_35 hW hk_a0
          refine gf7_35 C hW hk_a0 w_1065 dX7_tellLaw_64 ?_
          refine lv_aload_n C.1.1 C.1.2.1 dX7_tellLaw_67 rfl (lv_at hl 1 rfl) ?_
          refine gf7_33 C hW hk_a0 w_1063 dX7_tellLaw_68 ?_
          refine lv_aload_n C.1.1 C.1.2.1 dX7_tellLaw_71 rfl (lv_at hl 1 rfl) ?_
          refine gf7_39 C hW hk_a0 w_1069 dX7_tellLaw_72 ?_
          obtain ⟨hv22, hf⟩ := gd hf
          refine wsi C hW hk21 (vin_p hv22) dX7_tellLaw_75 (fun H locs hW => ?_)
          refine lv_aload_n C.1.1 C.1.2.1 dX7_tellLaw_76 rfl (lv_at hl 1 rfl) ?_
          obtain ⟨σ25, hc24, hf⟩ := bd hf
          try dsimp only at hf
          refine cVv C hW (mX7_expression hk_a0 hc24) hk_a0 kvX7_expression w_1319 ⟨(Nat.le_of_ble_eq_true rfl), (Nat.le_of_ble_eq_true rfl)⟩ ⟨Nat.zero_le _, Nat.zero_le _⟩ rfl hl.1 (rest := []) rfl (Nat.le_of_ble_eq_true rfl) dX7_tellLaw_77 (fun H locs hW => ?_)
          refine lv_aload_n C.1.1 C.1.2.1 dX7_tellLaw_80 rfl (lv_at hl 1 rfl) ?_
          refine lv_bipush (v := 13) C.1.1 C.1.2.1 dX7_tellLaw_81 (by decide) ?_
          obtain ⟨σ30, hc29, hf⟩ := bd hf
          try dsimp only at hf
          refine cVv C hW (mX7_must hk_a0 hc29) hk_a0 kvX7_must w_1295 ⟨(Nat.le_of_ble_eq_true rfl), (Nat.le_of_ble_eq_true rfl)⟩ ⟨Nat.zero_le _, Nat.zero_le _⟩ rfl hl.1 (rest := []) rfl (Nat.le_of_ble_eq_true rfl) dX7_tellLaw_83 (fun H locs hW => ?_)
          refine lv_aload_n C.1.1 C.1.2.1 dX7_tellLaw_86 rfl (lv_at hl 1 rfl) ?_
          have hk34 := sh7_36 hW hk_a0
          refine gf7_36 C hW hk_a0 w_1066 dX7_tellLaw_87 ?_
          refine lv_aload_n C.1.1 C.1.2.1 dX7_tellLaw_90 rfl (lv_at hl 1 rfl) ?_
          refine gf7_33 C hW hk_a0 w_1063 dX7_tellLaw_91 ?_
          refine lv_aload_n C.1.1 C.1.2.1 dX7_tellLaw_94 rfl (lv_at hl 1 rfl) ?_
          refine gf7_39 C hW hk_a0 w_1069 dX7_tellLaw_95 ?_
          obtain ⟨hv35, hf⟩ := gd hf
          refine wsi C hW hk34 (vin_p hv35) dX7_tellLaw_98 (fun H locs hW => ?_)
          refine lv_aload_n C.1.1 C.1.2.1 dX7_tellLaw_99 rfl (lv_at hl 1 rfl) ?_
          refine gf7_13 C hW hk_a0 w_1043 dX7_tellLaw_100 ?_
          refine lv_if_ne (tgt := 110) C.1.1 C.1.2.1 dX7_tellLaw_103 (by decide) (fun h9 => ?_) (fun h9 => ?_)
          · replace hf := (if_neg h9).symm.trans hf
            exact J110 _ _ _ _ _ hf hW (lv_sub hl [1, 2, 3, 0] rfl)
          · replace hf := (if_pos h9).symm.trans hf
            refine lv_aload_n C.1.1 C.1.2.1 dX7_tellLaw_106 rfl (lv_at hl 1 rfl) ?_
            obtain ⟨σ53, hc52, hf⟩ := bd hf
            try dsimp only at hf
            refine cVv C hW (mX7_expression hk_a0 hc52) hk_a0 kvX7_expression w_1319 ⟨(Nat.le_of_ble_eq_true rfl), (Nat.le_of_ble_eq_true rfl)⟩ ⟨Nat.zero_le _, Nat.zero_le _⟩ rfl hl.1 (rest := []) rfl (Nat.le_of_ble_eq_true rfl) dX7_tellLaw_107 (fun H locs hW => ?_)
            exact J110 _ _ _ _ _ hf hW (lv_sub hl [1, 2, 3, 0] rfl)
        · replace hf := (if_neg h9).symm.trans hf
          cases hf
          cases hx
          exact K12_45 _ _ _ _ rfl hW (lv_sub hl [] rfl)
      refine lv_aload_n C.1.1 C.1.2.1 dX7_tellLaw_12 rfl (lv_at hl 0 rfl) ?_
      refine gf7_13 C hW hk_a0 w_1043 dX7_tellLaw_13 ?_
      refine lv_if_ne (tgt := 129) C.1.1 C.1.2.1 dX7_tellLaw_16 (by decide) (fun h9 => ?_) (fun h9 => ?_)
      · replace hf := (if_neg h9).symm.trans hf
        cases hf
        cases hx
        exact K12_129 _ _ _ _ rfl hW (lv_sub hl [0, 1, 2] rfl)
      · replace hf := (if_pos h9).symm.trans hf
        refine lv_aload_n C.1.1 C.1.2.1 dX7_tellLaw_19 rfl (lv_at hl 0 rfl) ?_
        refine lv_bipush (v := 28) C.1.1 C.1.2.1 dX7_tellLaw_20 (by decide) ?_
        obtain ⟨⟨r9, σ8⟩, hc7, hf⟩ := bd hf
        try dsimp only at hf
        refine cVi C hW (mX7_is hk_a0 hc7) hk_a0 kvX7_is w_1271 ⟨(Nat.le_of_ble_eq_true rfl), (Nat.le_of_ble_eq_true rfl)⟩ ⟨Nat.zero_le _, Nat.zero_le _⟩ rfl hl.1 (rest := []) rfl (Nat.le_of_ble_eq_true rfl) dX7_tellLaw_22 (fun H locs hn10 hW => ?_)
        refine lv_if_eq (tgt := 129) C.1.1 C.1.2.1 dX7_tellLaw_25 (by decide) (fun h9 => ?_) (fun h9 => ?_)
        · replace hf := (if_pos h9).symm.trans hf
          cases hf
          cases hx
          exact K12_129 _ _ _ _ rfl hW (lv_sub hl [0, 1, 2] rfl)
        · replace hf := (if_neg h9).symm.trans hf
          refine lv_iload_n C.1.1 C.1.2.1 dX7_tellLaw_28 rfl (lv_at hl 3 rfl) ?_
          refine lv_iconst (v := 4) C.1.1 C.1.2.1 dX7_tellLaw_29 (by decide) ?_
          refine lv_icmp_ne (tgt := 38) C.1.1 C.1.2.1 dX7_tellLaw_30 (by decide) (fun h9 => ?_) (fun h9 => ?_)
          · replace hf := (if_neg h9).symm.trans hf
            exact J38 _ _ _ _ _ hf hW (lv_sub hl [0, 1, 2, 3] rfl)
          · replace hf := (if_pos h9).symm.trans hf
            refine lv_aload_n C.1.1 C.1.2.1 dX7_tellLaw_33 rfl (lv_at hl 0 rfl) ?_
            refine lv_iconst (v := 2) C.1.1 C.1.2.1 dX7_tellLaw_34 (by decide) ?_
            obtain ⟨σ58, hc57, hf⟩ := bd hf
            try dsimp only at hf
            refine cVv C hW (mX7_fail hk_a0 hc57) hk_a0 kvX7_fail w_1283 ⟨(Nat.le_of_ble_eq_true rfl), (Nat.le_of_ble_eq_true rfl)⟩ ⟨Nat.zero_le _, Nat.zero_le _⟩ rfl hl.1 (rest := []) rfl (Nat.le_of_ble_eq_true rfl) dX7_tellLaw_35 (fun H locs hW => ?_)
            exact J38 _ _ _ _ _ hf hW (lv_sub hl [0, 1, 2, 3] rfl)
  refine lv_aload_n C.1.1 C.1.2.1 dX7_tellLaw_0 rfl (lv_at hl 0 rfl) ?_
  refine lv_iconst (v := 5) C.1.1 C.1.2.1 dX7_tellLaw_1 (by decide) ?_
  obtain ⟨σ2, hc1, hf⟩ := bd hf
  try dsimp only at hf
  refine cVv C hW (mX7_must hk_a0 hc1) hk_a0 kvX7_must w_1295 ⟨(Nat.le_of_ble_eq_true rfl), (Nat.le_of_ble_eq_true rfl)⟩ ⟨Nat.zero_le _, Nat.zero_le _⟩ rfl hl.1 (rest := []) rfl (Nat.le_of_ble_eq_true rfl) dX7_tellLaw_2 (fun H locs hW => ?_)
  refine lv_aload_n C.1.1 C.1.2.1 dX7_tellLaw_5 rfl (lv_at hl 0 rfl) ?_
  refine gf7_33 C hW hk_a0 w_1063 dX7_tellLaw_6 ?_
  refine lv_istore_n (lv' := [(2, .int _), (0, .ref _), (1, .int _)]) C.1.1 C.1.2.1 dX7_tellLaw_9 rfl hl (by decide) rfl (fun ls hl => ?_)
  refine lv_iconst (v := 0) C.1.1 C.1.2.1 dX7_tellLaw_10 (by decide) ?_
  refine lv_istore_n (lv' := [(3, .int _), (2, .int _), (0, .ref _), (1, .int _)]) C.1.1 C.1.2.1 dX7_tellLaw_11 rfl hl (by decide) rfl (fun ls hl => ?_)
  obtain ⟨o62, ho, hf⟩ := bd hf
  obtain ⟨n, ho⟩ := lp_it ho
  refine L12 _ n _ _ _ _ _ o62 ho hW (lv_sub hl [2, 3, 1, 0] rfl) ?_ ?_
  · intro  σ63 H locs ls e9 hW hl
    subst e9
    try dsimp only at hf
    exact rv hQ C hr hlk hW hf dX7_tellLaw_45
  · intro  σ64 H locs ls e9 hW hl
    subst e9
    try dsimp only at hf
    refine lv_aload_n C.1.1 C.1.2.1 dX7_tellLaw_129 rfl (lv_at hl 0 rfl) ?_
    have hk65 := sh7_34 hW hk_a0
    refine gf7_34 C hW hk_a0 w_1064 dX7_tellLaw_130 ?_
    refine lv_aload_n C.1.1 C.1.2.1 dX7_tellLaw_133 rfl (lv_at hl 0 rfl) ?_
    refine gf7_33 C hW hk_a0 w_1063 dX7_tellLaw_134 ?_
    refine lv_iconst (v := 0) C.1.1 C.1.2.1 dX7_tellLaw_137 (by decide) ?_
    obtain ⟨hv66, hf⟩ := gd hf
    refine wsz C hW hk65 (vin_p hv66) dX7_tellLaw_138 (fun H locs hW => ?_)
    refine lv_aload_n C.1.1 C.1.2.1 dX7_tellLaw_139 rfl (lv_at hl 0 rfl) ?_
    obtain ⟨σ69, hc68, hf⟩ := bd hf
    try dsimp only at hf
    refine cVv C hW (mX7_term hk_a0 hc68) hk_a0 kvX7_term w_1335 ⟨(Nat.le_of_ble_eq_true rfl), (Nat.le_of_ble_eq_true rfl)⟩ ⟨Nat.zero_le _, Nat.zero_le _⟩ rfl hl.1 (rest := []) rfl (Nat.le_of_ble_eq_true rfl) dX7_tellLaw_140 (fun H locs hW => ?_)
    refine lv_aload_n C.1.1 C.1.2.1 dX7_tellLaw_143 rfl (lv_at hl 0 rfl) ?_
    refine lv_iconst (v := 4) C.1.1 C.1.2.1 dX7_tellLaw_144 (by decide) ?_
    obtain ⟨σ74, hc73, hf⟩ := bd hf
    try dsimp only at hf
    refine cVv C hW (mX7_must hk_a0 hc73) hk_a0 kvX7_must w_1295 ⟨(Nat.le_of_ble_eq_true rfl), (Nat.le_of_ble_eq_true rfl)⟩ ⟨Nat.zero_le _, Nat.zero_le _⟩ rfl hl.1 (rest := []) rfl (Nat.le_of_ble_eq_true rfl) dX7_tellLaw_145 (fun H locs hW => ?_)
    refine lv_aload_n C.1.1 C.1.2.1 dX7_tellLaw_148 rfl (lv_at hl 0 rfl) ?_
    refine gf7_13 C hW hk_a0 w_1043 dX7_tellLaw_149 ?_
    refine lv_if_le (tgt := 156) C.1.1 C.1.2.1 dX7_tellLaw_152 (by decide) (fun h9 => ?_) (fun h9 => ?_)
    · replace hf := (if_pos h9).symm.trans hf
      refine lv_aload_n C.1.1 C.1.2.1 dX7_tellLaw_156 rfl (lv_at hl 0 rfl) ?_
      have hk78 := sh7_31 hW hk_a0
      refine gf7_31 C hW hk_a0 w_1061 dX7_tellLaw_157 ?_
      refine lv_iconst (v := 4) C.1.1 C.1.2.1 dX7_tellLaw_160 (by decide) ?_
      refine lv_aload_n C.1.1 C.1.2.1 dX7_tellLaw_161 rfl (lv_at hl 0 rfl) ?_
      refine gf7_19 C hW hk_a0 w_1049 dX7_tellLaw_162 ?_
      refine lv_imul C.1.1 C.1.2.1 dX7_tellLaw_165 ?_
      refine lv_iload_n C.1.1 C.1.2.1 dX7_tellLaw_166 rfl (lv_at hl 1 rfl) ?_
      refine lv_iadd C.1.1 C.1.2.1 dX7_tellLaw_167 ?_
      refine lv_iload_n C.1.1 C.1.2.1 dX7_tellLaw_168 rfl (lv_at hl 2 rfl) ?_
      obtain ⟨hv79, hf⟩ := gd hf
      refine wsi C hW hk78 (vin_p hv79) dX7_tellLaw_169 (fun H locs hW => ?_)
      refine lv_aload_n C.1.1 C.1.2.1 dX7_tellLaw_170 rfl (lv_at hl 0 rfl) ?_
      have hk81 := sh7_32 hW hk_a0
      refine gf7_32 C hW hk_a0 w_1062 dX7_tellLaw_171 ?_
      refine lv_iconst (v := 4) C.1.1 C.1.2.1 dX7_tellLaw_174 (by decide) ?_
      refine lv_aload_n C.1.1 C.1.2.1 dX7_tellLaw_175 rfl (lv_at hl 0 rfl) ?_
      refine gf7_19 C hW hk_a0 w_1049 dX7_tellLaw_176 ?_
      refine lv_imul C.1.1 C.1.2.1 dX7_tellLaw_179 ?_
      refine lv_iload_n C.1.1 C.1.2.1 dX7_tellLaw_180 rfl (lv_at hl 1 rfl) ?_
      refine lv_iadd C.1.1 C.1.2.1 dX7_tellLaw_181 ?_
      refine lv_aload_n C.1.1 C.1.2.1 dX7_tellLaw_182 rfl (lv_at hl 0 rfl) ?_
      refine gf7_33 C hW hk_a0 w_1063 dX7_tellLaw_183 ?_
      obtain ⟨hv82, hf⟩ := gd hf
      refine wsi C hW hk81 (vin_p hv82) dX7_tellLaw_186 (fun H locs hW => ?_)
      exact rv hQ C hr hlk hW hf dX7_tellLaw_187
    · replace hf := (if_neg h9).symm.trans hf
      exact rv hQ C hr hlk hW hf dX7_tellLaw_155
theorem kvX7_tellSpare : KV 7 "RightKeysModel" yX7_tellSpare cX7_tellSpare 2 none 0 := ⟨⟨w_1309, w_60, w_116, w_1310⟩, ⟨rfl, by decide, by decide, by decide +kernel⟩, by decide, rfl⟩
noncomputable def fX7_tellSpare (a0 : Nat) (σ : Sg) : Option (Sg) := if vin (σ.1 a0 19) 2 then ((let x1_3 := (((6 : Int32) * (σ.1 a0 19)) + (σ.1 (a0 + 14) (((σ.1 a0 19)).toNatClampNeg))); (fX7_known a0 σ).bind (fun q9 => let r7 := q9.1; let σ6 := q9.2; if vin x1_3 12 then (let σ11 := wI σ6 (a0 + 15) ((x1_3).toNatClampNeg) r7; (fX7_known a0 σ11).bind (fun q17 => let r15 := q17.1; let σ14 := q17.2; (let σ18 := wI σ14 (a0 + 16) ((x1_3).toNatClampNeg) r15; (fX7_must a0 (4 : Int32) σ18).bind (fun σ20 => if (σ20.1 a0 13) = 0 then (if vin (σ20.1 a0 19) 2 then ((let σ26 := wI σ20 (a0 + 14) (((σ20.1 a0 19)).toNatClampNeg) ((σ20.1 (a0 + 14) (((σ20.1 a0 19)).toNatClampNeg)) + (1 : Int32)); some σ26)) else none) else (some σ20))))) else none))) else none
set_option maxRecDepth 100000 in
set_option maxHeartbeats 4000000 in
theorem mX7_tellSpare {l : Launch} {G : Gm} {a0 : Nat} {σ : Sg} {σ' : Sg} (hk_a0 : gK G a0 = 8) (hf : fX7_tellSpare a0 σ = some σ') : Mv l G yX7_tellSpare cX7_tellSpare 2 4 84 [.ref (gB G + a0)] σ σ' := by
  refine of_W "RightKeysModel" rfl (by decide) (Nat.le_of_ble_eq_true rfl) ?_
  intro p e s m args below meth c Q hQ C hr hlk hW ls hl
  have h00 := hW.1
  have hl : lv_has ls 2 [(0, .ref (gB G + a0))] := hl
  delta fX7_tellSpare at hf
  refine lv_bipush (v := 6) C.1.1 C.1.2.1 dX7_tellSpare_0 (by decide) ?_
  refine lv_aload_n C.1.1 C.1.2.1 dX7_tellSpare_2 rfl (lv_at hl 0 rfl) ?_
  refine gf7_19 C hW hk_a0 w_1049 dX7_tellSpare_3 ?_
  refine lv_imul C.1.1 C.1.2.1 dX7_tellSpare_6 ?_
  refine lv_aload_n C.1.1 C.1.2.1 dX7_tellSpare_7 rfl (lv_at hl 0 rfl) ?_
  have hk1 := sh7_27 hW hk_a0
  refine gf7_27 C hW hk_a0 w_1057 dX7_tellSpare_8 ?_
  refine lv_aload_n C.1.1 C.1.2.1 dX7_tellSpare_11 rfl (lv_at hl 0 rfl) ?_
  refine gf7_19 C hW hk_a0 w_1049 dX7_tellSpare_12 ?_
  obtain ⟨hv2, hf⟩ := gd hf
  refine wai C hW hk1 (vin_p hv2) dX7_tellSpare_15 ?_
  refine lv_iadd C.1.1 C.1.2.1 dX7_tellSpare_16 ?_
  refine lv_istore_n (lv' := [(1, .int _), (0, .ref _)]) C.1.1 C.1.2.1 dX7_tellSpare_17 rfl hl (by decide) rfl (fun ls hl => ?_)
  refine lv_aload_n C.1.1 C.1.2.1 dX7_tellSpare_18 rfl (lv_at hl 1 rfl) ?_
  have hk4 := sh7_28 hW hk_a0
  refine gf7_28 C hW hk_a0 w_1058 dX7_tellSpare_19 ?_
  refine lv_iload_n C.1.1 C.1.2.1 dX7_tellSpare_22 rfl (lv_at hl 0 rfl) ?_
  refine lv_aload_n C.1.1 C.1.2.1 dX7_tellSpare_23 rfl (lv_at hl 1 rfl) ?_
  obtain ⟨⟨r7, σ6⟩, hc5, hf⟩ := bd hf
  try dsimp only at hf
  refine cVi C hW (mX7_known hk_a0 hc5) hk_a0 kvX7_known w_1311 ⟨(Nat.le_of_ble_eq_true rfl), (Nat.le_of_ble_eq_true rfl)⟩ ⟨Nat.zero_le _, Nat.zero_le _⟩ rfl hl.1 (rest := [.int _, .ref _]) rfl (Nat.le_of_ble_eq_true rfl) dX7_tellSpare_24 (fun H locs hn8 hW => ?_)
  obtain ⟨hv10, hf⟩ := gd hf
  refine wsi C hW hk4 (vin_p hv10) dX7_tellSpare_27 (fun H locs hW => ?_)
  refine lv_aload_n C.1.1 C.1.2.1 dX7_tellSpare_28 rfl (lv_at hl 1 rfl) ?_
  have hk12 := sh7_29 hW hk_a0
  refine gf7_29 C hW hk_a0 w_1059 dX7_tellSpare_29 ?_
  refine lv_iload_n C.1.1 C.1.2.1 dX7_tellSpare_32 rfl (lv_at hl 0 rfl) ?_
  refine lv_aload_n C.1.1 C.1.2.1 dX7_tellSpare_33 rfl (lv_at hl 1 rfl) ?_
  obtain ⟨⟨r15, σ14⟩, hc13, hf⟩ := bd hf
  try dsimp only at hf
  refine cVi C hW (mX7_known hk_a0 hc13) hk_a0 kvX7_known w_1311 ⟨(Nat.le_of_ble_eq_true rfl), (Nat.le_of_ble_eq_true rfl)⟩ ⟨Nat.zero_le _, Nat.zero_le _⟩ rfl hl.1 (rest := [.int _, .ref _]) rfl (Nat.le_of_ble_eq_true rfl) dX7_tellSpare_34 (fun H locs hn16 hW => ?_)
  refine wsi C hW hk12 (vin_p hv10) dX7_tellSpare_37 (fun H locs hW => ?_)
  refine lv_aload_n C.1.1 C.1.2.1 dX7_tellSpare_38 rfl (lv_at hl 1 rfl) ?_
  refine lv_iconst (v := 4) C.1.1 C.1.2.1 dX7_tellSpare_39 (by decide) ?_
  obtain ⟨σ20, hc19, hf⟩ := bd hf
  try dsimp only at hf
  refine cVv C hW (mX7_must hk_a0 hc19) hk_a0 kvX7_must w_1295 ⟨(Nat.le_of_ble_eq_true rfl), (Nat.le_of_ble_eq_true rfl)⟩ ⟨Nat.zero_le _, Nat.zero_le _⟩ rfl hl.1 (rest := []) rfl (Nat.le_of_ble_eq_true rfl) dX7_tellSpare_40 (fun H locs hW => ?_)
  refine lv_aload_n C.1.1 C.1.2.1 dX7_tellSpare_43 rfl (lv_at hl 1 rfl) ?_
  refine gf7_13 C hW hk_a0 w_1043 dX7_tellSpare_44 ?_
  refine lv_if_ne (tgt := 63) C.1.1 C.1.2.1 dX7_tellSpare_47 (by decide) (fun h9 => ?_) (fun h9 => ?_)
  · replace hf := (if_neg h9).symm.trans hf
    exact rv hQ C hr hlk hW hf dX7_tellSpare_63
  · replace hf := (if_pos h9).symm.trans hf
    refine lv_aload_n C.1.1 C.1.2.1 dX7_tellSpare_50 rfl (lv_at hl 1 rfl) ?_
    have hk24 := sh7_27 hW hk_a0
    refine gf7_27 C hW hk_a0 w_1057 dX7_tellSpare_51 ?_
    refine lv_aload_n C.1.1 C.1.2.1 dX7_tellSpare_54 rfl (lv_at hl 1 rfl) ?_
    refine gf7_19 C hW hk_a0 w_1049 dX7_tellSpare_55 ?_
    refine lv_dup2_11 C.1.1 C.1.2.1 dX7_tellSpare_58 rfl rfl ?_
    obtain ⟨hv25, hf⟩ := gd hf
    refine wai C hW hk24 (vin_p hv25) dX7_tellSpare_59 ?_
    refine lv_iconst (v := 1) C.1.1 C.1.2.1 dX7_tellSpare_60 (by decide) ?_
    refine lv_iadd C.1.1 C.1.2.1 dX7_tellSpare_61 ?_
    refine wsi C hW hk24 (vin_p hv25) dX7_tellSpare_62 (fun H locs hW => ?_)
    exact rv hQ C hr hlk hW hf dX7_tellSpare_63
theorem kvX7_tellOne : KV 7 "RightKeysModel" yX7_tellOne cX7_tellOne 3 none 0 := ⟨⟨w_1277, w_52, w_116, w_1278⟩, ⟨rfl, by decide, by decide, by decide +kernel⟩, by decide, rfl⟩
noncomputable def jX7_tellOne_155 (a0 : Nat) (x2 : Int32) (σ : Sg) : Option (Sg) := (fX7_must a0 (4 : Int32) σ).bind (fun σ42 => if x2 < 0 then (some σ42) else (if vin (((8 : Int32) * (σ42.1 a0 19)) + x2) 16 then (let σ48 := wI σ42 (a0 + 13) (((((8 : Int32) * (σ42.1 a0 19)) + x2)).toNatClampNeg) (vp_nar .boolean (1 : Int32)); some σ48) else none))
noncomputable def jX7_tellOne_247 (a0 : Nat) (x1 : Int32) (σ : Sg) : Option (Sg) := if (σ.1 a0 13) ≤ 0 then ((fX7_goesOn a0 σ).bind (fun σ83 => (fX7_tellLaw a0 x1 σ83).bind (fun σ88 => some σ88))) else (some σ)
noncomputable def jX7_tellOne_242 (a0 : Nat) (x1 : Int32) (σ : Sg) : Option (Sg) := (fX7_fail a0 (1 : Int32) σ).bind (fun σ78 => jX7_tellOne_247 a0 x1 σ78)
noncomputable def fX7_tellOne (a0 : Nat) (σ : Sg) : Option (Sg) := if vin (σ.1 a0 11) 403 then (if (σ.1 (a0 + 3) (((σ.1 a0 11)).toNatClampNeg)) = 20 then (if vin (σ.1 a0 19) 2 then ((fX7_roomFor a0 (σ.1 (a0 + 9) (((σ.1 a0 19)).toNatClampNeg)) (8 : Int32) σ).bind (fun σ7 => if (σ7.1 a0 13) = 0 then ((fX7_tellHouse a0 σ7).bind (fun σ12 => some σ12)) else (some σ7))) else none) else (if (σ.1 (a0 + 3) (((σ.1 a0 11)).toNatClampNeg)) = 21 then (if vin (σ.1 a0 19) 2 then ((fX7_roomFor a0 (σ.1 (a0 + 14) (((σ.1 a0 19)).toNatClampNeg)) (6 : Int32) σ).bind (fun σ20 => if (σ20.1 a0 13) = 0 then ((fX7_tellSpare a0 σ20).bind (fun σ25 => some σ25)) else (some σ20))) else none) else (if (σ.1 (a0 + 3) (((σ.1 a0 11)).toNatClampNeg)) = 22 then ((fX7_goesOn a0 σ).bind (fun σ31 => (let x1_35 := (σ31.1 a0 11); (fX7_known a0 σ31).bind (fun q40 => let r38 := q40.1; let σ37 := q40.2; if r38 < 0 then (jX7_tellOne_155 a0 r38 σ37) else (if vin (((8 : Int32) * (σ37.1 a0 19)) + r38) 16 then (if (σ37.1 (a0 + 13) (((((8 : Int32) * (σ37.1 a0 19)) + r38)).toNatClampNeg)) = 0 then (jX7_tellOne_155 a0 r38 σ37) else ((fX7_wrong a0 (3 : Int32) x1_35 σ37).bind (fun σ52 => jX7_tellOne_155 a0 r38 σ52))) else none))))) else (if (σ.1 (a0 + 3) (((σ.1 a0 11)).toNatClampNeg)) = 27 then ((fX7_goesOn a0 σ).bind (fun σ58 => (fX7_bounded a0 (0 : Int32) (9999 : Int32) σ58).bind (fun q67 => let r65 := q67.1; let σ64 := q67.2; if vin (σ58.1 a0 19) 2 then (let σ69 := wI σ64 (a0 + 17) (((σ58.1 a0 19)).toNatClampNeg) r65; (fX7_must a0 (4 : Int32) σ69).bind (fun σ71 => some σ71)) else none))) else (((let x1_76 := ((σ.1 (a0 + 3) (((σ.1 a0 11)).toNatClampNeg)) - (23 : Int32)); if x1_76 < 0 then (jX7_tellOne_242 a0 x1_76 σ) else (if (σ.1 (a0 + 3) (((σ.1 a0 11)).toNatClampNeg)) ≤ (26 : Int32) then (jX7_tellOne_247 a0 x1_76 σ) else (jX7_tellOne_242 a0 x1_76 σ))))))))) else none
set_option maxRecDepth 100000 in
set_option maxHeartbeats 4000000 in
theorem mX7_tellOne {l : Launch} {G : Gm} {a0 : Nat} {σ : Sg} {σ' : Sg} (hk_a0 : gK G a0 = 8) (hf : fX7_tellOne a0 σ = some σ') : Mv l G yX7_tellOne cX7_tellOne 3 6 126 [.ref (gB G + a0)] σ σ' := by
  refine of_W "RightKeysModel" rfl (by decide) (Nat.le_of_ble_eq_true rfl) ?_
  intro p e s m args below meth c Q hQ C hr hlk hW ls hl
  have h00 := hW.1
  have hl : lv_has ls 3 [(0, .ref (gB G + a0))] := hl
  delta fX7_tellOne at hf
  have J155 : ∀ (x2 : Int32) (σ : Sg) (H : Heap) (locs : List Loc) (ls : Array Slot), jX7_tellOne_155 a0 x2 σ = some σ' → Ws G σ s.heap H locs → lv_has ls 3 [(0, .ref (gB G + a0)), (2, .int x2)] → W p l e (rmOf 6 126) s m args below meth c H locs 0 0 Q (F0 m 155 ls []) := by
    intro x2 σ H locs ls hf hW hl
    delta jX7_tellOne_155 at hf
    refine lv_aload_n C.1.1 C.1.2.1 dX7_tellOne_155 rfl (lv_at hl 0 rfl) ?_
    refine lv_iconst (v := 4) C.1.1 C.1.2.1 dX7_tellOne_156 (by decide) ?_
    obtain ⟨σ42, hc41, hf⟩ := bd hf
    try dsimp only at hf
    refine cVv C hW (mX7_must hk_a0 hc41) hk_a0 kvX7_must w_1295 ⟨(Nat.le_of_ble_eq_true rfl), (Nat.le_of_ble_eq_true rfl)⟩ ⟨Nat.zero_le _, Nat.zero_le _⟩ rfl hl.1 (rest := []) rfl (Nat.le_of_ble_eq_true rfl) dX7_tellOne_157 (fun H locs hW => ?_)
    refine lv_iload_n C.1.1 C.1.2.1 dX7_tellOne_160 rfl (lv_at hl 1 rfl) ?_
    refine lv_if_lt (tgt := 264) C.1.1 C.1.2.1 dX7_tellOne_161 (by decide) (fun h9 => ?_) (fun h9 => ?_)
    · replace hf := (if_pos h9).symm.trans hf
      exact rv hQ C hr hlk hW hf dX7_tellOne_264
    · replace hf := (if_neg h9).symm.trans hf
      refine lv_aload_n C.1.1 C.1.2.1 dX7_tellOne_164 rfl (lv_at hl 0 rfl) ?_
      have hk46 := sh7_26 hW hk_a0
      refine gf7_26 C hW hk_a0 w_1056 dX7_tellOne_165 ?_
      refine lv_bipush (v := 8) C.1.1 C.1.2.1 dX7_tellOne_168 (by decide) ?_
      refine lv_aload_n C.1.1 C.1.2.1 dX7_tellOne_170 rfl (lv_at hl 0 rfl) ?_
      refine gf7_19 C hW hk_a0 w_1049 dX7_tellOne_171 ?_
      refine lv_imul C.1.1 C.1.2.1 dX7_tellOne_174 ?_
      refine lv_iload_n C.1.1 C.1.2.1 dX7_tellOne_175 rfl (lv_at hl 1 rfl) ?_
      refine lv_iadd C.1.1 C.1.2.1 dX7_tellOne_176 ?_
      refine lv_iconst (v := 1) C.1.1 C.1.2.1 dX7_tellOne_177 (by decide) ?_
      obtain ⟨hv47, hf⟩ := gd hf
      refine wsz C hW hk46 (vin_p hv47) dX7_tellOne_178 (fun H locs hW => ?_)
      refine lv_goto (tgt := 264) C.1.1 C.1.2.1 dX7_tellOne_179 (by decide) ?_
      exact rv hQ C hr hlk hW hf dX7_tellOne_264
  have J247 : ∀ (x1 : Int32) (σ : Sg) (H : Heap) (locs : List Loc) (ls : Array Slot), jX7_tellOne_247 a0 x1 σ = some σ' → Ws G σ s.heap H locs → lv_has ls 3 [(0, .ref (gB G + a0)), (1, .int x1)] → W p l e (rmOf 6 126) s m args below meth c H locs 0 0 Q (F0 m 247 ls []) := by
    intro x1 σ H locs ls hf hW hl
    delta jX7_tellOne_247 at hf
    refine lv_aload_n C.1.1 C.1.2.1 dX7_tellOne_247 rfl (lv_at hl 0 rfl) ?_
    refine gf7_13 C hW hk_a0 w_1043 dX7_tellOne_248 ?_
    refine lv_if_le (tgt := 255) C.1.1 C.1.2.1 dX7_tellOne_251 (by decide) (fun h9 => ?_) (fun h9 => ?_)
    · replace hf := (if_pos h9).symm.trans hf
      refine lv_aload_n C.1.1 C.1.2.1 dX7_tellOne_255 rfl (lv_at hl 0 rfl) ?_
      obtain ⟨σ83, hc82, hf⟩ := bd hf
      try dsimp only at hf
      refine cVv C hW (mX7_goesOn hk_a0 hc82) hk_a0 kvX7_goesOn w_1287 ⟨(Nat.le_of_ble_eq_true rfl), (Nat.le_of_ble_eq_true rfl)⟩ ⟨Nat.zero_le _, Nat.zero_le _⟩ rfl hl.1 (rest := []) rfl (Nat.le_of_ble_eq_true rfl) dX7_tellOne_256 (fun H locs hW => ?_)
      refine lv_aload_n C.1.1 C.1.2.1 dX7_tellOne_259 rfl (lv_at hl 0 rfl) ?_
      refine lv_iload_n C.1.1 C.1.2.1 dX7_tellOne_260 rfl (lv_at hl 1 rfl) ?_
      obtain ⟨σ88, hc87, hf⟩ := bd hf
      try dsimp only at hf
      refine cVv C hW (mX7_tellLaw hk_a0 hc87) hk_a0 kvX7_tellLaw w_1315 ⟨(Nat.le_of_ble_eq_true rfl), (Nat.le_of_ble_eq_true rfl)⟩ ⟨Nat.zero_le _, Nat.zero_le _⟩ rfl hl.1 (rest := []) rfl (Nat.le_of_ble_eq_true rfl) dX7_tellOne_261 (fun H locs hW => ?_)
      exact rv hQ C hr hlk hW hf dX7_tellOne_264
    · replace hf := (if_neg h9).symm.trans hf
      exact rv hQ C hr hlk hW hf dX7_tellOne_254
  have J242 : ∀ (x1 : Int32) (σ : Sg) (H : Heap) (locs : List Loc) (ls : Array Slot), jX7_tellOne_242 a0 x1 σ = some σ' → Ws G σ s.heap H locs → lv_has ls 3 [(0, .ref (gB G + a0)), (1, .int x1)] → W p l e (rmOf 6 126) s m args below meth c H locs 0 0 Q (F0 m 242 ls []) := by
    intro x1 σ H locs ls hf hW hl
    delta jX7_tellOne_242 at hf
    refine lv_aload_n C.1.1 C.1.2.1 dX7_tellOne_242 rfl (lv_at hl 0 rfl) ?_
    refine lv_iconst (v := 1) C.1.1 C.1.2.1 dX7_tellOne_243 (by decide) ?_
    obtain ⟨σ78, hc77, hf⟩ := bd hf
    try dsimp only at hf
    refine cVv C hW (mX7_fail hk_a0 hc77) hk_a0 kvX7_fail w_1283 ⟨(Nat.le_of_ble_eq_true rfl), (Nat.le_of_ble_eq_true rfl)⟩ ⟨Nat.zero_le _, Nat.zero_le _⟩ rfl hl.1 (rest := []) rfl (Nat.le_of_ble_eq_true rfl) dX7_tellOne_244 (fun H locs hW => ?_)
    exact J247 _ _ _ _ _ hf hW (lv_sub hl [0, 1] rfl)
  refine lv_aload_n C.1.1 C.1.2.1 dX7_tellOne_0 rfl (lv_at hl 0 rfl) ?_
  have hk1 := sh7_5 hW hk_a0
  refine gf7_5 C hW hk_a0 w_1035 dX7_tellOne_1 ?_
  refine lv_aload_n C.1.1 C.1.2.1 dX7_tellOne_4 rfl (lv_at hl 0 rfl) ?_
  refine gf7_11 C hW hk_a0 w_1041 dX7_tellOne_5 ?_
  obtain ⟨hv2, hf⟩ := gd hf
  refine wai C hW hk1 (vin_p hv2) dX7_tellOne_8 ?_
  refine sw_c (k := 20) (fun hs3 => ?_) (fun hs3 => ?_)
  · replace hf := (if_pos hs3).symm.trans hf
    refine lv_tableIn (tgt := 56) C.1.1 C.1.2.1 dX7_tellOne_9 (by rw [hs3]; decide) (by rw [hs3]; decide) (off := 47) (by rw [hs3]; rfl) (by decide) ?_
    refine lv_aload_n C.1.1 C.1.2.1 dX7_tellOne_56 rfl (lv_at hl 0 rfl) ?_
    refine lv_aload_n C.1.1 C.1.2.1 dX7_tellOne_57 rfl (lv_at hl 0 rfl) ?_
    have hk4 := sh7_22 hW hk_a0
    refine gf7_22 C hW hk_a0 w_1052 dX7_tellOne_58 ?_
    refine lv_aload_n C.1.1 C.1.2.1 dX7_tellOne_61 rfl (lv_at hl 0 rfl) ?_
    refine gf7_19 C hW hk_a0 w_1049 dX7_tellOne_62 ?_
    obtain ⟨hv5, hf⟩ := gd hf
    refine wai C hW hk4 (vin_p hv5) dX7_tellOne_65 ?_
    refine lv_bipush (v := 8) C.1.1 C.1.2.1 dX7_tellOne_66 (by decide) ?_
    obtain ⟨σ7, hc6, hf⟩ := bd hf
    try dsimp only at hf
    refine cVv C hW (mX7_roomFor hk_a0 hc6) hk_a0 kvX7_roomFor w_1279 ⟨(Nat.le_of_ble_eq_true rfl), (Nat.le_of_ble_eq_true rfl)⟩ ⟨Nat.zero_le _, Nat.zero_le _⟩ rfl hl.1 (rest := []) rfl (Nat.le_of_ble_eq_true rfl) dX7_tellOne_68 (fun H locs hW => ?_)
    refine lv_aload_n C.1.1 C.1.2.1 dX7_tellOne_71 rfl (lv_at hl 0 rfl) ?_
    refine gf7_13 C hW hk_a0 w_1043 dX7_tellOne_72 ?_
    refine lv_if_ne (tgt := 264) C.1.1 C.1.2.1 dX7_tellOne_75 (by decide) (fun h9 => ?_) (fun h9 => ?_)
    · replace hf := (if_neg h9).symm.trans hf
      exact rv hQ C hr hlk hW hf dX7_tellOne_264
    · replace hf := (if_pos h9).symm.trans hf
      refine lv_aload_n C.1.1 C.1.2.1 dX7_tellOne_78 rfl (lv_at hl 0 rfl) ?_
      obtain ⟨σ12, hc11, hf⟩ := bd hf
      try dsimp only at hf
      refine cVv C hW (mX7_tellHouse hk_a0 hc11) hk_a0 kvX7_tellHouse w_1291 ⟨(Nat.le_of_ble_eq_true rfl), (Nat.le_of_ble_eq_true rfl)⟩ ⟨Nat.zero_le _, Nat.zero_le _⟩ rfl hl.1 (rest := []) rfl (Nat.le_of_ble_eq_true rfl) dX7_tellOne_79 (fun H locs hW => ?_)
      refine lv_goto (tgt := 264) C.1.1 C.1.2.1 dX7_tellOne_82 (by decide) ?_
      exact rv hQ C hr hlk hW hf dX7_tellOne_264
  · replace hf := (if_neg hs3).symm.trans hf
    refine sw_c (k := 21) (fun hs16 => ?_) (fun hs16 => ?_)
    · replace hf := (if_pos hs16).symm.trans hf
      refine lv_tableIn (tgt := 85) C.1.1 C.1.2.1 dX7_tellOne_9 (by rw [hs16]; decide) (by rw [hs16]; decide) (off := 76) (by rw [hs16]; rfl) (by decide) ?_
      refine lv_aload_n C.1.1 C.1.2.1 dX7_tellOne_85 rfl (lv_at hl 0 rfl) ?_
      refine lv_aload_n C.1.1 C.1.2.1 dX7_tellOne_86 rfl (lv_at hl 0 rfl) ?_
      have hk17 := sh7_27 hW hk_a0
      refine gf7_27 C hW hk_a0 w_1057 dX7_tellOne_87 ?_
      refine lv_aload_n C.1.1 C.1.2.1 dX7_tellOne_90 rfl (lv_at hl 0 rfl) ?_
      refine gf7_19 C hW hk_a0 w_1049 dX7_tellOne_91 ?_
      obtain ⟨hv18, hf⟩ := gd hf
      refine wai C hW hk17 (vin_p hv18) dX7_tellOne_94 ?_
      refine lv_bipush (v := 6) C.1.1 C.1.2.1 dX7_tellOne_95 (by decide) ?_
      obtain ⟨σ20, hc19, hf⟩ := bd hf
      try dsimp only at hf
      refine cVv C hW (mX7_roomFor hk_a0 hc19) hk_a0 kvX7_roomFor w_1279 ⟨(Nat.le_of_ble_eq_true rfl), (Nat.le_of_ble_eq_true rfl)⟩ ⟨Nat.zero_le _, Nat.zero_le _⟩ rfl hl.1 (rest := []) rfl (Nat.le_of_ble_eq_true rfl) dX7_tellOne_97 (fun H locs hW => ?_)
      refine lv_aload_n C.1.1 C.1.2.1 dX7_tellOne_100 rfl (lv_at hl 0 rfl) ?_
      refine gf7_13 C hW hk_a0 w_1043 dX7_tellOne_101 ?_
      refine lv_if_ne (tgt := 264) C.1.1 C.1.2.1 dX7_tellOne_104 (by decide) (fun h9 => ?_) (fun h9 => ?_)
      · replace hf := (if_neg h9).symm.trans hf
        exact rv hQ C hr hlk hW hf dX7_tellOne_264
      · replace hf := (if_pos h9).symm.trans hf
        refine lv_aload_n C.1.1 C.1.2.1 dX7_tellOne_107 rfl (lv_at hl 0 rfl) ?_
        obtain ⟨σ25, hc24, hf⟩ := bd hf
        try dsimp only at hf
        refine cVv C hW (mX7_tellSpare hk_a0 hc24) hk_a0 kvX7_tellSpare w_1307 ⟨(Nat.le_of_ble_eq_true rfl), (Nat.le_of_ble_eq_true rfl)⟩ ⟨Nat.zero_le _, Nat.zero_le _⟩ rfl hl.1 (rest := []) rfl (Nat.le_of_ble_eq_true rfl) dX7_tellOne_108 (fun H locs hW => ?_)
        refine lv_goto (tgt := 264) C.1.1 C.1.2.1 dX7_tellOne_111 (by decide) ?_
        exact rv hQ C hr hlk hW hf dX7_tellOne_264
    · replace hf := (if_neg hs16).symm.trans hf
      refine sw_c (k := 22) (fun hs29 => ?_) (fun hs29 => ?_)
      · replace hf := (if_pos hs29).symm.trans hf
        refine lv_tableIn (tgt := 114) C.1.1 C.1.2.1 dX7_tellOne_9 (by rw [hs29]; decide) (by rw [hs29]; decide) (off := 105) (by rw [hs29]; rfl) (by decide) ?_
        refine lv_aload_n C.1.1 C.1.2.1 dX7_tellOne_114 rfl (lv_at hl 0 rfl) ?_
        obtain ⟨σ31, hc30, hf⟩ := bd hf
        try dsimp only at hf
        refine cVv C hW (mX7_goesOn hk_a0 hc30) hk_a0 kvX7_goesOn w_1287 ⟨(Nat.le_of_ble_eq_true rfl), (Nat.le_of_ble_eq_true rfl)⟩ ⟨Nat.zero_le _, Nat.zero_le _⟩ rfl hl.1 (rest := []) rfl (Nat.le_of_ble_eq_true rfl) dX7_tellOne_115 (fun H locs hW => ?_)
        refine lv_aload_n C.1.1 C.1.2.1 dX7_tellOne_118 rfl (lv_at hl 0 rfl) ?_
        refine gf7_11 C hW hk_a0 w_1041 dX7_tellOne_119 ?_
        refine lv_istore_n (lv' := [(1, .int _), (0, .ref _)]) C.1.1 C.1.2.1 dX7_tellOne_122 rfl hl (by decide) rfl (fun ls hl => ?_)
        refine lv_aload_n C.1.1 C.1.2.1 dX7_tellOne_123 rfl (lv_at hl 1 rfl) ?_
        obtain ⟨⟨r38, σ37⟩, hc36, hf⟩ := bd hf
        try dsimp only at hf
        refine cVi C hW (mX7_known hk_a0 hc36) hk_a0 kvX7_known w_1311 ⟨(Nat.le_of_ble_eq_true rfl), (Nat.le_of_ble_eq_true rfl)⟩ ⟨Nat.zero_le _, Nat.zero_le _⟩ rfl hl.1 (rest := []) rfl (Nat.le_of_ble_eq_true rfl) dX7_tellOne_124 (fun H locs hn39 hW => ?_)
        refine lv_istore_n (lv' := [(2, .int _), (1, .int _), (0, .ref _)]) C.1.1 C.1.2.1 dX7_tellOne_127 rfl hl (by decide) rfl (fun ls hl => ?_)
        refine lv_iload_n C.1.1 C.1.2.1 dX7_tellOne_128 rfl (lv_at hl 0 rfl) ?_
        refine lv_if_lt (tgt := 155) C.1.1 C.1.2.1 dX7_tellOne_129 (by decide) (fun h9 => ?_) (fun h9 => ?_)
        · replace hf := (if_pos h9).symm.trans hf
          exact J155 _ _ _ _ _ hf hW (lv_sub hl [2, 0] rfl)
        · replace hf := (if_neg h9).symm.trans hf
          refine lv_aload_n C.1.1 C.1.2.1 dX7_tellOne_132 rfl (lv_at hl 2 rfl) ?_
          have hk49 := sh7_26 hW hk_a0
          refine gf7_26 C hW hk_a0 w_1056 dX7_tellOne_133 ?_
          refine lv_bipush (v := 8) C.1.1 C.1.2.1 dX7_tellOne_136 (by decide) ?_
          refine lv_aload_n C.1.1 C.1.2.1 dX7_tellOne_138 rfl (lv_at hl 2 rfl) ?_
          refine gf7_19 C hW hk_a0 w_1049 dX7_tellOne_139 ?_
          refine lv_imul C.1.1 C.1.2.1 dX7_tellOne_142 ?_
          refine lv_iload_n C.1.1 C.1.2.1 dX7_tellOne_143 rfl (lv_at hl 0 rfl) ?_
          refine lv_iadd C.1.1 C.1.2.1 dX7_tellOne_144 ?_
          obtain ⟨hv50, hf⟩ := gd hf
          refine waz C hW hk49 (vin_p hv50) dX7_tellOne_145 ?_
          refine lv_if_eq (tgt := 155) C.1.1 C.1.2.1 dX7_tellOne_146 (by decide) (fun h9 => ?_) (fun h9 => ?_)
          · replace hf := (if_pos h9).symm.trans hf
            exact J155 _ _ _ _ _ hf hW (lv_sub hl [2, 0] rfl)
          · replace hf := (if_neg h9).symm.trans hf
            refine lv_aload_n C.1.1 C.1.2.1 dX7_tellOne_149 rfl (lv_at hl 2 rfl) ?_
            refine lv_iconst (v := 3) C.1.1 C.1.2.1 dX7_tellOne_150 (by decide) ?_
            refine lv_iload_n C.1.1 C.1.2.1 dX7_tellOne_151 rfl (lv_at hl 1 rfl) ?_
            obtain ⟨σ52, hc51, hf⟩ := bd hf
            try dsimp only at hf
            refine cVv C hW (mX7_wrong hk_a0 hc51) hk_a0 kvX7_wrong w_1299 ⟨(Nat.le_of_ble_eq_true rfl), (Nat.le_of_ble_eq_true rfl)⟩ ⟨Nat.zero_le _, Nat.zero_le _⟩ rfl hl.1 (rest := []) rfl (Nat.le_of_ble_eq_true rfl) dX7_tellOne_152 (fun H locs hW => ?_)
            exact J155 _ _ _ _ _ hf hW (lv_sub hl [2, 0] rfl)
      · replace hf := (if_neg hs29).symm.trans hf
        refine sw_c (k := 27) (fun hs56 => ?_) (fun hs56 => ?_)
        · replace hf := (if_pos hs56).symm.trans hf
          refine lv_tableIn (tgt := 182) C.1.1 C.1.2.1 dX7_tellOne_9 (by rw [hs56]; decide) (by rw [hs56]; decide) (off := 173) (by rw [hs56]; rfl) (by decide) ?_
          refine lv_aload_n C.1.1 C.1.2.1 dX7_tellOne_182 rfl (lv_at hl 0 rfl) ?_
          obtain ⟨σ58, hc57, hf⟩ := bd hf
          try dsimp only at hf
          refine cVv C hW (mX7_goesOn hk_a0 hc57) hk_a0 kvX7_goesOn w_1287 ⟨(Nat.le_of_ble_eq_true rfl), (Nat.le_of_ble_eq_true rfl)⟩ ⟨Nat.zero_le _, Nat.zero_le _⟩ rfl hl.1 (rest := []) rfl (Nat.le_of_ble_eq_true rfl) dX7_tellOne_183 (fun H locs hW => ?_)
          refine lv_aload_n C.1.1 C.1.2.1 dX7_tellOne_186 rfl (lv_at hl 0 rfl) ?_
          have hk62 := sh7_30 hW hk_a0
          refine gf7_30 C hW hk_a0 w_1060 dX7_tellOne_187 ?_
          refine lv_aload_n C.1.1 C.1.2.1 dX7_tellOne_190 rfl (lv_at hl 0 rfl) ?_
          refine gf7_19 C hW hk_a0 w_1049 dX7_tellOne_191 ?_
          refine lv_aload_n C.1.1 C.1.2.1 dX7_tellOne_194 rfl (lv_at hl 0 rfl) ?_
          refine lv_iconst (v := 0) C.1.1 C.1.2.1 dX7_tellOne_195 (by decide) ?_
          refine lv_sipush (v := 9999) C.1.1 C.1.2.1 dX7_tellOne_196 (by decide) ?_
          obtain ⟨⟨r65, σ64⟩, hc63, hf⟩ := bd hf
          try dsimp only at hf
          refine cVi C hW (mX7_bounded hk_a0 hc63) hk_a0 kvX7_bounded w_1303 ⟨(Nat.le_of_ble_eq_true rfl), (Nat.le_of_ble_eq_true rfl)⟩ ⟨Nat.zero_le _, Nat.zero_le _⟩ rfl hl.1 (rest := [.int _, .ref _]) rfl (Nat.le_of_ble_eq_true rfl) dX7_tellOne_199 (fun H locs hn66 hW => ?_)
          obtain ⟨hv68, hf⟩ := gd hf
          refine wsi C hW hk62 (vin_p hv68) dX7_tellOne_202 (fun H locs hW => ?_)
          refine lv_aload_n C.1.1 C.1.2.1 dX7_tellOne_203 rfl (lv_at hl 0 rfl) ?_
          refine lv_iconst (v := 4) C.1.1 C.1.2.1 dX7_tellOne_204 (by decide) ?_
          obtain ⟨σ71, hc70, hf⟩ := bd hf
          try dsimp only at hf
          refine cVv C hW (mX7_must hk_a0 hc70) hk_a0 kvX7_must w_1295 ⟨(Nat.le_of_ble_eq_true rfl), (Nat.le_of_ble_eq_true rfl)⟩ ⟨Nat.zero_le _, Nat.zero_le _⟩ rfl hl.1 (rest := []) rfl (Nat.le_of_ble_eq_true rfl) dX7_tellOne_205 (fun H locs hW => ?_)
          refine lv_goto (tgt := 264) C.1.1 C.1.2.1 dX7_tellOne_208 (by decide) ?_
          exact rv hQ C hr hlk hW hf dX7_tellOne_264
        · replace hf := (if_neg hs56).symm.trans hf
          refine sw_c (k := 23) (fun hs93 => ?_) (fun hs93 => ?_)
          · refine lv_tableIn (tgt := 211) C.1.1 C.1.2.1 dX7_tellOne_9 (by rw [hs93]; decide) (by rw [hs93]; decide) (off := 202) (by rw [hs93]; rfl) (by decide) ?_
            refine lv_aload_n C.1.1 C.1.2.1 dX7_tellOne_211 rfl (lv_at hl 0 rfl) ?_
            have hk75 := sh7_5 hW hk_a0
            refine gf7_5 C hW hk_a0 w_1035 dX7_tellOne_212 ?_
            refine lv_aload_n C.1.1 C.1.2.1 dX7_tellOne_215 rfl (lv_at hl 0 rfl) ?_
            refine gf7_11 C hW hk_a0 w_1041 dX7_tellOne_216 ?_
            refine wai C hW hk75 (vin_p hv2) dX7_tellOne_219 ?_
            refine lv_bipush (v := 23) C.1.1 C.1.2.1 dX7_tellOne_220 (by decide) ?_
            refine lv_isub C.1.1 C.1.2.1 dX7_tellOne_222 ?_
            refine lv_istore_n (lv' := [(1, .int _), (0, .ref _)]) C.1.1 C.1.2.1 dX7_tellOne_223 rfl hl (by decide) rfl (fun ls hl => ?_)
            refine lv_iload_n C.1.1 C.1.2.1 dX7_tellOne_224 rfl (lv_at hl 0 rfl) ?_
            refine lv_if_lt (tgt := 242) C.1.1 C.1.2.1 dX7_tellOne_225 (by decide) (fun h9 => ?_) (fun h9 => ?_)
            · replace hf := (if_pos h9).symm.trans hf
              exact J242 _ _ _ _ _ hf hW (lv_sub hl [1, 0] rfl)
            · replace hf := (if_neg h9).symm.trans hf
              refine lv_aload_n C.1.1 C.1.2.1 dX7_tellOne_228 rfl (lv_at hl 1 rfl) ?_
              have hk92 := sh7_5 hW hk_a0
              refine gf7_5 C hW hk_a0 w_1035 dX7_tellOne_229 ?_
              refine lv_aload_n C.1.1 C.1.2.1 dX7_tellOne_232 rfl (lv_at hl 1 rfl) ?_
              refine gf7_11 C hW hk_a0 w_1041 dX7_tellOne_233 ?_
              refine wai C hW hk92 (vin_p hv2) dX7_tellOne_236 ?_
              refine lv_bipush (v := 26) C.1.1 C.1.2.1 dX7_tellOne_237 (by decide) ?_
              refine lv_icmp_le (tgt := 247) C.1.1 C.1.2.1 dX7_tellOne_239 (by decide) (fun h9 => ?_) (fun h9 => ?_)
              · replace hf := (if_pos h9).symm.trans hf
                exact J247 _ _ _ _ _ hf hW (lv_sub hl [1, 0] rfl)
              · replace hf := (if_neg h9).symm.trans hf
                exact J242 _ _ _ _ _ hf hW (lv_sub hl [1, 0] rfl)
          refine sw_c (k := 24) (fun hs94 => ?_) (fun hs94 => ?_)
          · refine lv_tableIn (tgt := 211) C.1.1 C.1.2.1 dX7_tellOne_9 (by rw [hs94]; decide) (by rw [hs94]; decide) (off := 202) (by rw [hs94]; rfl) (by decide) ?_
            refine lv_aload_n C.1.1 C.1.2.1 dX7_tellOne_211 rfl (lv_at hl 0 rfl) ?_
            have hk75 := sh7_5 hW hk_a0
            refine gf7_5 C hW hk_a0 w_1035 dX7_tellOne_212 ?_
            refine lv_aload_n C.1.1 C.1.2.1 dX7_tellOne_215 rfl (lv_at hl 0 rfl) ?_
            refine gf7_11 C hW hk_a0 w_1041 dX7_tellOne_216 ?_
            refine wai C hW hk75 (vin_p hv2) dX7_tellOne_219 ?_
            refine lv_bipush (v := 23) C.1.1 C.1.2.1 dX7_tellOne_220 (by decide) ?_
            refine lv_isub C.1.1 C.1.2.1 dX7_tellOne_222 ?_
            refine lv_istore_n (lv' := [(1, .int _), (0, .ref _)]) C.1.1 C.1.2.1 dX7_tellOne_223 rfl hl (by decide) rfl (fun ls hl => ?_)
            refine lv_iload_n C.1.1 C.1.2.1 dX7_tellOne_224 rfl (lv_at hl 0 rfl) ?_
            refine lv_if_lt (tgt := 242) C.1.1 C.1.2.1 dX7_tellOne_225 (by decide) (fun h9 => ?_) (fun h9 => ?_)
            · replace hf := (if_pos h9).symm.trans hf
              exact J242 _ _ _ _ _ hf hW (lv_sub hl [1, 0] rfl)
            · replace hf := (if_neg h9).symm.trans hf
              refine lv_aload_n C.1.1 C.1.2.1 dX7_tellOne_228 rfl (lv_at hl 1 rfl) ?_
              have hk92 := sh7_5 hW hk_a0
              refine gf7_5 C hW hk_a0 w_1035 dX7_tellOne_229 ?_
              refine lv_aload_n C.1.1 C.1.2.1 dX7_tellOne_232 rfl (lv_at hl 1 rfl) ?_
              refine gf7_11 C hW hk_a0 w_1041 dX7_tellOne_233 ?_
              refine wai C hW hk92 (vin_p hv2) dX7_tellOne_236 ?_
              refine lv_bipush (v := 26) C.1.1 C.1.2.1 dX7_tellOne_237 (by decide) ?_
              refine lv_icmp_le (tgt := 247) C.1.1 C.1.2.1 dX7_tellOne_239 (by decide) (fun h9 => ?_) (fun h9 => ?_)
              · replace hf := (if_pos h9).symm.trans hf
                exact J247 _ _ _ _ _ hf hW (lv_sub hl [1, 0] rfl)
              · replace hf := (if_neg h9).symm.trans hf
                exact J242 _ _ _ _ _ hf hW (lv_sub hl [1, 0] rfl)
          refine sw_c (k := 25) (fun hs95 => ?_) (fun hs95 => ?_)
          · refine lv_tableIn (tgt := 211) C.1.1 C.1.2.1 dX7_tellOne_9 (by rw [hs95]; decide) (by rw [hs95]; decide) (off := 202) (by rw [hs95]; rfl) (by decide) ?_
            refine lv_aload_n C.1.1 C.1.2.1 dX7_tellOne_211 rfl (lv_at hl 0 rfl) ?_
            have hk75 := sh7_5 hW hk_a0
            refine gf7_5 C hW hk_a0 w_1035 dX7_tellOne_212 ?_
            refine lv_aload_n C.1.1 C.1.2.1 dX7_tellOne_215 rfl (lv_at hl 0 rfl) ?_
            refine gf7_11 C hW hk_a0 w_1041 dX7_tellOne_216 ?_
            refine wai C hW hk75 (vin_p hv2) dX7_tellOne_219 ?_
            refine lv_bipush (v := 23) C.1.1 C.1.2.1 dX7_tellOne_220 (by decide) ?_
            refine lv_isub C.1.1 C.1.2.1 dX7_tellOne_222 ?_
            refine lv_istore_n (lv' := [(1, .int _), (0, .ref _)]) C.1.1 C.1.2.1 dX7_tellOne_223 rfl hl (by decide) rfl (fun ls hl => ?_)
            refine lv_iload_n C.1.1 C.1.2.1 dX7_tellOne_224 rfl (lv_at hl 0 rfl) ?_
            refine lv_if_lt (tgt := 242) C.1.1 C.1.2.1 dX7_tellOne_225 (by decide) (fun h9 => ?_) (fun h9 => ?_)
            · replace hf := (if_pos h9).symm.trans hf
              exact J242 _ _ _ _ _ hf hW (lv_sub hl [1, 0] rfl)
            · replace hf := (if_neg h9).symm.trans hf
              refine lv_aload_n C.1.1 C.1.2.1 dX7_tellOne_228 rfl (lv_at hl 1 rfl) ?_
              have hk92 := sh7_5 hW hk_a0
              refine gf7_5 C hW hk_a0 w_1035 dX7_tellOne_229 ?_
              refine lv_aload_n C.1.1 C.1.2.1 dX7_tellOne_232 rfl (lv_at hl 1 rfl) ?_
              refine gf7_11 C hW hk_a0 w_1041 dX7_tellOne_233 ?_
              refine wai C hW hk92 (vin_p hv2) dX7_tellOne_236 ?_
              refine lv_bipush (v := 26) C.1.1 C.1.2.1 dX7_tellOne_237 (by decide) ?_
              refine lv_icmp_le (tgt := 247) C.1.1 C.1.2.1 dX7_tellOne_239 (by decide) (fun h9 => ?_) (fun h9 => ?_)
              · replace hf := (if_pos h9).symm.trans hf
                exact J247 _ _ _ _ _ hf hW (lv_sub hl [1, 0] rfl)
              · replace hf := (if_neg h9).symm.trans hf
                exact J242 _ _ _ _ _ hf hW (lv_sub hl [1, 0] rfl)
          refine sw_c (k := 26) (fun hs96 => ?_) (fun hs96 => ?_)
          · refine lv_tableIn (tgt := 211) C.1.1 C.1.2.1 dX7_tellOne_9 (by rw [hs96]; decide) (by rw [hs96]; decide) (off := 202) (by rw [hs96]; rfl) (by decide) ?_
            refine lv_aload_n C.1.1 C.1.2.1 dX7_tellOne_211 rfl (lv_at hl 0 rfl) ?_
            have hk75 := sh7_5 hW hk_a0
            refine gf7_5 C hW hk_a0 w_1035 dX7_tellOne_212 ?_
            refine lv_aload_n C.1.1 C.1.2.1 dX7_tellOne_215 rfl (lv_at hl 0 rfl) ?_
            refine gf7_11 C hW hk_a0 w_1041 dX7_tellOne_216 ?_
            refine wai C hW hk75 (vin_p hv2) dX7_tellOne_219 ?_
            refine lv_bipush (v := 23) C.1.1 C.1.2.1 dX7_tellOne_220 (by decide) ?_
            refine lv_isub C.1.1 C.1.2.1 dX7_tellOne_222 ?_
            refine lv_istore_n (lv' := [(1, .int _), (0, .ref _)]) C.1.1 C.1.2.1 dX7_tellOne_223 rfl hl (by decide) rfl (fun ls hl => ?_)
            refine lv_iload_n C.1.1 C.1.2.1 dX7_tellOne_224 rfl (lv_at hl 0 rfl) ?_
            refine lv_if_lt (tgt := 242) C.1.1 C.1.2.1 dX7_tellOne_225 (by decide) (fun h9 => ?_) (fun h9 => ?_)
            · replace hf := (if_pos h9).symm.trans hf
              exact J242 _ _ _ _ _ hf hW (lv_sub hl [1, 0] rfl)
            · replace hf := (if_neg h9).symm.trans hf
              refine lv_aload_n C.1.1 C.1.2.1 dX7_tellOne_228 rfl (lv_at hl 1 rfl) ?_
              have hk92 := sh7_5 hW hk_a0
              refine gf7_5 C hW hk_a0 w_1035 dX7_tellOne_229 ?_
              refine lv_aload_n C.1.1 C.1.2.1 dX7_tellOne_232 rfl (lv_at hl 1 rfl) ?_
              refine gf7_11 C hW hk_a0 w_1041 dX7_tellOne_233 ?_
              refine wai C hW hk92 (vin_p hv2) dX7_tellOne_236 ?_
              refine lv_bipush (v := 26) C.1.1 C.1.2.1 dX7_tellOne_237 (by decide) ?_
              refine lv_icmp_le (tgt := 247) C.1.1 C.1.2.1 dX7_tellOne_239 (by decide) (fun h9 => ?_) (fun h9 => ?_)
              · replace hf := (if_pos h9).symm.trans hf
                exact J247 _ _ _ _ _ hf hW (lv_sub hl [1, 0] rfl)
              · replace hf := (if_neg h9).symm.trans hf
                exact J242 _ _ _ _ _ hf hW (lv_sub hl [1, 0] rfl)
          refine lv_tableOut (tgt := 211) C.1.1 C.1.2.1 dX7_tellOne_9 (by have := sw_n 20 (by decide) hs3; have := sw_n 21 (by decide) hs16; have := sw_n 22 (by decide) hs29; have := sw_n 27 (by decide) hs56; have := sw_n 23 (by decide) hs93; have := sw_n 24 (by decide) hs94; have := sw_n 25 (by decide) hs95; have := sw_n 26 (by decide) hs96; omega) (by decide) ?_
          refine lv_aload_n C.1.1 C.1.2.1 dX7_tellOne_211 rfl (lv_at hl 0 rfl) ?_
          have hk75 := sh7_5 hW hk_a0
          refine gf7_5 C hW hk_a0 w_1035 dX7_tellOne_212 ?_
          refine lv_aload_n C.1.1 C.1.2.1 dX7_tellOne_215 rfl (lv_at hl 0 rfl) ?_
          refine gf7_11 C hW hk_a0 w_1041 dX7_tellOne_216 ?_
          refine wai C hW hk75 (vin_p hv2) dX7_tellOne_219 ?_
          refine lv_bipush (v := 23) C.1.1 C.1.2.1 dX7_tellOne_220 (by decide) ?_
          refine lv_isub C.1.1 C.1.2.1 dX7_tellOne_222 ?_
          refine lv_istore_n (lv' := [(1, .int _), (0, .ref _)]) C.1.1 C.1.2.1 dX7_tellOne_223 rfl hl (by decide) rfl (fun ls hl => ?_)
          refine lv_iload_n C.1.1 C.1.2.1 dX7_tellOne_224 rfl (lv_at hl 0 rfl) ?_
          refine lv_if_lt (tgt := 242) C.1.1 C.1.2.1 dX7_tellOne_225 (by decide) (fun h9 => ?_) (fun h9 => ?_)
          · replace hf := (if_pos h9).symm.trans hf
            exact J242 _ _ _ _ _ hf hW (lv_sub hl [1, 0] rfl)
          · replace hf := (if_neg h9).symm.trans hf
            refine lv_aload_n C.1.1 C.1.2.1 dX7_tellOne_228 rfl (lv_at hl 1 rfl) ?_
            have hk92 := sh7_5 hW hk_a0
            refine gf7_5 C hW hk_a0 w_1035 dX7_tellOne_229 ?_
            refine lv_aload_n C.1.1 C.1.2.1 dX7_tellOne_232 rfl (lv_at hl 1 rfl) ?_
            refine gf7_11 C hW hk_a0 w_1041 dX7_tellOne_233 ?_
            refine wai C hW hk92 (vin_p hv2) dX7_tellOne_236 ?_
            refine lv_bipush (v := 26) C.1.1 C.1.2.1 dX7_tellOne_237 (by decide) ?_
            refine lv_icmp_le (tgt := 247) C.1.1 C.1.2.1 dX7_tellOne_239 (by decide) (fun h9 => ?_) (fun h9 => ?_)
            · replace hf := (if_pos h9).symm.trans hf
              exact J247 _ _ _ _ _ hf hW (lv_sub hl [1, 0] rfl)
            · replace hf := (if_neg h9).symm.trans hf
              exact J242 _ _ _ _ _ hf hW (lv_sub hl [1, 0] rfl)
theorem kvX7_read : KV 7 "RightKeysModel" yX7_read cX7_read 2 (some .int) 0 := ⟨⟨w_1246, w_1247, w_116, w_1248⟩, ⟨rfl, by decide, by decide, by decide +kernel⟩, by decide, rfl⟩
noncomputable def bX7_read_10 (a0 : Nat) (x1 : Int32) (σ : Sg) : Option ((Int32 × Sg) ⊕ (Sg)) := if (σ.1 a0 4) ≤ x1 then (some (Sum.inr σ)) else (if vin x1 2000 then ((let σ5 := wI σ (a0 + 2) ((x1).toNatClampNeg) (vp_nar .byte (σ.1 (a0 + 1) ((x1).toNatClampNeg))); let x1_6 := x1 + (1 : Int32); some (Sum.inl (x1_6, σ5)))) else none)
noncomputable def bX7_read_112 (a0 : Nat) (σ : Sg) : Option ((Sg) ⊕ (Sg)) := if (σ.1 a0 13) = 0 then ((fX7_is a0 (0 : Int32) σ).bind (fun q32 => let r30 := q32.1; let σ29 := q32.2; if r30 = 0 then ((fX7_tellOne a0 σ29).bind (fun σ34 => some (Sum.inl σ34))) else (some (Sum.inr σ29)))) else (some (Sum.inr σ))
noncomputable def bX7_read_219 (a0 : Nat) (x1 : Int32) (σ : Sg) : Option ((Int32 × Sg) ⊕ (Sg)) := if (3 : Int32) ≤ x1 then (some (Sum.inr σ)) else (if vin x1 3 then (let σ56 := wI σ (a0 + 38) ((x1).toNatClampNeg) (vp_nar .boolean (0 : Int32)); (let x1_57 := x1 + (1 : Int32); some (Sum.inl (x1_57, σ56)))) else none)
noncomputable def jX7_read_164 (a0 : Nat) (s0 : Nat) (s1 : Int32) (σ : Sg) : Option (Int32 × Sg) := (let σ40 := wI σ s0 17 s1; if (σ40.1 a0 13) ≤ 0 then (if (σ40.1 a0 15) ≤ 0 then ((let σ41 := wI σ40 a0 18 (σ40.1 a0 19); (fX7_begins a0 σ41).bind (fun σ43 => (fX7_keepsRow a0 σ43).bind (fun σ48 => (let σ52 := wI σ48 a0 53 (0 : Int32); let σ53 := wI σ52 a0 61 (0 : Int32); (lp (fun st => bX7_read_219 a0 st.1 st.2) ((0 : Int32), σ53)).bind (fun σ59 => some ((0 : Int32), σ59))))))) else (some ((σ40.1 a0 15), σ40))) else (some ((σ40.1 a0 13), σ40)))
noncomputable def fX7_read (a0 : Nat) (σ : Sg) : Option (Int32 × Sg) := (let σ1 := wI σ a0 4 (σ.1 a0 2); (lp (fun st => bX7_read_10 a0 st.1 st.2) ((0 : Int32), σ1)).bind (fun σ8 => (let σ9 := wI σ8 a0 2 (0 : Int32); (fX7_cut a0 σ9).bind (fun σ11 => (let σ15 := wI σ11 a0 11 (0 : Int32); let σ16 := wI σ15 a0 12 (0 : Int32); let σ17 := wI σ16 a0 13 (0 : Int32); let σ18 := wI σ17 a0 15 (0 : Int32); let σ19 := wI σ18 a0 19 ((1 : Int32) - (σ18.1 a0 18)); let σ20 := wI σ19 a0 20 (0 : Int32); (fX7_plain a0 (σ20.1 a0 19) σ20).bind (fun σ22 => (let σ26 := wI σ22 a0 33 ((130 : Int32) * (σ22.1 a0 19)); let σ27 := wI σ26 a0 39 ((420 : Int32) * (σ26.1 a0 19)); (lp (bX7_read_112 a0) σ27).bind (fun σ39 => if (σ39.1 a0 13) ≤ 0 then (if (σ39.1 a0 15) ≤ 0 then (jX7_read_164 a0 a0 (-1 : Int32) σ39) else (jX7_read_164 a0 a0 (σ39.1 a0 16) σ39)) else (jX7_read_164 a0 a0 (σ39.1 a0 14) σ39)))))))))
set_option maxRecDepth 100000 in
set_option maxHeartbeats 4000000 in
theorem mX7_read {l : Launch} {G : Gm} {a0 : Nat} {σ : Sg} {r : Int32} {σ' : Sg} (hk_a0 : gK G a0 = 8) (hf : fX7_read a0 σ = some (r, σ')) : Mi l G yX7_read cX7_read 2 .int 7 148 [.ref (gB G + a0)] σ r σ' := by
  refine of_W "RightKeysModel" rfl (by decide) (Nat.le_of_ble_eq_true rfl) ?_
  intro p e s m args below meth c Q hQ C hr hlk hW ls hl
  have h00 := hW.1
  have hl : lv_has ls 2 [(0, .ref (gB G + a0))] := hl
  delta fX7_read at hf
  have L10 : ∀ (n : Nat) (x1 : Int32) (σ : Sg) (H : Heap) (locs : List Loc) (ls : Array Slot) (out : (Sg)), iter (fun st => bX7_read_10 a0 st.1 st.2) n (x1, σ) = some out → Ws G σ s.heap H locs → lv_has ls 2 [(0, .ref (gB G + a0)), (1, .int x1)] → (∀ (σ : Sg) (H : Heap) (locs : List Loc) (ls : Array Slot), out = σ → Ws G σ s.heap H locs → lv_has ls 2 [(0, .ref (gB G + a0))] → W p l e (rmOf 7 148) s m args below meth c H locs 0 0 Q (F0 m 36 ls [])) → W p l e (rmOf 7 148) s m args below meth c H locs 0 0 Q (F0 m 10 ls []) := by
    intro n
    induction n with
    | zero =>
      intro x1 σ H locs ls out hf
      exact (it_0 hf).elim
    | succ n ih =>
      intro x1 σ H locs ls out hf hW hl K10_36
      obtain ⟨x, hf, hx⟩ := it_s hf
      have hf : bX7_read_10 a0 x1 σ = some x := hf
      delta bX7_read_10 at hf
      refine lv_iload_n C.1.1 C.1.2.1 dX7_read_10 rfl (lv_at hl 1 rfl) ?_
      refine lv_aload_n C.1.1 C.1.2.1 dX7_read_11 rfl (lv_at hl 0 rfl) ?_
      refine gf7_4 C hW hk_a0 w_1034 dX7_read_12 ?_
      refine lv_icmp_ge (tgt := 36) C.1.1 C.1.2.1 dX7_read_15 (by decide) (fun h9 => ?_) (fun h9 => ?_)
      · replace hf := (if_pos h9).symm.trans hf
        cases hf
        cases hx
        exact K10_36 _ _ _ _ rfl hW (lv_sub hl [0] rfl)
      · replace hf := (if_neg h9).symm.trans hf
        refine lv_aload_n C.1.1 C.1.2.1 dX7_read_18 rfl (lv_at hl 0 rfl) ?_
        have hk2 := sh7_3 hW hk_a0
        refine gf7_3 C hW hk_a0 w_1033 dX7_read_19 ?_
        refine lv_iload_n C.1.1 C.1.2.1 dX7_read_22 rfl (lv_at hl 1 rfl) ?_
        refine lv_aload_n C.1.1 C.1.2.1 dX7_read_23 rfl (lv_at hl 0 rfl) ?_
        have hk3 := sh7_1 hW hk_a0
        refine gf7_1 C hW hk_a0 w_1031 dX7_read_24 ?_
        refine lv_iload_n C.1.1 C.1.2.1 dX7_read_27 rfl (lv_at hl 1 rfl) ?_
        obtain ⟨hv4, hf⟩ := gd hf
        refine wab C hW hk3 (vin_p hv4) dX7_read_28 ?_
        refine wsb C hW hk2 (vin_p hv4) dX7_read_29 (fun H locs hW => ?_)
        refine lv_iinc (v := _) (lv' := [(1, .int _), (0, .ref _)]) C.1.1 C.1.2.1 dX7_read_30 hl (k := 1) rfl (ii (k := 1) (by decide)) (by decide) rfl (fun ls hl => ?_)
        refine lv_goto (tgt := 10) C.1.1 C.1.2.1 dX7_read_33 (by decide) ?_
        cases hf
        exact ih _ _ _ _ _ _ hx hW (lv_sub hl [1, 0] rfl) K10_36
  have L112 : ∀ (n : Nat) (σ : Sg) (H : Heap) (locs : List Loc) (ls : Array Slot) (out : (Sg)), iter (bX7_read_112 a0) n σ = some out → Ws G σ s.heap H locs → lv_has ls 2 [(0, .ref (gB G + a0))] → (∀ (σ : Sg) (H : Heap) (locs : List Loc) (ls : Array Slot), out = σ → Ws G σ s.heap H locs → lv_has ls 2 [(0, .ref (gB G + a0))] → W p l e (rmOf 7 148) s m args below meth c H locs 0 0 Q (F0 m 134 ls [])) → W p l e (rmOf 7 148) s m args below meth c H locs 0 0 Q (F0 m 112 ls []) := by
    intro n
    induction n with
    | zero =>
      intro σ H locs ls out hf
      exact (it_0 hf).elim
    | succ n ih =>
      intro σ H locs ls out hf hW hl K112_134
      obtain ⟨x, hf, hx⟩ := it_s hf
      have hf : bX7_read_112 a0 σ = some x := hf
      delta bX7_read_112 at hf
      refine lv_aload_n C.1.1 C.1.2.1 dX7_read_112 rfl (lv_at hl 0 rfl) ?_
      refine gf7_13 C hW hk_a0 w_1043 dX7_read_113 ?_
      refine lv_if_ne (tgt := 134) C.1.1 C.1.2.1 dX7_read_116 (by decide) (fun h9 => ?_) (fun h9 => ?_)
      · replace hf := (if_neg h9).symm.trans hf
        cases hf
        cases hx
        exact K112_134 _ _ _ _ rfl hW (lv_sub hl [0] rfl)
      · replace hf := (if_pos h9).symm.trans hf
        refine lv_aload_n C.1.1 C.1.2.1 dX7_read_119 rfl (lv_at hl 0 rfl) ?_
        refine lv_iconst (v := 0) C.1.1 C.1.2.1 dX7_read_120 (by decide) ?_
        obtain ⟨⟨r30, σ29⟩, hc28, hf⟩ := bd hf
        try dsimp only at hf
        refine cVi C hW (mX7_is hk_a0 hc28) hk_a0 kvX7_is w_1271 ⟨(Nat.le_of_ble_eq_true rfl), (Nat.le_of_ble_eq_true rfl)⟩ ⟨Nat.zero_le _, Nat.zero_le _⟩ rfl hl.1 (rest := []) rfl (Nat.le_of_ble_eq_true rfl) dX7_read_121 (fun H locs hn31 hW => ?_)
        refine lv_if_ne (tgt := 134) C.1.1 C.1.2.1 dX7_read_124 (by decide) (fun h9 => ?_) (fun h9 => ?_)
        · replace hf := (if_neg h9).symm.trans hf
          cases hf
          cases hx
          exact K112_134 _ _ _ _ rfl hW (lv_sub hl [0] rfl)
        · replace hf := (if_pos h9).symm.trans hf
          refine lv_aload_n C.1.1 C.1.2.1 dX7_read_127 rfl (lv_at hl 0 rfl) ?_
          obtain ⟨σ34, hc33, hf⟩ := bd hf
          try dsimp only at hf
          refine cVv C hW (mX7_tellOne hk_a0 hc33) hk_a0 kvX7_tellOne w_1275 ⟨(Nat.le_of_ble_eq_true rfl), (Nat.le_of_ble_eq_true rfl)⟩ ⟨Nat.zero_le _, Nat.zero_le _⟩ rfl hl.1 (rest := []) rfl (Nat.le_of_ble_eq_true rfl) dX7_read_128 (fun H locs hW => ?_)
          refine lv_goto (tgt := 112) C.1.1 C.1.2.1 dX7_read_131 (by decide) ?_
          cases hf
          exact ih _ _ _ _ _ hx hW (lv_sub hl [0] rfl) K112_134
  have L219 : ∀ (n : Nat) (x1 : Int32) (σ : Sg) (H : Heap) (locs : List Loc) (ls : Array Slot) (out : (Sg)), iter (fun st => bX7_read_219 a0 st.1 st.2) n (x1, σ) = some out → Ws G σ s.heap H locs → lv_has ls 2 [(0, .ref (gB G + a0)), (1, .int x1)] → (∀ (σ : Sg) (H : Heap) (locs : List Loc) (ls : Array Slot), out = σ → Ws G σ s.heap H locs → lv_has ls 2 [] → W p l e (rmOf 7 148) s m args below meth c H locs 0 0 Q (F0 m 237 ls [])) → W p l e (rmOf 7 148) s m args below meth c H locs 0 0 Q (F0 m 219 ls []) := by
    intro n
    induction n with
    | zero =>
      intro x1 σ H locs ls out hf
      exact (it_0 hf).elim
    | succ n ih =>
      intro x1 σ H locs ls out hf hW hl K219_237
      obtain ⟨x, hf, hx⟩ := it_s hf
      have hf : bX7_read_219 a0 x1 σ = some x := hf
      delta bX7_read_219 at hf
      refine lv_iload_n C.1.1 C.1.2.1 dX7_read_219 rfl (lv_at hl 1 rfl) ?_
      refine lv_iconst (v := 3) C.1.1 C.1.2.1 dX7_read_220 (by decide) ?_
      refine lv_icmp_ge (tgt := 237) C.1.1 C.1.2.1 dX7_read_221 (by decide) (fun h9 => ?_) (fun h9 => ?_)
      · replace hf := (if_pos h9).symm.trans hf
        cases hf
        cases hx
        exact K219_237 _ _ _ _ rfl hW (lv_sub hl [] rfl)
      · replace hf := (if_neg h9).symm.trans hf
        refine lv_aload_n C.1.1 C.1.2.1 dX7_read_224 rfl (lv_at hl 0 rfl) ?_
        have hk54 := sh7_65 hW hk_a0
        refine gf7_65 C hW hk_a0 w_1095 dX7_read_225 ?_
        refine lv_iload_n C.1.1 C.1.2.1 dX7_read_228 rfl (lv_at hl 1 rfl) ?_
        refine lv_iconst (v := 0) C.1.1 C.1.2.1 dX7_read_229 (by decide) ?_
        obtain ⟨hv55, hf⟩ := gd hf
        refine wsz C hW hk54 (vin_p hv55) dX7_read_230 (fun H locs hW => ?_)
        refine lv_iinc (v := _) (lv' := [(1, .int _), (0, .ref _)]) C.1.1 C.1.2.1 dX7_read_231 hl (k := 1) rfl (ii (k := 1) (by decide)) (by decide) rfl (fun ls hl => ?_)
        refine lv_goto (tgt := 219) C.1.1 C.1.2.1 dX7_read_234 (by decide) ?_
        cases hf
        exact ih _ _ _ _ _ _ hx hW (lv_sub hl [1, 0] rfl) K219_237
  have J164 : ∀ (s0 : Nat) (s1 : Int32) (σ : Sg) (H : Heap) (locs : List Loc) (ls : Array Slot) (hk_s0 : gK G s0 = 8), jX7_read_164 a0 s0 s1 σ = some (r, σ') → Ws G σ s.heap H locs → lv_has ls 2 [(0, .ref (gB G + a0))] → W p l e (rmOf 7 148) s m args below meth c H locs 0 0 Q (F0 m 164 ls [.int s1, .ref (gB G + s0)]) := by
    intro s0 s1 σ H locs ls hk_s0 hf hW hl
    delta jX7_read_164 at hf
    refine pf7_17 C hW hk_s0 w_1047 dX7_read_164 (fun H locs hW => ?_)
    refine lv_aload_n C.1.1 C.1.2.1 dX7_read_167 rfl (lv_at hl 0 rfl) ?_
    refine gf7_13 C hW hk_a0 w_1043 dX7_read_168 ?_
    refine lv_if_le (tgt := 179) C.1.1 C.1.2.1 dX7_read_171 (by decide) (fun h9 => ?_) (fun h9 => ?_)
    · replace hf := (if_pos h9).symm.trans hf
      refine lv_aload_n C.1.1 C.1.2.1 dX7_read_179 rfl (lv_at hl 0 rfl) ?_
      refine gf7_15 C hW hk_a0 w_1045 dX7_read_180 ?_
      refine lv_if_le (tgt := 191) C.1.1 C.1.2.1 dX7_read_183 (by decide) (fun h9 => ?_) (fun h9 => ?_)
      · replace hf := (if_pos h9).symm.trans hf
        refine lv_aload_n C.1.1 C.1.2.1 dX7_read_191 rfl (lv_at hl 0 rfl) ?_
        refine lv_aload_n C.1.1 C.1.2.1 dX7_read_192 rfl (lv_at hl 0 rfl) ?_
        refine gf7_19 C hW hk_a0 w_1049 dX7_read_193 ?_
        refine pf7_18 C hW hk_a0 w_1048 dX7_read_196 (fun H locs hW => ?_)
        refine lv_aload_n C.1.1 C.1.2.1 dX7_read_199 rfl (lv_at hl 0 rfl) ?_
        obtain ⟨σ43, hc42, hf⟩ := bd hf
        try dsimp only at hf
        refine cVv C hW (mX7_begins hk_a0 hc42) hk_a0 kvX7_begins w_1023 ⟨(Nat.le_of_ble_eq_true rfl), (Nat.le_of_ble_eq_true rfl)⟩ ⟨Nat.zero_le _, Nat.zero_le _⟩ rfl hl.1 (rest := []) rfl (Nat.le_of_ble_eq_true rfl) dX7_read_200 (fun H locs hW => ?_)
        refine lv_aload_n C.1.1 C.1.2.1 dX7_read_203 rfl (lv_at hl 0 rfl) ?_
        obtain ⟨σ48, hc47, hf⟩ := bd hf
        try dsimp only at hf
        refine cVv C hW (mX7_keepsRow hk_a0 hc47) hk_a0 kvX7_keepsRow w_1027 ⟨(Nat.le_of_ble_eq_true rfl), (Nat.le_of_ble_eq_true rfl)⟩ ⟨Nat.zero_le _, Nat.zero_le _⟩ rfl hl.1 (rest := []) rfl (Nat.le_of_ble_eq_true rfl) dX7_read_204 (fun H locs hW => ?_)
        refine lv_aload_n C.1.1 C.1.2.1 dX7_read_207 rfl (lv_at hl 0 rfl) ?_
        refine lv_iconst (v := 0) C.1.1 C.1.2.1 dX7_read_208 (by decide) ?_
        refine pf7_53 C hW hk_a0 w_1083 dX7_read_209 (fun H locs hW => ?_)
        refine lv_aload_n C.1.1 C.1.2.1 dX7_read_212 rfl (lv_at hl 0 rfl) ?_
        refine lv_iconst (v := 0) C.1.1 C.1.2.1 dX7_read_213 (by decide) ?_
        refine pf7_61 C hW hk_a0 w_1091 dX7_read_214 (fun H locs hW => ?_)
        refine lv_iconst (v := 0) C.1.1 C.1.2.1 dX7_read_217 (by decide) ?_
        refine lv_istore_n (lv' := [(1, .int _), (0, .ref _)]) C.1.1 C.1.2.1 dX7_read_218 rfl hl (by decide) rfl (fun ls hl => ?_)
        obtain ⟨o58, ho, hf⟩ := bd hf
        obtain ⟨n, ho⟩ := lp_it ho
        refine L219 n _ _ _ _ _ o58 ho hW (lv_sub hl [1, 0] rfl) ?_
        intro  σ59 H locs ls e9 hW hl
        subst e9
        try dsimp only at hf
        refine lv_iconst (v := 0) C.1.1 C.1.2.1 dX7_read_237 (by decide) ?_
        exact ri hQ C hr hlk hW hf (rok_i _) dX7_read_238
      · replace hf := (if_neg h9).symm.trans hf
        refine lv_aload_n C.1.1 C.1.2.1 dX7_read_186 rfl (lv_at hl 0 rfl) ?_
        refine gf7_15 C hW hk_a0 w_1045 dX7_read_187 ?_
        exact ri hQ C hr hlk hW hf (rok_i _) dX7_read_190
    · replace hf := (if_neg h9).symm.trans hf
      refine lv_aload_n C.1.1 C.1.2.1 dX7_read_174 rfl (lv_at hl 0 rfl) ?_
      refine gf7_13 C hW hk_a0 w_1043 dX7_read_175 ?_
      exact ri hQ C hr hlk hW hf (rok_i _) dX7_read_178
  refine lv_aload_n C.1.1 C.1.2.1 dX7_read_0 rfl (lv_at hl 0 rfl) ?_
  refine lv_aload_n C.1.1 C.1.2.1 dX7_read_1 rfl (lv_at hl 0 rfl) ?_
  refine gf7_2 C hW hk_a0 w_1032 dX7_read_2 ?_
  refine pf7_4 C hW hk_a0 w_1034 dX7_read_5 (fun H locs hW => ?_)
  refine lv_iconst (v := 0) C.1.1 C.1.2.1 dX7_read_8 (by decide) ?_
  refine lv_istore_n (lv' := [(1, .int _), (0, .ref _)]) C.1.1 C.1.2.1 dX7_read_9 rfl hl (by decide) rfl (fun ls hl => ?_)
  obtain ⟨o7, ho, hf⟩ := bd hf
  obtain ⟨n, ho⟩ := lp_it ho
  refine L10 n _ _ _ _ _ o7 ho hW (lv_sub hl [1, 0] rfl) ?_
  intro  σ8 H locs ls e9 hW hl
  subst e9
  try dsimp only at hf
  refine lv_aload_n C.1.1 C.1.2.1 dX7_read_36 rfl (lv_at hl 0 rfl) ?_
  refine lv_iconst (v := 0) C.1.1 C.1.2.1 dX7_read_37 (by decide) ?_
  refine pf7_2 C hW hk_a0 w_1032 dX7_read_38 (fun H locs hW => ?_)
  refine lv_aload_n C.1.1 C.1.2.1 dX7_read_41 rfl (lv_at hl 0 rfl) ?_
  obtain ⟨σ11, hc10, hf⟩ := bd hf
  try dsimp only at hf
  refine cVv C hW (mX7_cut hk_a0 hc10) hk_a0 kvX7_cut w_1249 ⟨(Nat.le_of_ble_eq_true rfl), (Nat.le_of_ble_eq_true rfl)⟩ ⟨Nat.zero_le _, Nat.zero_le _⟩ rfl hl.1 (rest := []) rfl (Nat.le_of_ble_eq_true rfl) dX7_read_42 (fun H locs hW => ?_)
  refine lv_aload_n C.1.1 C.1.2.1 dX7_read_45 rfl (lv_at hl 0 rfl) ?_
  refine lv_iconst (v := 0) C.1.1 C.1.2.1 dX7_read_46 (by decide) ?_
  refine pf7_11 C hW hk_a0 w_1041 dX7_read_47 (fun H locs hW => ?_)
  refine lv_aload_n C.1.1 C.1.2.1 dX7_read_50 rfl (lv_at hl 0 rfl) ?_
  refine lv_iconst (v := 0) C.1.1 C.1.2.1 dX7_read_51 (by decide) ?_
  refine pf7_12 C hW hk_a0 w_1042 dX7_read_52 (fun H locs hW => ?_)
  refine lv_aload_n C.1.1 C.1.2.1 dX7_read_55 rfl (lv_at hl 0 rfl) ?_
  refine lv_iconst (v := 0) C.1.1 C.1.2.1 dX7_read_56 (by decide) ?_
  refine pf7_13 C hW hk_a0 w_1043 dX7_read_57 (fun H locs hW => ?_)
  refine lv_aload_n C.1.1 C.1.2.1 dX7_read_60 rfl (lv_at hl 0 rfl) ?_
  refine lv_iconst (v := 0) C.1.1 C.1.2.1 dX7_read_61 (by decide) ?_
  refine pf7_15 C hW hk_a0 w_1045 dX7_read_62 (fun H locs hW => ?_)
  refine lv_aload_n C.1.1 C.1.2.1 dX7_read_65 rfl (lv_at hl 0 rfl) ?_
  refine lv_iconst (v := 1) C.1.1 C.1.2.1 dX7_read_66 (by decide) ?_
  refine lv_aload_n C.1.1 C.1.2.1 dX7_read_67 rfl (lv_at hl 0 rfl) ?_
  refine gf7_18 C hW hk_a0 w_1048 dX7_read_68 ?_
  refine lv_isub C.1.1 C.1.2.1 dX7_read_71 ?_
  refine pf7_19 C hW hk_a0 w_1049 dX7_read_72 (fun H locs hW => ?_)
  refine lv_aload_n C.1.1 C.1.2.1 dX7_read_75 rfl (lv_at hl 0 rfl) ?_
  refine lv_iconst (v := 0) C.1.1 C.1.2.1 dX7_read_76 (by decide) ?_
  refine pf7_20 C hW hk_a0 w_1050 dX7_read_77 (fun H locs hW => ?_)
  refine lv_aload_n C.1.1 C.1.2.1 dX7_read_80 rfl (lv_at hl 0 rfl) ?_
  refine lv_aload_n C.1.1 C.1.2.1 dX7_read_81 rfl (lv_at hl 0 rfl) ?_
  refine gf7_19 C hW hk_a0 w_1049 dX7_read_82 ?_
  obtain ⟨σ22, hc21, hf⟩ := bd hf
  try dsimp only at hf
  refine cVv C hW (mX7_plain hk_a0 hc21) hk_a0 kvX7_plain w_1012 ⟨(Nat.le_of_ble_eq_true rfl), (Nat.le_of_ble_eq_true rfl)⟩ ⟨Nat.zero_le _, Nat.zero_le _⟩ rfl hl.1 (rest := []) rfl (Nat.le_of_ble_eq_true rfl) dX7_read_85 (fun H locs hW => ?_)
  refine lv_aload_n C.1.1 C.1.2.1 dX7_read_88 rfl (lv_at hl 0 rfl) ?_
  refine lv_sipush (v := 130) C.1.1 C.1.2.1 dX7_read_89 (by decide) ?_
  refine lv_aload_n C.1.1 C.1.2.1 dX7_read_92 rfl (lv_at hl 0 rfl) ?_
  refine gf7_19 C hW hk_a0 w_1049 dX7_read_93 ?_
  refine lv_imul C.1.1 C.1.2.1 dX7_read_96 ?_
  refine pf7_33 C hW hk_a0 w_1063 dX7_read_97 (fun H locs hW => ?_)
  refine lv_aload_n C.1.1 C.1.2.1 dX7_read_100 rfl (lv_at hl 0 rfl) ?_
  refine lv_sipush (v := 420) C.1.1 C.1.2.1 dX7_read_101 (by decide) ?_
  refine lv_aload_n C.1.1 C.1.2.1 dX7_read_104 rfl (lv_at hl 0 rfl) ?_
  refine gf7_19 C hW hk_a0 w_1049 dX7_read_105 ?_
  refine lv_imul C.1.1 C.1.2.1 dX7_read_108 ?_
  refine pf7_39 C hW hk_a0 w_1069 dX7_read_109 (fun H locs hW => ?_)
  obtain ⟨o38, ho, hf⟩ := bd hf
  obtain ⟨n, ho⟩ := lp_it ho
  refine L112 n _ _ _ _ o38 ho hW (lv_sub hl [0] rfl) ?_
  intro  σ39 H locs ls e9 hW hl
  subst e9
  try dsimp only at hf
  refine lv_aload_n C.1.1 C.1.2.1 dX7_read_134 rfl (lv_at hl 0 rfl) ?_
  refine lv_aload_n C.1.1 C.1.2.1 dX7_read_135 rfl (lv_at hl 0 rfl) ?_
  refine gf7_13 C hW hk_a0 w_1043 dX7_read_136 ?_
  refine lv_if_le (tgt := 149) C.1.1 C.1.2.1 dX7_read_139 (by decide) (fun h9 => ?_) (fun h9 => ?_)
  · replace hf := (if_pos h9).symm.trans hf
    refine lv_aload_n C.1.1 C.1.2.1 dX7_read_149 rfl (lv_at hl 0 rfl) ?_
    refine gf7_15 C hW hk_a0 w_1045 dX7_read_150 ?_
    refine lv_if_le (tgt := 163) C.1.1 C.1.2.1 dX7_read_153 (by decide) (fun h9 => ?_) (fun h9 => ?_)
    · replace hf := (if_pos h9).symm.trans hf
      refine lv_iconst (v := (-1)) C.1.1 C.1.2.1 dX7_read_163 (by decide) ?_
      exact J164 _ _ _ _ _ _ hk_a0 hf hW (lv_sub hl [0] rfl)
    · replace hf := (if_neg h9).symm.trans hf
      refine lv_aload_n C.1.1 C.1.2.1 dX7_read_156 rfl (lv_at hl 0 rfl) ?_
      refine gf7_16 C hW hk_a0 w_1046 dX7_read_157 ?_
      refine lv_goto (tgt := 164) C.1.1 C.1.2.1 dX7_read_160 (by decide) ?_
      exact J164 _ _ _ _ _ _ hk_a0 hf hW (lv_sub hl [0] rfl)
  · replace hf := (if_neg h9).symm.trans hf
    refine lv_aload_n C.1.1 C.1.2.1 dX7_read_142 rfl (lv_at hl 0 rfl) ?_
    refine gf7_14 C hW hk_a0 w_1044 dX7_read_143 ?_
    refine lv_goto (tgt := 164) C.1.1 C.1.2.1 dX7_read_146 (by decide) ?_
    exact J164 _ _ _ _ _ _ hk_a0 hf hW (lv_sub hl [0] rfl)
theorem kvX7_place : KV 7 "RightKeysModel" yX7_place cX7_place 1 (some .int) 0 := ⟨⟨w_1340, w_1341, w_116, w_1342⟩, ⟨rfl, by decide, by decide, by decide +kernel⟩, by decide, rfl⟩
noncomputable def fX7_place (a0 : Nat) (σ : Sg) : Option (Int32 × Sg) := some ((σ.1 a0 17), σ)
set_option maxRecDepth 100000 in
set_option maxHeartbeats 4000000 in
theorem mX7_place {l : Launch} {G : Gm} {a0 : Nat} {σ : Sg} {r : Int32} {σ' : Sg} (hk_a0 : gK G a0 = 8) (hf : fX7_place a0 σ = some (r, σ')) : Mi l G yX7_place cX7_place 1 .int 0 0 [.ref (gB G + a0)] σ r σ' := by
  refine of_W "RightKeysModel" rfl (by decide) (Nat.le_of_ble_eq_true rfl) ?_
  intro p e s m args below meth c Q hQ C hr hlk hW ls hl
  have h00 := hW.1
  have hl : lv_has ls 1 [(0, .ref (gB G + a0))] := hl
  delta fX7_place at hf
  refine lv_aload_n C.1.1 C.1.2.1 dX7_place_0 rfl (lv_at hl 0 rfl) ?_
  refine gf7_17 C hW hk_a0 w_1047 dX7_place_1 ?_
  exact ri hQ C hr hlk hW hf (rok_i _) dX7_place_4
theorem kvX7_termOf : KV 7 "RightKeysModel" yX7_termOf cX7_termOf 8 (some .int) 2 := ⟨⟨w_1383, w_75, w_116, w_1384⟩, ⟨rfl, by decide, by decide, by decide +kernel⟩, by decide, rfl⟩
noncomputable def jX7_termOf_159 (a0 : Nat) (p1 : Int32) (p2 : Int32) (x3 : Int32) (x4 : Int32) (σ : Sg) : Option ((Int32 × Int32 × Sg) ⊕ ((Sg) ⊕ (Sg))) := (let x4_15 := x4 + (1 : Int32); some (Sum.inl (x3, x4_15, σ)))
noncomputable def jX7_termOf_158 (a0 : Nat) (p1 : Int32) (p2 : Int32) (x3 : Int32) (x4 : Int32) (s0 : Nat) (s1 : Int32) (s2 : Int32) (σ : Sg) : Option ((Int32 × Int32 × Sg) ⊕ ((Sg) ⊕ (Sg))) := if vin s1 400 then (let σ14 := wI σ s0 ((s1).toNatClampNeg) s2; jX7_termOf_159 a0 p1 p2 x3 x4 σ14) else none
noncomputable def jX7_termOf_104 (a0 : Nat) (p1 : Int32) (p2 : Int32) (x3 : Int32) (x4 : Int32) (x5 : Int32) (x6 : Int32) (x7 : Int32) (σ : Sg) : Option ((Int32 × Int32 × Sg) ⊕ ((Sg) ⊕ (Sg))) := if x5 = (2 : Int32) then (jX7_termOf_158 a0 p1 p2 x3 x4 (a0 + 29) (x3 - (1 : Int32)) (x6 + x7) σ) else (if x5 = (3 : Int32) then (jX7_termOf_158 a0 p1 p2 x3 x4 (a0 + 29) (x3 - (1 : Int32)) (x6 - x7) σ) else (if x5 = (4 : Int32) then (jX7_termOf_158 a0 p1 p2 x3 x4 (a0 + 29) (x3 - (1 : Int32)) (x6 * x7) σ) else ((if ¬ x7 = 0 then (jX7_termOf_158 a0 p1 p2 x3 x4 (a0 + 29) (x3 - (1 : Int32)) (x6 / x7) σ) else none))))
noncomputable def jX7_termOf_58 (a0 : Nat) (p1 : Int32) (p2 : Int32) (x3 : Int32) (x4 : Int32) (s0 : Nat) (s1 : Int32) (s2 : Int32) (σ : Sg) : Option ((Int32 × Int32 × Sg) ⊕ ((Sg) ⊕ (Sg))) := if vin s1 400 then (let σ21 := wI σ s0 ((s1).toNatClampNeg) s2; (let x3_22 := x3 + (1 : Int32); jX7_termOf_159 a0 p1 p2 x3_22 x4 σ21)) else none
noncomputable def bX7_termOf_5 (a0 : Nat) (p1 : Int32) (p2 : Int32) (x3 : Int32) (x4 : Int32) (σ : Sg) : Option ((Int32 × Int32 × Sg) ⊕ ((Sg) ⊕ (Sg))) := if p2 ≤ x4 then (some (Sum.inr (Sum.inr σ))) else (if vin x4 840 then ((let x5_3 := (σ.1 (a0 + 25) ((x4).toNatClampNeg)); if (2 : Int32) ≤ x5_3 then ((let x3_4 := x3 + (-1 : Int32); if vin (x3_4 - (1 : Int32)) 400 then ((let x6_7 := (σ.1 (a0 + 29) (((x3_4 - (1 : Int32))).toNatClampNeg)); if vin x3_4 400 then ((let x7_10 := (σ.1 (a0 + 29) ((x3_4).toNatClampNeg)); if x5_3 = (5 : Int32) then (if x7_10 = 0 then (some (Sum.inr (Sum.inl σ))) else (jX7_termOf_104 a0 p1 p2 x3_4 x4 x5_3 x6_7 x7_10 σ)) else (jX7_termOf_104 a0 p1 p2 x3_4 x4 x5_3 x6_7 x7_10 σ))) else none)) else none)) else (if x5_3 = 0 then (jX7_termOf_58 a0 p1 p2 x3 x4 (a0 + 29) x3 (σ.1 (a0 + 26) ((x4).toNatClampNeg)) σ) else (if vin (σ.1 (a0 + 26) ((x4).toNatClampNeg)) 9 then (jX7_termOf_58 a0 p1 p2 x3 x4 (a0 + 29) x3 (σ.1 (a0 + 28) (((σ.1 (a0 + 26) ((x4).toNatClampNeg))).toNatClampNeg)) σ) else none)))) else none)
noncomputable def fX7_termOf (a0 : Nat) (p1 : Int32) (p2 : Int32) (σ : Sg) : Option (Int32 × Sg) := (lp (fun st => bX7_termOf_5 a0 p1 p2 st.1 st.2.1 st.2.2) ((0 : Int32), p1, σ)).bind (fun o24 => Sum.elim (fun σ25 => (let σ26 := wI σ25 a0 46 (1 : Int32); some ((0 : Int32), σ26))) (fun o24_ => (fun σ27 => some ((σ27.1 (a0 + 29) 0), σ27)) o24_) o24)
set_option maxRecDepth 100000 in
set_option maxHeartbeats 4000000 in
theorem mX7_termOf {l : Launch} {G : Gm} {a0 : Nat} {p1 : Int32} {p2 : Int32} {σ : Sg} {r : Int32} {σ' : Sg} (hk_a0 : gK G a0 = 8) (hf : fX7_termOf a0 p1 p2 σ = some (r, σ')) : Mi l G yX7_termOf cX7_termOf 8 .int 0 0 [.ref (gB G + a0), .int p1, .int p2] σ r σ' := by
  refine of_W "RightKeysModel" rfl (by decide) (Nat.le_of_ble_eq_true rfl) ?_
  intro p e s m args below meth c Q hQ C hr hlk hW ls hl
  have h00 := hW.1
  have hl : lv_has ls 8 [(0, .ref (gB G + a0)), (1, .int p1), (2, .int p2)] := hl
  delta fX7_termOf at hf
  have L5 : ∀ (n : Nat) (x3 : Int32) (x4 : Int32) (σ : Sg) (H : Heap) (locs : List Loc) (ls : Array Slot) (out : ((Sg) ⊕ (Sg))), iter (fun st => bX7_termOf_5 a0 p1 p2 st.1 st.2.1 st.2.2) n (x3, x4, σ) = some out → Ws G σ s.heap H locs → lv_has ls 8 [(0, .ref (gB G + a0)), (2, .int p2), (3, .int x3), (4, .int x4)] → (∀ (σ : Sg) (H : Heap) (locs : List Loc) (ls : Array Slot), out = (Sum.inl σ) → Ws G σ s.heap H locs → lv_has ls 8 [(0, .ref (gB G + a0))] → W p l e (rmOf 0 0) s m args below meth c H locs 0 0 Q (F0 m 97 ls [])) → (∀ (σ : Sg) (H : Heap) (locs : List Loc) (ls : Array Slot), out = (Sum.inr σ) → Ws G σ s.heap H locs → lv_has ls 8 [(0, .ref (gB G + a0))] → W p l e (rmOf 0 0) s m args below meth c H locs 0 0 Q (F0 m 165 ls [])) → W p l e (rmOf 0 0) s m args below meth c H locs 0 0 Q (F0 m 5 ls []) := by
    intro n
    induction n with
    | zero =>
      intro x3 x4 σ H locs ls out hf
      exact (it_0 hf).elim
    | succ n ih =>
      intro x3 x4 σ H locs ls out hf hW hl K5_97 K5_165
      obtain ⟨x, hf, hx⟩ := it_s hf
      have hf : bX7_termOf_5 a0 p1 p2 x3 x4 σ = some x := hf
      delta bX7_termOf_5 at hf
      have J159 : ∀ (x3 : Int32) (x4 : Int32) (σ : Sg) (H : Heap) (locs : List Loc) (ls : Array Slot), jX7_termOf_159 a0 p1 p2 x3 x4 σ = some x → Ws G σ s.heap H locs → lv_has ls 8 [(0, .ref (gB G + a0)), (2, .int p2), (3, .int x3), (4, .int x4)] → W p l e (rmOf 0 0) s m args below meth c H locs 0 0 Q (F0 m 159 ls []) := by
        intro x3 x4 σ H locs ls hf hW hl
        delta jX7_termOf_159 at hf
        refine lv_iinc (v := _) (lv' := [(4, .int _), (0, .ref _), (2, .int _), (3, .int _)]) C.1.1 C.1.2.1 dX7_termOf_159 hl (k := 3) rfl (ii (k := 1) (by decide)) (by decide) rfl (fun ls hl => ?_)
        refine lv_goto (tgt := 5) C.1.1 C.1.2.1 dX7_termOf_162 (by decide) ?_
        cases hf
        exact ih _ _ _ _ _ _ _ hx hW (lv_sub hl [1, 2, 3, 0] rfl) K5_97 K5_165
      have J158 : ∀ (x3 : Int32) (x4 : Int32) (s0 : Nat) (s1 : Int32) (s2 : Int32) (σ : Sg) (H : Heap) (locs : List Loc) (ls : Array Slot) (hk_s0 : gK G s0 = kA 1 400), jX7_termOf_158 a0 p1 p2 x3 x4 s0 s1 s2 σ = some x → Ws G σ s.heap H locs → lv_has ls 8 [(0, .ref (gB G + a0)), (2, .int p2), (3, .int x3), (4, .int x4)] → W p l e (rmOf 0 0) s m args below meth c H locs 0 0 Q (F0 m 158 ls [.int s2, .int s1, .ref (gB G + s0)]) := by
        intro x3 x4 s0 s1 s2 σ H locs ls hk_s0 hf hW hl
        delta jX7_termOf_158 at hf
        obtain ⟨hv13, hf⟩ := gd hf
        refine wsi C hW hk_s0 (vin_p hv13) dX7_termOf_158 (fun H locs hW => ?_)
        exact J159 _ _ _ _ _ _ hf hW (lv_sub hl [0, 1, 2, 3] rfl)
      have J104 : ∀ (x3 : Int32) (x4 : Int32) (x5 : Int32) (x6 : Int32) (x7 : Int32) (σ : Sg) (H : Heap) (locs : List Loc) (ls : Array Slot), jX7_termOf_104 a0 p1 p2 x3 x4 x5 x6 x7 σ = some x → Ws G σ s.heap H locs → lv_has ls 8 [(0, .ref (gB G + a0)), (2, .int p2), (3, .int x3), (4, .int x4), (5, .int x5), (6, .int x6), (7, .int x7)] → W p l e (rmOf 0 0) s m args below meth c H locs 0 0 Q (F0 m 104 ls []) := by
        intro x3 x4 x5 x6 x7 σ H locs ls hf hW hl
        delta jX7_termOf_104 at hf
        refine lv_aload_n C.1.1 C.1.2.1 dX7_termOf_104 rfl (lv_at hl 0 rfl) ?_
        have hk11 := sh7_45 hW hk_a0
        refine gf7_45 C hW hk_a0 w_1075 dX7_termOf_105 ?_
        refine lv_iload_n C.1.1 C.1.2.1 dX7_termOf_108 rfl (lv_at hl 2 rfl) ?_
        refine lv_iconst (v := 1) C.1.1 C.1.2.1 dX7_termOf_109 (by decide) ?_
        refine lv_isub C.1.1 C.1.2.1 dX7_termOf_110 ?_
        refine lv_iload C.1.1 C.1.2.1 dX7_termOf_111 (lv_at hl 4 rfl) ?_
        refine lv_iconst (v := 2) C.1.1 C.1.2.1 dX7_termOf_113 (by decide) ?_
        refine lv_icmp_ne (tgt := 125) C.1.1 C.1.2.1 dX7_termOf_114 (by decide) (fun h9 => ?_) (fun h9 => ?_)
        · replace hf := (if_neg h9).symm.trans hf
          refine lv_iload C.1.1 C.1.2.1 dX7_termOf_125 (lv_at hl 4 rfl) ?_
          refine lv_iconst (v := 3) C.1.1 C.1.2.1 dX7_termOf_127 (by decide) ?_
          refine lv_icmp_ne (tgt := 139) C.1.1 C.1.2.1 dX7_termOf_128 (by decide) (fun h9 => ?_) (fun h9 => ?_)
          · replace hf := (if_neg h9).symm.trans hf
            refine lv_iload C.1.1 C.1.2.1 dX7_termOf_139 (lv_at hl 4 rfl) ?_
            refine lv_iconst (v := 4) C.1.1 C.1.2.1 dX7_termOf_141 (by decide) ?_
            refine lv_icmp_ne (tgt := 153) C.1.1 C.1.2.1 dX7_termOf_142 (by decide) (fun h9 => ?_) (fun h9 => ?_)
            · replace hf := (if_neg h9).symm.trans hf
              refine lv_iload C.1.1 C.1.2.1 dX7_termOf_153 (lv_at hl 5 rfl) ?_
              refine lv_iload C.1.1 C.1.2.1 dX7_termOf_155 (lv_at hl 6 rfl) ?_
              obtain ⟨hz12, hf⟩ := gd hf
              refine lv_idiv C.1.1 C.1.2.1 dX7_termOf_157 hz12 ?_
              exact J158 _ _ _ _ _ _ _ _ _ hk11 hf hW (lv_sub hl [0, 1, 2, 3] rfl)
            · replace hf := (if_pos h9).symm.trans hf
              refine lv_iload C.1.1 C.1.2.1 dX7_termOf_145 (lv_at hl 5 rfl) ?_
              refine lv_iload C.1.1 C.1.2.1 dX7_termOf_147 (lv_at hl 6 rfl) ?_
              refine lv_imul C.1.1 C.1.2.1 dX7_termOf_149 ?_
              refine lv_goto (tgt := 158) C.1.1 C.1.2.1 dX7_termOf_150 (by decide) ?_
              exact J158 _ _ _ _ _ _ _ _ _ hk11 hf hW (lv_sub hl [0, 1, 2, 3] rfl)
          · replace hf := (if_pos h9).symm.trans hf
            refine lv_iload C.1.1 C.1.2.1 dX7_termOf_131 (lv_at hl 5 rfl) ?_
            refine lv_iload C.1.1 C.1.2.1 dX7_termOf_133 (lv_at hl 6 rfl) ?_
            refine lv_isub C.1.1 C.1.2.1 dX7_termOf_135 ?_
            refine lv_goto (tgt := 158) C.1.1 C.1.2.1 dX7_termOf_136 (by decide) ?_
            exact J158 _ _ _ _ _ _ _ _ _ hk11 hf hW (lv_sub hl [0, 1, 2, 3] rfl)
        · replace hf := (if_pos h9).symm.trans hf
          refine lv_iload C.1.1 C.1.2.1 dX7_termOf_117 (lv_at hl 5 rfl) ?_
          refine lv_iload C.1.1 C.1.2.1 dX7_termOf_119 (lv_at hl 6 rfl) ?_
          refine lv_iadd C.1.1 C.1.2.1 dX7_termOf_121 ?_
          refine lv_goto (tgt := 158) C.1.1 C.1.2.1 dX7_termOf_122 (by decide) ?_
          exact J158 _ _ _ _ _ _ _ _ _ hk11 hf hW (lv_sub hl [0, 1, 2, 3] rfl)
      have J58 : ∀ (x3 : Int32) (x4 : Int32) (s0 : Nat) (s1 : Int32) (s2 : Int32) (σ : Sg) (H : Heap) (locs : List Loc) (ls : Array Slot) (hk_s0 : gK G s0 = kA 1 400), jX7_termOf_58 a0 p1 p2 x3 x4 s0 s1 s2 σ = some x → Ws G σ s.heap H locs → lv_has ls 8 [(0, .ref (gB G + a0)), (2, .int p2), (3, .int x3), (4, .int x4)] → W p l e (rmOf 0 0) s m args below meth c H locs 0 0 Q (F0 m 58 ls [.int s2, .int s1, .ref (gB G + s0)]) := by
        intro x3 x4 s0 s1 s2 σ H locs ls hk_s0 hf hW hl
        delta jX7_termOf_58 at hf
        obtain ⟨hv20, hf⟩ := gd hf
        refine wsi C hW hk_s0 (vin_p hv20) dX7_termOf_58 (fun H locs hW => ?_)
        refine lv_iinc (v := _) (lv' := [(3, .int _), (0, .ref _), (2, .int _), (4, .int _)]) C.1.1 C.1.2.1 dX7_termOf_59 hl (k := 2) rfl (ii (k := 1) (by decide)) (by decide) rfl (fun ls hl => ?_)
        refine lv_goto (tgt := 159) C.1.1 C.1.2.1 dX7_termOf_62 (by decide) ?_
        exact J159 _ _ _ _ _ _ hf hW (lv_sub hl [1, 2, 0, 3] rfl)
      refine lv_iload C.1.1 C.1.2.1 dX7_termOf_5 (lv_at hl 3 rfl) ?_
      refine lv_iload_n C.1.1 C.1.2.1 dX7_termOf_7 rfl (lv_at hl 1 rfl) ?_
      refine lv_icmp_ge (tgt := 165) C.1.1 C.1.2.1 dX7_termOf_8 (by decide) (fun h9 => ?_) (fun h9 => ?_)
      · replace hf := (if_pos h9).symm.trans hf
        cases hf
        cases hx
        exact K5_165 _ _ _ _ rfl hW (lv_sub hl [0] rfl)
      · replace hf := (if_neg h9).symm.trans hf
        refine lv_aload_n C.1.1 C.1.2.1 dX7_termOf_11 rfl (lv_at hl 0 rfl) ?_
        have hk1 := sh7_40 hW hk_a0
        refine gf7_40 C hW hk_a0 w_1070 dX7_termOf_12 ?_
        refine lv_iload C.1.1 C.1.2.1 dX7_termOf_15 (lv_at hl 3 rfl) ?_
        obtain ⟨hv2, hf⟩ := gd hf
        refine wai C hW hk1 (vin_p hv2) dX7_termOf_17 ?_
        refine lv_istore (lv' := [(5, .int _), (0, .ref _), (2, .int _), (3, .int _), (4, .int _)]) C.1.1 C.1.2.1 dX7_termOf_18 hl (by decide) rfl (fun ls hl => ?_)
        refine lv_iload C.1.1 C.1.2.1 dX7_termOf_20 (lv_at hl 0 rfl) ?_
        refine lv_iconst (v := 2) C.1.1 C.1.2.1 dX7_termOf_22 (by decide) ?_
        refine lv_icmp_ge (tgt := 65) C.1.1 C.1.2.1 dX7_termOf_23 (by decide) (fun h9 => ?_) (fun h9 => ?_)
        · replace hf := (if_pos h9).symm.trans hf
          refine lv_iinc (v := _) (lv' := [(3, .int _), (5, .int _), (0, .ref _), (2, .int _), (4, .int _)]) C.1.1 C.1.2.1 dX7_termOf_65 hl (k := 3) rfl (ii (k := (-1)) (by decide)) (by decide) rfl (fun ls hl => ?_)
          refine lv_aload_n C.1.1 C.1.2.1 dX7_termOf_68 rfl (lv_at hl 2 rfl) ?_
          have hk5 := sh7_45 hW hk_a0
          refine gf7_45 C hW hk_a0 w_1075 dX7_termOf_69 ?_
          refine lv_iload_n C.1.1 C.1.2.1 dX7_termOf_72 rfl (lv_at hl 0 rfl) ?_
          refine lv_iconst (v := 1) C.1.1 C.1.2.1 dX7_termOf_73 (by decide) ?_
          refine lv_isub C.1.1 C.1.2.1 dX7_termOf_74 ?_
          obtain ⟨hv6, hf⟩ := gd hf
          refine wai C hW hk5 (vin_p hv6) dX7_termOf_75 ?_
          refine lv_istore (lv' := [(6, .int _), (3, .int _), (5, .int _), (0, .ref _), (2, .int _), (4, .int _)]) C.1.1 C.1.2.1 dX7_termOf_76 hl (by decide) rfl (fun ls hl => ?_)
          refine lv_aload_n C.1.1 C.1.2.1 dX7_termOf_78 rfl (lv_at hl 3 rfl) ?_
          have hk8 := sh7_45 hW hk_a0
          refine gf7_45 C hW hk_a0 w_1075 dX7_termOf_79 ?_
          refine lv_iload_n C.1.1 C.1.2.1 dX7_termOf_82 rfl (lv_at hl 1 rfl) ?_
          obtain ⟨hv9, hf⟩ := gd hf
          refine wai C hW hk8 (vin_p hv9) dX7_termOf_83 ?_
          refine lv_istore (lv' := [(7, .int _), (6, .int _), (3, .int _), (5, .int _), (0, .ref _), (2, .int _), (4, .int _)]) C.1.1 C.1.2.1 dX7_termOf_84 hl (by decide) rfl (fun ls hl => ?_)
          refine lv_iload C.1.1 C.1.2.1 dX7_termOf_86 (lv_at hl 3 rfl) ?_
          refine lv_iconst (v := 5) C.1.1 C.1.2.1 dX7_termOf_88 (by decide) ?_
          refine lv_icmp_ne (tgt := 104) C.1.1 C.1.2.1 dX7_termOf_89 (by decide) (fun h9 => ?_) (fun h9 => ?_)
          · replace hf := (if_neg h9).symm.trans hf
            exact J104 _ _ _ _ _ _ _ _ _ hf hW (lv_sub hl [4, 5, 2, 6, 3, 1, 0] rfl)
          · replace hf := (if_pos h9).symm.trans hf
            refine lv_iload C.1.1 C.1.2.1 dX7_termOf_92 (lv_at hl 0 rfl) ?_
            refine lv_if_ne (tgt := 104) C.1.1 C.1.2.1 dX7_termOf_94 (by decide) (fun h9 => ?_) (fun h9 => ?_)
            · replace hf := (if_neg h9).symm.trans hf
              exact J104 _ _ _ _ _ _ _ _ _ hf hW (lv_sub hl [4, 5, 2, 6, 3, 1, 0] rfl)
            · replace hf := (if_pos h9).symm.trans hf
              cases hf
              cases hx
              exact K5_97 _ _ _ _ rfl hW (lv_sub hl [4] rfl)
        · replace hf := (if_neg h9).symm.trans hf
          refine lv_aload_n C.1.1 C.1.2.1 dX7_termOf_26 rfl (lv_at hl 1 rfl) ?_
          have hk16 := sh7_45 hW hk_a0
          refine gf7_45 C hW hk_a0 w_1075 dX7_termOf_27 ?_
          refine lv_iload_n C.1.1 C.1.2.1 dX7_termOf_30 rfl (lv_at hl 3 rfl) ?_
          refine lv_iload C.1.1 C.1.2.1 dX7_termOf_31 (lv_at hl 0 rfl) ?_
          refine lv_if_ne (tgt := 46) C.1.1 C.1.2.1 dX7_termOf_33 (by decide) (fun h9 => ?_) (fun h9 => ?_)
          · replace hf := (if_neg h9).symm.trans hf
            refine lv_aload_n C.1.1 C.1.2.1 dX7_termOf_46 rfl (lv_at hl 1 rfl) ?_
            have hk17 := sh7_44 hW hk_a0
            refine gf7_44 C hW hk_a0 w_1074 dX7_termOf_47 ?_
            refine lv_aload_n C.1.1 C.1.2.1 dX7_termOf_50 rfl (lv_at hl 1 rfl) ?_
            have hk18 := sh7_41 hW hk_a0
            refine gf7_41 C hW hk_a0 w_1071 dX7_termOf_51 ?_
            refine lv_iload C.1.1 C.1.2.1 dX7_termOf_54 (lv_at hl 4 rfl) ?_
            refine wai C hW hk18 (vin_p hv2) dX7_termOf_56 ?_
            obtain ⟨hv19, hf⟩ := gd hf
            refine wai C hW hk17 (vin_p hv19) dX7_termOf_57 ?_
            exact J58 _ _ _ _ _ _ _ _ _ hk16 hf hW (lv_sub hl [1, 2, 3, 4] rfl)
          · replace hf := (if_pos h9).symm.trans hf
            refine lv_aload_n C.1.1 C.1.2.1 dX7_termOf_36 rfl (lv_at hl 1 rfl) ?_
            have hk23 := sh7_41 hW hk_a0
            refine gf7_41 C hW hk_a0 w_1071 dX7_termOf_37 ?_
            refine lv_iload C.1.1 C.1.2.1 dX7_termOf_40 (lv_at hl 4 rfl) ?_
            refine wai C hW hk23 (vin_p hv2) dX7_termOf_42 ?_
            refine lv_goto (tgt := 58) C.1.1 C.1.2.1 dX7_termOf_43 (by decide) ?_
            exact J58 _ _ _ _ _ _ _ _ _ hk16 hf hW (lv_sub hl [1, 2, 3, 4] rfl)
  refine lv_iconst (v := 0) C.1.1 C.1.2.1 dX7_termOf_0 (by decide) ?_
  refine lv_istore_n (lv' := [(3, .int _), (0, .ref _), (1, .int _), (2, .int _)]) C.1.1 C.1.2.1 dX7_termOf_1 rfl hl (by decide) rfl (fun ls hl => ?_)
  refine lv_iload_n C.1.1 C.1.2.1 dX7_termOf_2 rfl (lv_at hl 2 rfl) ?_
  refine lv_istore (lv' := [(4, .int _), (3, .int _), (0, .ref _), (1, .int _), (2, .int _)]) C.1.1 C.1.2.1 dX7_termOf_3 hl (by decide) rfl (fun ls hl => ?_)
  obtain ⟨o24, ho, hf⟩ := bd hf
  obtain ⟨n, ho⟩ := lp_it ho
  refine L5 n _ _ _ _ _ _ o24 ho hW (lv_sub hl [2, 4, 1, 0] rfl) ?_ ?_
  · intro  σ25 H locs ls e9 hW hl
    subst e9
    try dsimp only at hf
    refine lv_aload_n C.1.1 C.1.2.1 dX7_termOf_97 rfl (lv_at hl 0 rfl) ?_
    refine lv_iconst (v := 1) C.1.1 C.1.2.1 dX7_termOf_98 (by decide) ?_
    refine pf7_46 C hW hk_a0 w_1076 (Or.inr rfl) dX7_termOf_99 (fun H locs hW => ?_)
    refine lv_iconst (v := 0) C.1.1 C.1.2.1 dX7_termOf_102 (by decide) ?_
    exact ri hQ C hr hlk hW hf (rok_i _) dX7_termOf_103
  · intro  σ27 H locs ls e9 hW hl
    subst e9
    try dsimp only at hf
    refine lv_aload_n C.1.1 C.1.2.1 dX7_termOf_165 rfl (lv_at hl 0 rfl) ?_
    have hk28 := sh7_45 hW hk_a0
    refine gf7_45 C hW hk_a0 w_1075 dX7_termOf_166 ?_
    refine lv_iconst (v := 0) C.1.1 C.1.2.1 dX7_termOf_169 (by decide) ?_
    refine wai C hW hk28 (vin_p ⟨by decide, by decide⟩) dX7_termOf_170 ?_
    exact ri hQ C hr hlk hW hf (rok_i _) dX7_termOf_171
theorem ksX7_in : KS yX7_in cX7_in 3 (some .boolean) 3 := ⟨⟨w_1352, w_116, w_1353⟩, ⟨by decide, by decide, by decide +kernel⟩⟩
noncomputable def fX7_in (p0 : Int32) (p1 : Int32) (p2 : Int32) (σ : Sg) : Option (Int32 × Sg) := if p0 < p1 then (some ((0 : Int32), σ)) else (if p2 < p0 then (some ((0 : Int32), σ)) else (some ((1 : Int32), σ)))
set_option maxRecDepth 100000 in
set_option maxHeartbeats 4000000 in
theorem mX7_in {l : Launch} {G : Gm} {p0 : Int32} {p1 : Int32} {p2 : Int32} {σ : Sg} {r : Int32} {σ' : Sg}  (hf : fX7_in p0 p1 p2 σ = some (r, σ')) : Mi l G yX7_in cX7_in 3 .boolean 0 0 [.int p0, .int p1, .int p2] σ r σ' := by
  refine of_W "RightKeysModel" rfl (by decide) (Nat.le_of_ble_eq_true rfl) ?_
  intro p e s m args below meth c Q hQ C hr hlk hW ls hl
  have h00 := hW.1
  have hl : lv_has ls 3 [(0, .int p0), (1, .int p1), (2, .int p2)] := hl
  delta fX7_in at hf
  refine lv_iload_n C.1.1 C.1.2.1 dX7_in_0 rfl (lv_at hl 0 rfl) ?_
  refine lv_iload_n C.1.1 C.1.2.1 dX7_in_1 rfl (lv_at hl 1 rfl) ?_
  refine lv_icmp_lt (tgt := 14) C.1.1 C.1.2.1 dX7_in_2 (by decide) (fun h9 => ?_) (fun h9 => ?_)
  · replace hf := (if_pos h9).symm.trans hf
    refine lv_iconst (v := 0) C.1.1 C.1.2.1 dX7_in_14 (by decide) ?_
    exact ri hQ C hr hlk hW hf (rok_z (Or.inl rfl)) dX7_in_15
  · replace hf := (if_neg h9).symm.trans hf
    refine lv_iload_n C.1.1 C.1.2.1 dX7_in_5 rfl (lv_at hl 0 rfl) ?_
    refine lv_iload_n C.1.1 C.1.2.1 dX7_in_6 rfl (lv_at hl 2 rfl) ?_
    refine lv_icmp_gt (tgt := 14) C.1.1 C.1.2.1 dX7_in_7 (by decide) (fun h9 => ?_) (fun h9 => ?_)
    · replace hf := (if_pos h9).symm.trans hf
      refine lv_iconst (v := 0) C.1.1 C.1.2.1 dX7_in_14 (by decide) ?_
      exact ri hQ C hr hlk hW hf (rok_z (Or.inl rfl)) dX7_in_15
    · replace hf := (if_neg h9).symm.trans hf
      refine lv_iconst (v := 1) C.1.1 C.1.2.1 dX7_in_10 (by decide) ?_
      refine lv_goto (tgt := 15) C.1.1 C.1.2.1 dX7_in_11 (by decide) ?_
      exact ri hQ C hr hlk hW hf (rok_z (Or.inr rfl)) dX7_in_15
theorem ksX7_within : KS yX7_within cX7_within 3 (some .int) 3 := ⟨⟨w_1386, w_116, w_1387⟩, ⟨by decide, by decide, by decide +kernel⟩⟩
noncomputable def fX7_within (p0 : Int32) (p1 : Int32) (p2 : Int32) (σ : Sg) : Option (Int32 × Sg) := if p1 ≤ p0 then (if p0 ≤ p2 then (some (p0, σ)) else (some (p2, σ))) else (some (p1, σ))
set_option maxRecDepth 100000 in
set_option maxHeartbeats 4000000 in
theorem mX7_within {l : Launch} {G : Gm} {p0 : Int32} {p1 : Int32} {p2 : Int32} {σ : Sg} {r : Int32} {σ' : Sg}  (hf : fX7_within p0 p1 p2 σ = some (r, σ')) : Mi l G yX7_within cX7_within 3 .int 0 0 [.int p0, .int p1, .int p2] σ r σ' := by
  refine of_W "RightKeysModel" rfl (by decide) (Nat.le_of_ble_eq_true rfl) ?_
  intro p e s m args below meth c Q hQ C hr hlk hW ls hl
  have h00 := hW.1
  have hl : lv_has ls 3 [(0, .int p0), (1, .int p1), (2, .int p2)] := hl
  delta fX7_within at hf
  refine lv_iload_n C.1.1 C.1.2.1 dX7_within_0 rfl (lv_at hl 0 rfl) ?_
  refine lv_iload_n C.1.1 C.1.2.1 dX7_within_1 rfl (lv_at hl 1 rfl) ?_
  refine lv_icmp_ge (tgt := 9) C.1.1 C.1.2.1 dX7_within_2 (by decide) (fun h9 => ?_) (fun h9 => ?_)
  · replace hf := (if_pos h9).symm.trans hf
    refine lv_iload_n C.1.1 C.1.2.1 dX7_within_9 rfl (lv_at hl 0 rfl) ?_
    refine lv_iload_n C.1.1 C.1.2.1 dX7_within_10 rfl (lv_at hl 2 rfl) ?_
    refine lv_icmp_le (tgt := 18) C.1.1 C.1.2.1 dX7_within_11 (by decide) (fun h9 => ?_) (fun h9 => ?_)
    · replace hf := (if_pos h9).symm.trans hf
      refine lv_iload_n C.1.1 C.1.2.1 dX7_within_18 rfl (lv_at hl 0 rfl) ?_
      exact ri hQ C hr hlk hW hf (rok_i _) dX7_within_19
    · replace hf := (if_neg h9).symm.trans hf
      refine lv_iload_n C.1.1 C.1.2.1 dX7_within_14 rfl (lv_at hl 2 rfl) ?_
      refine lv_goto (tgt := 19) C.1.1 C.1.2.1 dX7_within_15 (by decide) ?_
      exact ri hQ C hr hlk hW hf (rok_i _) dX7_within_19
  · replace hf := (if_neg h9).symm.trans hf
    refine lv_iload_n C.1.1 C.1.2.1 dX7_within_5 rfl (lv_at hl 1 rfl) ?_
    refine lv_goto (tgt := 19) C.1.1 C.1.2.1 dX7_within_6 (by decide) ?_
    exact ri hQ C hr hlk hW hf (rok_i _) dX7_within_19
theorem ksX7_bits : KS yX7_bits cX7_bits 3 (some .int) 1 := ⟨⟨w_1371, w_116, w_1372⟩, ⟨by decide, by decide, by decide +kernel⟩⟩
noncomputable def bX7_bits_4 (p0 : Int32) (x1 : Int32) (x2 : Int32) (σ : Sg) : Option ((Int32 × Int32 × Sg) ⊕ (Int32 × Sg)) := if (8 : Int32) ≤ x2 then (some (Sum.inr (x1, σ))) else ((let x1_1 := (x1 + ((p0 >>> (x2 &&& 31)) &&& (1 : Int32))); let x2_2 := x2 + (1 : Int32); some (Sum.inl (x1_1, x2_2, σ))))
noncomputable def fX7_bits (p0 : Int32) (σ : Sg) : Option (Int32 × Sg) := (lp (fun st => bX7_bits_4 p0 st.1 st.2.1 st.2.2) ((0 : Int32), (0 : Int32), σ)).bind (fun q6 => let y5 := q6.1; let σ4 := q6.2;  some (y5, σ4))
set_option maxRecDepth 100000 in
set_option maxHeartbeats 4000000 in
theorem mX7_bits {l : Launch} {G : Gm} {p0 : Int32} {σ : Sg} {r : Int32} {σ' : Sg}  (hf : fX7_bits p0 σ = some (r, σ')) : Mi l G yX7_bits cX7_bits 3 .int 0 0 [.int p0] σ r σ' := by
  refine of_W "RightKeysModel" rfl (by decide) (Nat.le_of_ble_eq_true rfl) ?_
  intro p e s m args below meth c Q hQ C hr hlk hW ls hl
  have h00 := hW.1
  have hl : lv_has ls 3 [(0, .int p0)] := hl
  delta fX7_bits at hf
  have L4 : ∀ (n : Nat) (x1 : Int32) (x2 : Int32) (σ : Sg) (H : Heap) (locs : List Loc) (ls : Array Slot) (out : (Int32 × Sg)), iter (fun st => bX7_bits_4 p0 st.1 st.2.1 st.2.2) n (x1, x2, σ) = some out → Ws G σ s.heap H locs → lv_has ls 3 [(0, .int p0), (1, .int x1), (2, .int x2)] → (∀ (y1 : Int32) (σ : Sg) (H : Heap) (locs : List Loc) (ls : Array Slot), out = (y1, σ) → Ws G σ s.heap H locs → lv_has ls 3 [(1, .int y1)] → W p l e (rmOf 0 0) s m args below meth c H locs 0 0 Q (F0 m 24 ls [])) → W p l e (rmOf 0 0) s m args below meth c H locs 0 0 Q (F0 m 4 ls []) := by
    intro n
    induction n with
    | zero =>
      intro x1 x2 σ H locs ls out hf
      exact (it_0 hf).elim
    | succ n ih =>
      intro x1 x2 σ H locs ls out hf hW hl K4_24
      obtain ⟨x, hf, hx⟩ := it_s hf
      have hf : bX7_bits_4 p0 x1 x2 σ = some x := hf
      delta bX7_bits_4 at hf
      refine lv_iload_n C.1.1 C.1.2.1 dX7_bits_4 rfl (lv_at hl 2 rfl) ?_
      refine lv_bipush (v := 8) C.1.1 C.1.2.1 dX7_bits_5 (by decide) ?_
      refine lv_icmp_ge (tgt := 24) C.1.1 C.1.2.1 dX7_bits_7 (by decide) (fun h9 => ?_) (fun h9 => ?_)
      · replace hf := (if_pos h9).symm.trans hf
        cases hf
        cases hx
        exact K4_24 _ _ _ _ _ rfl hW (lv_sub hl [1] rfl)
      · replace hf := (if_neg h9).symm.trans hf
        refine lv_iload_n C.1.1 C.1.2.1 dX7_bits_10 rfl (lv_at hl 1 rfl) ?_
        refine lv_iload_n C.1.1 C.1.2.1 dX7_bits_11 rfl (lv_at hl 0 rfl) ?_
        refine lv_iload_n C.1.1 C.1.2.1 dX7_bits_12 rfl (lv_at hl 2 rfl) ?_
        refine lv_ishr C.1.1 C.1.2.1 dX7_bits_13 ?_
        refine lv_iconst (v := 1) C.1.1 C.1.2.1 dX7_bits_14 (by decide) ?_
        refine lv_iand C.1.1 C.1.2.1 dX7_bits_15 ?_
        refine lv_iadd C.1.1 C.1.2.1 dX7_bits_16 ?_
        refine lv_istore_n (lv' := [(1, .int _), (0, .int _), (2, .int _)]) C.1.1 C.1.2.1 dX7_bits_17 rfl hl (by decide) rfl (fun ls hl => ?_)
        refine lv_iinc (v := _) (lv' := [(2, .int _), (1, .int _), (0, .int _)]) C.1.1 C.1.2.1 dX7_bits_18 hl (k := 2) rfl (ii (k := 1) (by decide)) (by decide) rfl (fun ls hl => ?_)
        refine lv_goto (tgt := 4) C.1.1 C.1.2.1 dX7_bits_21 (by decide) ?_
        cases hf
        exact ih _ _ _ _ _ _ _ hx hW (lv_sub hl [2, 1, 0] rfl) K4_24
  refine lv_iconst (v := 0) C.1.1 C.1.2.1 dX7_bits_0 (by decide) ?_
  refine lv_istore_n (lv' := [(1, .int _), (0, .int _)]) C.1.1 C.1.2.1 dX7_bits_1 rfl hl (by decide) rfl (fun ls hl => ?_)
  refine lv_iconst (v := 0) C.1.1 C.1.2.1 dX7_bits_2 (by decide) ?_
  refine lv_istore_n (lv' := [(2, .int _), (1, .int _), (0, .int _)]) C.1.1 C.1.2.1 dX7_bits_3 rfl hl (by decide) rfl (fun ls hl => ?_)
  obtain ⟨o3, ho, hf⟩ := bd hf
  obtain ⟨n, ho⟩ := lp_it ho
  refine L4 n _ _ _ _ _ _ o3 ho hW (lv_sub hl [2, 1, 0] rfl) ?_
  intro y5 σ4 H locs ls e9 hW hl
  subst e9
  try dsimp only at hf
  refine lv_iload_n C.1.1 C.1.2.1 dX7_bits_24 rfl (lv_at hl 0 rfl) ?_
  exact ri hQ C hr hlk hW hf (rok_i _) dX7_bits_25
theorem kvX7_isHouse : KV 7 "RightKeysModel" yX7_isHouse cX7_isHouse 2 (some .boolean) 1 := ⟨⟨w_1349, w_68, w_116, w_1350⟩, ⟨rfl, by decide, by decide, by decide +kernel⟩, by decide, rfl⟩
noncomputable def fX7_isHouse (a0 : Nat) (p1 : Int32) (σ : Sg) : Option (Int32 × Sg) := if vin (σ.1 a0 18) 2 then ((fX7_in p1 (0 : Int32) ((σ.1 (a0 + 9) (((σ.1 a0 18)).toNatClampNeg)) - (1 : Int32)) σ).bind (fun q7 => let r5 := q7.1; let σ4 := q7.2; some (r5, σ4))) else none
set_option maxRecDepth 100000 in
set_option maxHeartbeats 4000000 in
theorem mX7_isHouse {l : Launch} {G : Gm} {a0 : Nat} {p1 : Int32} {σ : Sg} {r : Int32} {σ' : Sg} (hk_a0 : gK G a0 = 8) (hf : fX7_isHouse a0 p1 σ = some (r, σ')) : Mi l G yX7_isHouse cX7_isHouse 2 .boolean 1 22 [.ref (gB G + a0), .int p1] σ r σ' := by
  refine of_W "RightKeysModel" rfl (by decide) (Nat.le_of_ble_eq_true rfl) ?_
  intro p e s m args below meth c Q hQ C hr hlk hW ls hl
  have h00 := hW.1
  have hl : lv_has ls 2 [(0, .ref (gB G + a0)), (1, .int p1)] := hl
  delta fX7_isHouse at hf
  refine lv_iload_n C.1.1 C.1.2.1 dX7_isHouse_0 rfl (lv_at hl 1 rfl) ?_
  refine lv_iconst (v := 0) C.1.1 C.1.2.1 dX7_isHouse_1 (by decide) ?_
  refine lv_aload_n C.1.1 C.1.2.1 dX7_isHouse_2 rfl (lv_at hl 0 rfl) ?_
  have hk1 := sh7_22 hW hk_a0
  refine gf7_22 C hW hk_a0 w_1052 dX7_isHouse_3 ?_
  refine lv_aload_n C.1.1 C.1.2.1 dX7_isHouse_6 rfl (lv_at hl 0 rfl) ?_
  refine gf7_18 C hW hk_a0 w_1048 dX7_isHouse_7 ?_
  obtain ⟨hv2, hf⟩ := gd hf
  refine wai C hW hk1 (vin_p hv2) dX7_isHouse_10 ?_
  refine lv_iconst (v := 1) C.1.1 C.1.2.1 dX7_isHouse_11 (by decide) ?_
  refine lv_isub C.1.1 C.1.2.1 dX7_isHouse_12 ?_
  obtain ⟨⟨r5, σ4⟩, hc3, hf⟩ := bd hf
  try dsimp only at hf
  refine cSi C hW (mX7_in hc3) ksX7_in w_1351 ⟨(Nat.le_of_ble_eq_true rfl), (Nat.le_of_ble_eq_true rfl)⟩ ⟨Nat.zero_le _, Nat.zero_le _⟩ rfl hl.1 (rest := []) rfl (Nat.le_of_ble_eq_true rfl) dX7_isHouse_13 (fun H locs hn6 hW => ?_)
  exact ri hQ C hr hlk hW hf (rok_z (hn6.2 rfl)) dX7_isHouse_16
theorem kvX7_isSpare : KV 7 "RightKeysModel" yX7_isSpare cX7_isSpare 2 (some .boolean) 1 := ⟨⟨w_1394, w_76, w_116, w_1395⟩, ⟨rfl, by decide, by decide, by decide +kernel⟩, by decide, rfl⟩
noncomputable def fX7_isSpare (a0 : Nat) (p1 : Int32) (σ : Sg) : Option (Int32 × Sg) := if vin (σ.1 a0 18) 2 then ((fX7_in p1 (0 : Int32) ((σ.1 (a0 + 14) (((σ.1 a0 18)).toNatClampNeg)) - (1 : Int32)) σ).bind (fun q7 => let r5 := q7.1; let σ4 := q7.2; some (r5, σ4))) else none
set_option maxRecDepth 100000 in
set_option maxHeartbeats 4000000 in
theorem mX7_isSpare {l : Launch} {G : Gm} {a0 : Nat} {p1 : Int32} {σ : Sg} {r : Int32} {σ' : Sg} (hk_a0 : gK G a0 = 8) (hf : fX7_isSpare a0 p1 σ = some (r, σ')) : Mi l G yX7_isSpare cX7_isSpare 2 .boolean 1 22 [.ref (gB G + a0), .int p1] σ r σ' := by
  refine of_W "RightKeysModel" rfl (by decide) (Nat.le_of_ble_eq_true rfl) ?_
  intro p e s m args below meth c Q hQ C hr hlk hW ls hl
  have h00 := hW.1
  have hl : lv_has ls 2 [(0, .ref (gB G + a0)), (1, .int p1)] := hl
  delta fX7_isSpare at hf
  refine lv_iload_n C.1.1 C.1.2.1 dX7_isSpare_0 rfl (lv_at hl 1 rfl) ?_
  refine lv_iconst (v := 0) C.1.1 C.1.2.1 dX7_isSpare_1 (by decide) ?_
  refine lv_aload_n C.1.1 C.1.2.1 dX7_isSpare_2 rfl (lv_at hl 0 rfl) ?_
  have hk1 := sh7_27 hW hk_a0
  refine gf7_27 C hW hk_a0 w_1057 dX7_isSpare_3 ?_
  refine lv_aload_n C.1.1 C.1.2.1 dX7_isSpare_6 rfl (lv_at hl 0 rfl) ?_
  refine gf7_18 C hW hk_a0 w_1048 dX7_isSpare_7 ?_
  obtain ⟨hv2, hf⟩ := gd hf
  refine wai C hW hk1 (vin_p hv2) dX7_isSpare_10 ?_
  refine lv_iconst (v := 1) C.1.1 C.1.2.1 dX7_isSpare_11 (by decide) ?_
  refine lv_isub C.1.1 C.1.2.1 dX7_isSpare_12 ?_
  obtain ⟨⟨r5, σ4⟩, hc3, hf⟩ := bd hf
  try dsimp only at hf
  refine cSi C hW (mX7_in hc3) ksX7_in w_1351 ⟨(Nat.le_of_ble_eq_true rfl), (Nat.le_of_ble_eq_true rfl)⟩ ⟨Nat.zero_le _, Nat.zero_le _⟩ rfl hl.1 (rest := []) rfl (Nat.le_of_ble_eq_true rfl) dX7_isSpare_13 (fun H locs hn6 hW => ?_)
  exact ri hQ C hr hlk hW hf (rok_z (hn6.2 rfl)) dX7_isSpare_16
theorem kvX7_copies : KV 7 "RightKeysModel" yX7_copies cX7_copies 2 none 0 := ⟨⟨w_1356, w_69, w_116, w_1357⟩, ⟨rfl, by decide, by decide, by decide +kernel⟩, by decide, rfl⟩
noncomputable def bX7_copies_2 (a0 : Nat) (x1 : Int32) (σ : Sg) : Option ((Int32 × Sg) ⊕ (Sg)) := if (88 : Int32) ≤ x1 then (some (Sum.inr σ)) else (if vin x1 88 then ((let σ4 := wI σ (a0 + 31) ((x1).toNatClampNeg) (σ.1 (a0 + 30) ((x1).toNatClampNeg)); let x1_5 := x1 + (1 : Int32); some (Sum.inl (x1_5, σ4)))) else none)
noncomputable def fX7_copies (a0 : Nat) (σ : Sg) : Option (Sg) := (lp (fun st => bX7_copies_2 a0 st.1 st.2) ((0 : Int32), σ)).bind (fun σ7 => if vin (σ7.1 a0 18) 2 then ((let σ10 := wI σ7 a0 49 (σ7.1 (a0 + 17) (((σ7.1 a0 18)).toNatClampNeg)); let σ11 := wI σ10 a0 50 (0 : Int32); let σ12 := wI σ11 a0 51 (-1 : Int32); some σ12)) else none)
set_option maxRecDepth 100000 in
set_option maxHeartbeats 4000000 in
theorem mX7_copies {l : Launch} {G : Gm} {a0 : Nat} {σ : Sg} {σ' : Sg} (hk_a0 : gK G a0 = 8) (hf : fX7_copies a0 σ = some σ') : Mv l G yX7_copies cX7_copies 2 0 0 [.ref (gB G + a0)] σ σ' := by
  refine of_W "RightKeysModel" rfl (by decide) (Nat.le_of_ble_eq_true rfl) ?_
  intro p e s m args below meth c Q hQ C hr hlk hW ls hl
  have h00 := hW.1
  have hl : lv_has ls 2 [(0, .ref (gB G + a0))] := hl
  delta fX7_copies at hf
  have L2 : ∀ (n : Nat) (x1 : Int32) (σ : Sg) (H : Heap) (locs : List Loc) (ls : Array Slot) (out : (Sg)), iter (fun st => bX7_copies_2 a0 st.1 st.2) n (x1, σ) = some out → Ws G σ s.heap H locs → lv_has ls 2 [(0, .ref (gB G + a0)), (1, .int x1)] → (∀ (σ : Sg) (H : Heap) (locs : List Loc) (ls : Array Slot), out = σ → Ws G σ s.heap H locs → lv_has ls 2 [(0, .ref (gB G + a0))] → W p l e (rmOf 0 0) s m args below meth c H locs 0 0 Q (F0 m 26 ls [])) → W p l e (rmOf 0 0) s m args below meth c H locs 0 0 Q (F0 m 2 ls []) := by
    intro n
    induction n with
    | zero =>
      intro x1 σ H locs ls out hf
      exact (it_0 hf).elim
    | succ n ih =>
      intro x1 σ H locs ls out hf hW hl K2_26
      obtain ⟨x, hf, hx⟩ := it_s hf
      have hf : bX7_copies_2 a0 x1 σ = some x := hf
      delta bX7_copies_2 at hf
      refine lv_iload_n C.1.1 C.1.2.1 dX7_copies_2 rfl (lv_at hl 1 rfl) ?_
      refine lv_bipush (v := 88) C.1.1 C.1.2.1 dX7_copies_3 (by decide) ?_
      refine lv_icmp_ge (tgt := 26) C.1.1 C.1.2.1 dX7_copies_5 (by decide) (fun h9 => ?_) (fun h9 => ?_)
      · replace hf := (if_pos h9).symm.trans hf
        cases hf
        cases hx
        exact K2_26 _ _ _ _ rfl hW (lv_sub hl [0] rfl)
      · replace hf := (if_neg h9).symm.trans hf
        refine lv_aload_n C.1.1 C.1.2.1 dX7_copies_8 rfl (lv_at hl 0 rfl) ?_
        have hk1 := sh7_48 hW hk_a0
        refine gf7_48 C hW hk_a0 w_1078 dX7_copies_9 ?_
        refine lv_iload_n C.1.1 C.1.2.1 dX7_copies_12 rfl (lv_at hl 1 rfl) ?_
        refine lv_aload_n C.1.1 C.1.2.1 dX7_copies_13 rfl (lv_at hl 0 rfl) ?_
        have hk2 := sh7_47 hW hk_a0
        refine gf7_47 C hW hk_a0 w_1077 dX7_copies_14 ?_
        refine lv_iload_n C.1.1 C.1.2.1 dX7_copies_17 rfl (lv_at hl 1 rfl) ?_
        obtain ⟨hv3, hf⟩ := gd hf
        refine wai C hW hk2 (vin_p hv3) dX7_copies_18 ?_
        refine wsi C hW hk1 (vin_p hv3) dX7_copies_19 (fun H locs hW => ?_)
        refine lv_iinc (v := _) (lv' := [(1, .int _), (0, .ref _)]) C.1.1 C.1.2.1 dX7_copies_20 hl (k := 1) rfl (ii (k := 1) (by decide)) (by decide) rfl (fun ls hl => ?_)
        refine lv_goto (tgt := 2) C.1.1 C.1.2.1 dX7_copies_23 (by decide) ?_
        cases hf
        exact ih _ _ _ _ _ _ hx hW (lv_sub hl [1, 0] rfl) K2_26
  refine lv_iconst (v := 0) C.1.1 C.1.2.1 dX7_copies_0 (by decide) ?_
  refine lv_istore_n (lv' := [(1, .int _), (0, .ref _)]) C.1.1 C.1.2.1 dX7_copies_1 rfl hl (by decide) rfl (fun ls hl => ?_)
  obtain ⟨o6, ho, hf⟩ := bd hf
  obtain ⟨n, ho⟩ := lp_it ho
  refine L2 n _ _ _ _ _ o6 ho hW (lv_sub hl [1, 0] rfl) ?_
  intro  σ7 H locs ls e9 hW hl
  subst e9
  try dsimp only at hf
  refine lv_aload_n C.1.1 C.1.2.1 dX7_copies_26 rfl (lv_at hl 0 rfl) ?_
  refine lv_aload_n C.1.1 C.1.2.1 dX7_copies_27 rfl (lv_at hl 0 rfl) ?_
  have hk8 := sh7_30 hW hk_a0
  refine gf7_30 C hW hk_a0 w_1060 dX7_copies_28 ?_
  refine lv_aload_n C.1.1 C.1.2.1 dX7_copies_31 rfl (lv_at hl 0 rfl) ?_
  refine gf7_18 C hW hk_a0 w_1048 dX7_copies_32 ?_
  obtain ⟨hv9, hf⟩ := gd hf
  refine wai C hW hk8 (vin_p hv9) dX7_copies_35 ?_
  refine pf7_49 C hW hk_a0 w_1079 dX7_copies_36 (fun H locs hW => ?_)
  refine lv_aload_n C.1.1 C.1.2.1 dX7_copies_39 rfl (lv_at hl 0 rfl) ?_
  refine lv_iconst (v := 0) C.1.1 C.1.2.1 dX7_copies_40 (by decide) ?_
  refine pf7_50 C hW hk_a0 w_1080 (Or.inl rfl) dX7_copies_41 (fun H locs hW => ?_)
  refine lv_aload_n C.1.1 C.1.2.1 dX7_copies_44 rfl (lv_at hl 0 rfl) ?_
  refine lv_iconst (v := (-1)) C.1.1 C.1.2.1 dX7_copies_45 (by decide) ?_
  refine pf7_51 C hW hk_a0 w_1081 dX7_copies_46 (fun H locs hW => ?_)
  exact rv hQ C hr hlk hW hf dX7_copies_49
