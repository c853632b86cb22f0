theorem kvX1_kindHere : KV 1 "RightKeys$Reader" yX1_kindHere cX1_kindHere 1 (some .int) 0 := ⟨⟨w_574, w_3, w_112, w_575⟩, ⟨rfl, by decide, by decide, by decide +kernel⟩, by decide, rfl⟩
noncomputable def fX1_kindHere (a0 : Nat) (σ : Sg) : Option (Int32 × Sg) := if (σ.1 (a0 + 1) 3) ≤ (σ.1 a0 1) then (some ((31 : Int32), σ)) else (if vin (σ.1 a0 1) 402 then (some ((σ.1 ((a0 + 1) + 1) (((σ.1 a0 1)).toNatClampNeg)), σ)) else none)
set_option maxRecDepth 100000 in
set_option maxHeartbeats 4000000 in
theorem mX1_kindHere {l : Launch} {G : Gm} {a0 : Nat} {σ : Sg} {r : Int32} {σ' : Sg} (hk_a0 : gK G a0 = 2) (hf : fX1_kindHere a0 σ = some (r, σ')) : Mi l G yX1_kindHere cX1_kindHere 1 .int 0 0 [.ref (gB G + a0)] σ r σ' := by
  refine of_W "RightKeys$Reader" rfl (by decide) (Nat.le_of_ble_eq_true rfl) ?_
  intro p e s m args below meth c Q hQ C hr hlk hW ls hl
  have h00 := hW.1
  have hl : lv_has ls 1 [(0, .ref (gB G + a0))] := hl
  delta fX1_kindHere at hf
  refine lv_aload_n C.1.1 C.1.2.1 dX1_kindHere_0 rfl (lv_at hl 0 rfl) ?_
  refine gf1_1 C hW hk_a0 w_269 dX1_kindHere_1 ?_
  refine lv_aload_n C.1.1 C.1.2.1 dX1_kindHere_4 rfl (lv_at hl 0 rfl) ?_
  have hk1 := sh1_0 hW hk_a0
  refine gf1_0 C hW hk_a0 w_268 dX1_kindHere_5 ?_
  refine gf4_3 C hW hk1 w_258 dX1_kindHere_8 ?_
  refine lv_icmp_ge (tgt := 29) C.1.1 C.1.2.1 dX1_kindHere_11 (by decide) (fun h9 => ?_) (fun h9 => ?_)
  · replace hf := (if_pos h9).symm.trans hf
    refine lv_bipush (v := 31) C.1.1 C.1.2.1 dX1_kindHere_29 (by decide) ?_
    exact ri hQ C hr hlk hW hf (rok_i _) dX1_kindHere_31
  · replace hf := (if_neg h9).symm.trans hf
    refine lv_aload_n C.1.1 C.1.2.1 dX1_kindHere_14 rfl (lv_at hl 0 rfl) ?_
    have hk2 := sh1_0 hW hk_a0
    refine gf1_0 C hW hk_a0 w_268 dX1_kindHere_15 ?_
    have hk3 := sh4_0 hW hk2
    refine gf4_0 C hW hk2 w_252 dX1_kindHere_18 ?_
    refine lv_aload_n C.1.1 C.1.2.1 dX1_kindHere_21 rfl (lv_at hl 0 rfl) ?_
    refine gf1_1 C hW hk_a0 w_269 dX1_kindHere_22 ?_
    obtain ⟨hv4, hf⟩ := gd hf
    refine wai C hW hk3 (vin_p hv4) dX1_kindHere_25 ?_
    refine lv_goto (tgt := 31) C.1.1 C.1.2.1 dX1_kindHere_26 (by decide) ?_
    exact ri hQ C hr hlk hW hf (rok_i _) dX1_kindHere_31
theorem kvX1_note : KV 1 "RightKeys$Reader" yX1_note cX1_note 2 none 1 := ⟨⟨w_602, w_9, w_112, w_603⟩, ⟨rfl, by decide, by decide, by decide +kernel⟩, by decide, rfl⟩
noncomputable def fX1_note (a0 : Nat) (p1 : Int32) (σ : Sg) : Option (Sg) := if (σ.1 a0 5) = 0 then ((let σ1 := wI σ a0 5 p1; if (σ1.1 (a0 + 1) 3) ≤ (σ1.1 a0 1) then ((let σ3 := wI σ1 a0 6 (-1 : Int32); some σ3)) else (if vin (σ1.1 a0 1) 402 then ((let σ7 := wI σ1 a0 6 (σ1.1 ((a0 + 1) + 2) (((σ1.1 a0 1)).toNatClampNeg)); some σ7)) else none))) else (some σ)
set_option maxRecDepth 100000 in
set_option maxHeartbeats 4000000 in
theorem mX1_note {l : Launch} {G : Gm} {a0 : Nat} {p1 : Int32} {σ : Sg} {σ' : Sg} (hk_a0 : gK G a0 = 2) (hf : fX1_note a0 p1 σ = some σ') : Mv l G yX1_note cX1_note 2 0 0 [.ref (gB G + a0), .int p1] σ σ' := by
  refine of_W "RightKeys$Reader" rfl (by decide) (Nat.le_of_ble_eq_true rfl) ?_
  intro p e s m args below meth c Q hQ C hr hlk hW ls hl
  have h00 := hW.1
  have hl : lv_has ls 2 [(0, .ref (gB G + a0)), (1, .int p1)] := hl
  delta fX1_note at hf
  refine lv_aload_n C.1.1 C.1.2.1 dX1_note_0 rfl (lv_at hl 0 rfl) ?_
  refine gf1_5 C hW hk_a0 w_274 dX1_note_1 ?_
  refine lv_if_ne (tgt := 46) C.1.1 C.1.2.1 dX1_note_4 (by decide) (fun h9 => ?_) (fun h9 => ?_)
  · replace hf := (if_neg h9).symm.trans hf
    exact rv hQ C hr hlk hW hf dX1_note_46
  · replace hf := (if_pos h9).symm.trans hf
    refine lv_aload_n C.1.1 C.1.2.1 dX1_note_7 rfl (lv_at hl 0 rfl) ?_
    refine lv_iload_n C.1.1 C.1.2.1 dX1_note_8 rfl (lv_at hl 1 rfl) ?_
    refine pf1_5 C hW hk_a0 w_274 dX1_note_9 (fun H locs hW => ?_)
    refine lv_aload_n C.1.1 C.1.2.1 dX1_note_12 rfl (lv_at hl 0 rfl) ?_
    refine lv_aload_n C.1.1 C.1.2.1 dX1_note_13 rfl (lv_at hl 0 rfl) ?_
    refine gf1_1 C hW hk_a0 w_269 dX1_note_14 ?_
    refine lv_aload_n C.1.1 C.1.2.1 dX1_note_17 rfl (lv_at hl 0 rfl) ?_
    have hk2 := sh1_0 hW hk_a0
    refine gf1_0 C hW hk_a0 w_268 dX1_note_18 ?_
    refine gf4_3 C hW hk2 w_258 dX1_note_21 ?_
    refine lv_icmp_ge (tgt := 42) C.1.1 C.1.2.1 dX1_note_24 (by decide) (fun h9 => ?_) (fun h9 => ?_)
    · replace hf := (if_pos h9).symm.trans hf
      refine lv_iconst (v := (-1)) C.1.1 C.1.2.1 dX1_note_42 (by decide) ?_
      refine pf1_6 C hW hk_a0 w_275 dX1_note_43 (fun H locs hW => ?_)
      exact rv hQ C hr hlk hW hf dX1_note_46
    · replace hf := (if_neg h9).symm.trans hf
      refine lv_aload_n C.1.1 C.1.2.1 dX1_note_27 rfl (lv_at hl 0 rfl) ?_
      have hk4 := sh1_0 hW hk_a0
      refine gf1_0 C hW hk_a0 w_268 dX1_note_28 ?_
      have hk5 := sh4_1 hW hk4
      refine gf4_1 C hW hk4 w_254 dX1_note_31 ?_
      refine lv_aload_n C.1.1 C.1.2.1 dX1_note_34 rfl (lv_at hl 0 rfl) ?_
      refine gf1_1 C hW hk_a0 w_269 dX1_note_35 ?_
      obtain ⟨hv6, hf⟩ := gd hf
      refine wai C hW hk5 (vin_p hv6) dX1_note_38 ?_
      refine lv_goto (tgt := 43) C.1.1 C.1.2.1 dX1_note_39 (by decide) ?_
      refine pf1_6 C hW hk_a0 w_275 dX1_note_43 (fun H locs hW => ?_)
      exact rv hQ C hr hlk hW hf dX1_note_46
theorem kvX1_valueHere : KV 1 "RightKeys$Reader" yX1_valueHere cX1_valueHere 1 (some .long) 0 := ⟨⟨w_594, w_8, w_112, w_595⟩, ⟨rfl, by decide, by decide, by decide +kernel⟩, by decide, rfl⟩
noncomputable def fX1_valueHere (a0 : Nat) (σ : Sg) : Option (Int64 × Sg) := if (σ.1 (a0 + 1) 3) ≤ (σ.1 a0 1) then (some ((0 : Int64), σ)) else (if vin (σ.1 a0 1) 402 then (some ((σ.2.1 ((a0 + 1) + 3) (((σ.1 a0 1)).toNatClampNeg)), σ)) else none)
set_option maxRecDepth 100000 in
set_option maxHeartbeats 4000000 in
theorem mX1_valueHere {l : Launch} {G : Gm} {a0 : Nat} {σ : Sg} {r : Int64} {σ' : Sg} (hk_a0 : gK G a0 = 2) (hf : fX1_valueHere a0 σ = some (r, σ')) : Ml l G yX1_valueHere cX1_valueHere 1 0 0 [.ref (gB G + a0)] σ r σ' := by
  refine of_W "RightKeys$Reader" rfl (by decide) (Nat.le_of_ble_eq_true rfl) ?_
  intro p e s m args below meth c Q hQ C hr hlk hW ls hl
  have h00 := hW.1
  have hl : lv_has ls 1 [(0, .ref (gB G + a0))] := hl
  delta fX1_valueHere at hf
  refine lv_aload_n C.1.1 C.1.2.1 dX1_valueHere_0 rfl (lv_at hl 0 rfl) ?_
  refine gf1_1 C hW hk_a0 w_269 dX1_valueHere_1 ?_
  refine lv_aload_n C.1.1 C.1.2.1 dX1_valueHere_4 rfl (lv_at hl 0 rfl) ?_
  have hk1 := sh1_0 hW hk_a0
  refine gf1_0 C hW hk_a0 w_268 dX1_valueHere_5 ?_
  refine gf4_3 C hW hk1 w_258 dX1_valueHere_8 ?_
  refine lv_icmp_ge (tgt := 29) C.1.1 C.1.2.1 dX1_valueHere_11 (by decide) (fun h9 => ?_) (fun h9 => ?_)
  · replace hf := (if_pos h9).symm.trans hf
    refine lv_lconst (v := 0) C.1.1 C.1.2.1 dX1_valueHere_29 (by decide) ?_
    exact rl hQ C hr hlk hW hf dX1_valueHere_30
  · replace hf := (if_neg h9).symm.trans hf
    refine lv_aload_n C.1.1 C.1.2.1 dX1_valueHere_14 rfl (lv_at hl 0 rfl) ?_
    have hk2 := sh1_0 hW hk_a0
    refine gf1_0 C hW hk_a0 w_268 dX1_valueHere_15 ?_
    have hk3 := sh4_2 hW hk2
    refine gf4_2 C hW hk2 w_256 dX1_valueHere_18 ?_
    refine lv_aload_n C.1.1 C.1.2.1 dX1_valueHere_21 rfl (lv_at hl 0 rfl) ?_
    refine gf1_1 C hW hk_a0 w_269 dX1_valueHere_22 ?_
    obtain ⟨hv4, hf⟩ := gd hf
    refine wal C hW hk3 (vin_p hv4) dX1_valueHere_25 ?_
    refine lv_goto (tgt := 30) C.1.1 C.1.2.1 dX1_valueHere_26 (by decide) ?_
    exact rl hQ C hr hlk hW hf dX1_valueHere_30
theorem kvX1_intHere : KV 1 "RightKeys$Reader" yX1_intHere cX1_intHere 2 (some .int) 1 := ⟨⟨w_606, w_10, w_112, w_607⟩, ⟨rfl, by decide, by decide, by decide +kernel⟩, by decide, rfl⟩
noncomputable def jX1_intHere_26 (a0 : Nat) (p1 : Int32) (σ : Sg) : Option (Int32 × Sg) := (fX1_valueHere a0 σ).bind (fun q15 => let r13 := q15.1; let σ12 := q15.2; some ((r13).toInt32, σ12))
noncomputable def fX1_intHere (a0 : Nat) (p1 : Int32) (σ : Sg) : Option (Int32 × Sg) := (fX1_kindHere a0 σ).bind (fun q5 => let r3 := q5.1; let σ2 := q5.2; if r3 = (21 : Int32) then ((fX1_valueHere a0 σ2).bind (fun q10 => let r8 := q10.1; let σ7 := q10.2; if (lg_cmp r8 ((p1).toInt64)) ≤ 0 then (jX1_intHere_26 a0 p1 σ7) else ((fX1_note a0 (5 : Int32) σ7).bind (fun σ17 => jX1_intHere_26 a0 p1 σ17)))) else (some ((0 : Int32), σ2)))
set_option maxRecDepth 100000 in
set_option maxHeartbeats 4000000 in
theorem mX1_intHere {l : Launch} {G : Gm} {a0 : Nat} {p1 : Int32} {σ : Sg} {r : Int32} {σ' : Sg} (hk_a0 : gK G a0 = 2) (hf : fX1_intHere a0 p1 σ = some (r, σ')) : Mi l G yX1_intHere cX1_intHere 2 .int 1 21 [.ref (gB G + a0), .int p1] σ r σ' := by
  refine of_W "RightKeys$Reader" rfl (by decide) (Nat.le_of_ble_eq_true rfl) ?_
  intro p e s m args below meth c Q hQ C hr hlk hW ls hl
  have h00 := hW.1
  have hl : lv_has ls 2 [(0, .ref (gB G + a0)), (1, .int p1)] := hl
  delta fX1_intHere at hf
  have J26 : ∀ (σ : Sg) (H : Heap) (locs : List Loc) (ls : Array Slot), jX1_intHere_26 a0 p1 σ = some (r, σ') → Ws G σ s.heap H locs → lv_has ls 2 [(0, .ref (gB G + a0))] → W p l e (rmOf 1 21) s m args below meth c H locs 0 0 Q (F0 m 26 ls []) := by
    intro σ H locs ls hf hW hl
    delta jX1_intHere_26 at hf
    refine lv_aload_n C.1.1 C.1.2.1 dX1_intHere_26 rfl (lv_at hl 0 rfl) ?_
    obtain ⟨⟨r13, σ12⟩, hc11, hf⟩ := bd hf
    try dsimp only at hf
    refine cVl C hW (mX1_valueHere hk_a0 hc11) hk_a0 kvX1_valueHere w_592 ⟨(Nat.le_of_ble_eq_true rfl), (Nat.le_of_ble_eq_true rfl)⟩ ⟨Nat.zero_le _, Nat.zero_le _⟩ rfl hl.1 (rest := []) rfl (Nat.le_of_ble_eq_true rfl) dX1_intHere_27 (fun H locs hW => ?_)
    refine lv_l2i (v := Int64.toInt32 _) C.1.1 C.1.2.1 dX1_intHere_30 rfl ?_
    exact ri hQ C hr hlk hW hf (rok_i _) dX1_intHere_31
  refine lv_aload_n C.1.1 C.1.2.1 dX1_intHere_0 rfl (lv_at hl 0 rfl) ?_
  obtain ⟨⟨r3, σ2⟩, hc1, hf⟩ := bd hf
  try dsimp only at hf
  refine cVi C hW (mX1_kindHere hk_a0 hc1) hk_a0 kvX1_kindHere w_572 ⟨(Nat.le_of_ble_eq_true rfl), (Nat.le_of_ble_eq_true rfl)⟩ ⟨Nat.zero_le _, Nat.zero_le _⟩ rfl hl.1 (rest := []) rfl (Nat.le_of_ble_eq_true rfl) dX1_intHere_1 (fun H locs hn4 hW => ?_)
  refine lv_bipush (v := 21) C.1.1 C.1.2.1 dX1_intHere_4 (by decide) ?_
  refine lv_icmp_eq (tgt := 11) C.1.1 C.1.2.1 dX1_intHere_6 (by decide) (fun h9 => ?_) (fun h9 => ?_)
  · replace hf := (if_pos h9).symm.trans hf
    refine lv_aload_n C.1.1 C.1.2.1 dX1_intHere_11 rfl (lv_at hl 0 rfl) ?_
    obtain ⟨⟨r8, σ7⟩, hc6, hf⟩ := bd hf
    try dsimp only at hf
    refine cVl C hW (mX1_valueHere hk_a0 hc6) hk_a0 kvX1_valueHere w_592 ⟨(Nat.le_of_ble_eq_true rfl), (Nat.le_of_ble_eq_true rfl)⟩ ⟨Nat.zero_le _, Nat.zero_le _⟩ rfl hl.1 (rest := []) rfl (Nat.le_of_ble_eq_true rfl) dX1_intHere_12 (fun H locs hW => ?_)
    refine lv_iload_n C.1.1 C.1.2.1 dX1_intHere_15 rfl (lv_at hl 1 rfl) ?_
    refine lv_i2l (v := Int32.toInt64 _) C.1.1 C.1.2.1 dX1_intHere_16 rfl ?_
    refine W.lcmp C.1.1 C.1.2.1 dX1_intHere_17 ?_
    refine lv_if_le (tgt := 26) C.1.1 C.1.2.1 dX1_intHere_18 (by decide) (fun h9 => ?_) (fun h9 => ?_)
    · replace hf := (if_pos h9).symm.trans hf
      exact J26 _ _ _ _ hf hW (lv_sub hl [0] rfl)
    · replace hf := (if_neg h9).symm.trans hf
      refine lv_aload_n C.1.1 C.1.2.1 dX1_intHere_21 rfl (lv_at hl 0 rfl) ?_
      refine lv_iconst (v := 5) C.1.1 C.1.2.1 dX1_intHere_22 (by decide) ?_
      obtain ⟨σ17, hc16, hf⟩ := bd hf
      try dsimp only at hf
      refine cVv C hW (mX1_note hk_a0 hc16) hk_a0 kvX1_note w_600 ⟨(Nat.le_of_ble_eq_true rfl), (Nat.le_of_ble_eq_true rfl)⟩ ⟨Nat.zero_le _, Nat.zero_le _⟩ rfl hl.1 (rest := []) rfl (Nat.le_of_ble_eq_true rfl) dX1_intHere_23 (fun H locs hW => ?_)
      exact J26 _ _ _ _ hf hW (lv_sub hl [0] rfl)
  · replace hf := (if_neg h9).symm.trans hf
    refine lv_iconst (v := 0) C.1.1 C.1.2.1 dX1_intHere_9 (by decide) ?_
    exact ri hQ C hr hlk hW hf (rok_i _) dX1_intHere_10
theorem kvX1_stop : KV 1 "RightKeys$Reader" yX1_stop cX1_stop 2 (some .boolean) 1 := ⟨⟨w_586, w_6, w_112, w_587⟩, ⟨rfl, by decide, by decide, by decide +kernel⟩, by decide, rfl⟩
noncomputable def fX1_stop (a0 : Nat) (p1 : Int32) (σ : Sg) : Option (Int32 × Sg) := (let σ1 := wI σ a0 3 p1; if (σ1.1 (a0 + 1) 3) ≤ (σ1.1 a0 1) then ((let σ3 := wI σ1 a0 4 (-1 : Int32); some ((0 : Int32), σ3))) else (if vin (σ1.1 a0 1) 402 then ((let σ7 := wI σ1 a0 4 (σ1.1 ((a0 + 1) + 2) (((σ1.1 a0 1)).toNatClampNeg)); some ((0 : Int32), σ7))) else none))
set_option maxRecDepth 100000 in
set_option maxHeartbeats 4000000 in
theorem mX1_stop {l : Launch} {G : Gm} {a0 : Nat} {p1 : Int32} {σ : Sg} {r : Int32} {σ' : Sg} (hk_a0 : gK G a0 = 2) (hf : fX1_stop a0 p1 σ = some (r, σ')) : Mi l G yX1_stop cX1_stop 2 .boolean 0 0 [.ref (gB G + a0), .int p1] σ r σ' := by
  refine of_W "RightKeys$Reader" rfl (by decide) (Nat.le_of_ble_eq_true rfl) ?_
  intro p e s m args below meth c Q hQ C hr hlk hW ls hl
  have h00 := hW.1
  have hl : lv_has ls 2 [(0, .ref (gB G + a0)), (1, .int p1)] := hl
  delta fX1_stop at hf
  refine lv_aload_n C.1.1 C.1.2.1 dX1_stop_0 rfl (lv_at hl 0 rfl) ?_
  refine lv_iload_n C.1.1 C.1.2.1 dX1_stop_1 rfl (lv_at hl 1 rfl) ?_
  refine pf1_3 C hW hk_a0 w_271 dX1_stop_2 (fun H locs hW => ?_)
  refine lv_aload_n C.1.1 C.1.2.1 dX1_stop_5 rfl (lv_at hl 0 rfl) ?_
  refine lv_aload_n C.1.1 C.1.2.1 dX1_stop_6 rfl (lv_at hl 0 rfl) ?_
  refine gf1_1 C hW hk_a0 w_269 dX1_stop_7 ?_
  refine lv_aload_n C.1.1 C.1.2.1 dX1_stop_10 rfl (lv_at hl 0 rfl) ?_
  have hk2 := sh1_0 hW hk_a0
  refine gf1_0 C hW hk_a0 w_268 dX1_stop_11 ?_
  refine gf4_3 C hW hk2 w_258 dX1_stop_14 ?_
  refine lv_icmp_ge (tgt := 35) C.1.1 C.1.2.1 dX1_stop_17 (by decide) (fun h9 => ?_) (fun h9 => ?_)
  · replace hf := (if_pos h9).symm.trans hf
    refine lv_iconst (v := (-1)) C.1.1 C.1.2.1 dX1_stop_35 (by decide) ?_
    refine pf1_4 C hW hk_a0 w_272 dX1_stop_36 (fun H locs hW => ?_)
    refine lv_iconst (v := 0) C.1.1 C.1.2.1 dX1_stop_39 (by decide) ?_
    exact ri hQ C hr hlk hW hf (rok_z (Or.inl rfl)) dX1_stop_40
  · replace hf := (if_neg h9).symm.trans hf
    refine lv_aload_n C.1.1 C.1.2.1 dX1_stop_20 rfl (lv_at hl 0 rfl) ?_
    have hk4 := sh1_0 hW hk_a0
    refine gf1_0 C hW hk_a0 w_268 dX1_stop_21 ?_
    have hk5 := sh4_1 hW hk4
    refine gf4_1 C hW hk4 w_254 dX1_stop_24 ?_
    refine lv_aload_n C.1.1 C.1.2.1 dX1_stop_27 rfl (lv_at hl 0 rfl) ?_
    refine gf1_1 C hW hk_a0 w_269 dX1_stop_28 ?_
    obtain ⟨hv6, hf⟩ := gd hf
    refine wai C hW hk5 (vin_p hv6) dX1_stop_31 ?_
    refine lv_goto (tgt := 36) C.1.1 C.1.2.1 dX1_stop_32 (by decide) ?_
    refine pf1_4 C hW hk_a0 w_272 dX1_stop_36 (fun H locs hW => ?_)
    refine lv_iconst (v := 0) C.1.1 C.1.2.1 dX1_stop_39 (by decide) ?_
    exact ri hQ C hr hlk hW hf (rok_z (Or.inl rfl)) dX1_stop_40
theorem kvX1_take : KV 1 "RightKeys$Reader" yX1_take cX1_take 2 (some .boolean) 1 := ⟨⟨w_590, w_7, w_112, w_591⟩, ⟨rfl, by decide, by decide, by decide +kernel⟩, by decide, rfl⟩
noncomputable def fX1_take (a0 : Nat) (p1 : Int32) (σ : Sg) : Option (Int32 × Sg) := (fX1_kindHere a0 σ).bind (fun q5 => let r3 := q5.1; let σ2 := q5.2; if r3 = p1 then (if (σ2.1 a0 1) < (400 : Int32) then ((let σ6 := wI σ2 a0 1 ((σ2.1 a0 1) + (1 : Int32)); some ((1 : Int32), σ6))) else ((fX1_stop a0 (2 : Int32) σ2).bind (fun q11 => let r9 := q11.1; let σ8 := q11.2; some (r9, σ8)))) else ((fX1_stop a0 (1 : Int32) σ2).bind (fun q16 => let r14 := q16.1; let σ13 := q16.2; some (r14, σ13))))
set_option maxRecDepth 100000 in
set_option maxHeartbeats 4000000 in
theorem mX1_take {l : Launch} {G : Gm} {a0 : Nat} {p1 : Int32} {σ : Sg} {r : Int32} {σ' : Sg} (hk_a0 : gK G a0 = 2) (hf : fX1_take a0 p1 σ = some (r, σ')) : Mi l G yX1_take cX1_take 2 .boolean 1 21 [.ref (gB G + a0), .int p1] σ r σ' := by
  refine of_W "RightKeys$Reader" rfl (by decide) (Nat.le_of_ble_eq_true rfl) ?_
  intro p e s m args below meth c Q hQ C hr hlk hW ls hl
  have h00 := hW.1
  have hl : lv_has ls 2 [(0, .ref (gB G + a0)), (1, .int p1)] := hl
  delta fX1_take at hf
  refine lv_aload_n C.1.1 C.1.2.1 dX1_take_0 rfl (lv_at hl 0 rfl) ?_
  obtain ⟨⟨r3, σ2⟩, hc1, hf⟩ := bd hf
  try dsimp only at hf
  refine cVi C hW (mX1_kindHere hk_a0 hc1) hk_a0 kvX1_kindHere w_572 ⟨(Nat.le_of_ble_eq_true rfl), (Nat.le_of_ble_eq_true rfl)⟩ ⟨Nat.zero_le _, Nat.zero_le _⟩ rfl hl.1 (rest := []) rfl (Nat.le_of_ble_eq_true rfl) dX1_take_1 (fun H locs hn4 hW => ?_)
  refine lv_iload_n C.1.1 C.1.2.1 dX1_take_4 rfl (lv_at hl 1 rfl) ?_
  refine lv_icmp_eq (tgt := 14) C.1.1 C.1.2.1 dX1_take_5 (by decide) (fun h9 => ?_) (fun h9 => ?_)
  · replace hf := (if_pos h9).symm.trans hf
    refine lv_aload_n C.1.1 C.1.2.1 dX1_take_14 rfl (lv_at hl 0 rfl) ?_
    refine gf1_1 C hW hk_a0 w_269 dX1_take_15 ?_
    refine lv_sipush (v := 400) C.1.1 C.1.2.1 dX1_take_18 (by decide) ?_
    refine lv_icmp_lt (tgt := 30) C.1.1 C.1.2.1 dX1_take_21 (by decide) (fun h9 => ?_) (fun h9 => ?_)
    · replace hf := (if_pos h9).symm.trans hf
      refine lv_aload_n C.1.1 C.1.2.1 dX1_take_30 rfl (lv_at hl 0 rfl) ?_
      refine lv_dup C.1.1 C.1.2.1 dX1_take_31 rfl ?_
      refine gf1_1 C hW hk_a0 w_269 dX1_take_32 ?_
      refine lv_iconst (v := 1) C.1.1 C.1.2.1 dX1_take_35 (by decide) ?_
      refine lv_iadd C.1.1 C.1.2.1 dX1_take_36 ?_
      refine pf1_1 C hW hk_a0 w_269 dX1_take_37 (fun H locs hW => ?_)
      refine lv_iconst (v := 1) C.1.1 C.1.2.1 dX1_take_40 (by decide) ?_
      exact ri hQ C hr hlk hW hf (rok_z (Or.inr rfl)) dX1_take_41
    · replace hf := (if_neg h9).symm.trans hf
      refine lv_aload_n C.1.1 C.1.2.1 dX1_take_24 rfl (lv_at hl 0 rfl) ?_
      refine lv_iconst (v := 2) C.1.1 C.1.2.1 dX1_take_25 (by decide) ?_
      obtain ⟨⟨r9, σ8⟩, hc7, hf⟩ := bd hf
      try dsimp only at hf
      refine cVi C hW (mX1_stop hk_a0 hc7) hk_a0 kvX1_stop w_584 ⟨(Nat.le_of_ble_eq_true rfl), (Nat.le_of_ble_eq_true rfl)⟩ ⟨Nat.zero_le _, Nat.zero_le _⟩ rfl hl.1 (rest := []) rfl (Nat.le_of_ble_eq_true rfl) dX1_take_26 (fun H locs hn10 hW => ?_)
      exact ri hQ C hr hlk hW hf (rok_z (hn10.2 rfl)) dX1_take_29
  · replace hf := (if_neg h9).symm.trans hf
    refine lv_aload_n C.1.1 C.1.2.1 dX1_take_8 rfl (lv_at hl 0 rfl) ?_
    refine lv_iconst (v := 1) C.1.1 C.1.2.1 dX1_take_9 (by decide) ?_
    obtain ⟨⟨r14, σ13⟩, hc12, hf⟩ := bd hf
    try dsimp only at hf
    refine cVi C hW (mX1_stop hk_a0 hc12) hk_a0 kvX1_stop w_584 ⟨(Nat.le_of_ble_eq_true rfl), (Nat.le_of_ble_eq_true rfl)⟩ ⟨Nat.zero_le _, Nat.zero_le _⟩ rfl hl.1 (rest := []) rfl (Nat.le_of_ble_eq_true rfl) dX1_take_10 (fun H locs hn15 hW => ?_)
    exact ri hQ C hr hlk hW hf (rok_z (hn15.2 rfl)) dX1_take_13
theorem kvX1_readHouse : KV 1 "RightKeys$Reader" yX1_readHouse cX1_readHouse 2 (some .boolean) 0 := ⟨⟨w_582, w_5, w_112, w_583⟩, ⟨rfl, by decide, by decide, by decide +kernel⟩, by decide, rfl⟩
noncomputable def jX1_readHouse_78 (a0 : Nat) (x1 : Int32) (σ : Sg) : Option (Int32 × Sg) := (fX1_take a0 (20 : Int32) σ).bind (fun q27 => let r25 := q27.1; let σ24 := q27.2; if r25 = 0 then (some ((0 : Int32), σ24)) else ((fX1_intHere a0 (23 : Int32) σ24).bind (fun q34 => let r32 := q34.1; let σ31 := q34.2; if vin x1 8 then (let σ36 := wI σ31 ((σ24.2.2.1 a0 2) + 2) ((x1).toNatClampNeg) r32; (fX1_take a0 (21 : Int32) σ36).bind (fun q41 => let r39 := q41.1; let σ38 := q41.2; if r39 = 0 then (some ((0 : Int32), σ38)) else ((fX1_intHere a0 (23 : Int32) σ38).bind (fun q48 => let r46 := q48.1; let σ45 := q48.2; (let σ49 := wI σ45 ((σ38.2.2.1 a0 2) + 3) ((x1).toNatClampNeg) r46; (fX1_take a0 (21 : Int32) σ49).bind (fun q54 => let r52 := q54.1; let σ51 := q54.2; if r52 = 0 then (some ((0 : Int32), σ51)) else ((fX1_intHere a0 (9 : Int32) σ51).bind (fun q61 => let r59 := q61.1; let σ58 := q61.2; (let σ62 := wI σ58 ((σ51.2.2.1 a0 2) + 4) ((x1).toNatClampNeg) r59; let σ64 := wI σ62 (σ62.2.2.1 a0 2) 0 ((σ62.1 (σ62.2.2.1 a0 2) 0) + (1 : Int32)); (fX1_take a0 (21 : Int32) σ64).bind (fun q69 => let r67 := q69.1; let σ66 := q69.2; if r67 = 0 then (some ((0 : Int32), σ66)) else ((fX1_take a0 (22 : Int32) σ66).bind (fun q74 => let r72 := q74.1; let σ71 := q74.2; if r72 = 0 then (some ((0 : Int32), σ71)) else (some ((1 : Int32), σ71)))))))))))))) else none)))
noncomputable def fX1_readHouse (a0 : Nat) (σ : Sg) : Option (Int32 × Sg) := if (σ.1 (σ.2.2.1 a0 2) 0) < (8 : Int32) then ((let x1_3 := (σ.1 (σ.2.2.1 a0 2) 0); (fX1_take a0 (0 : Int32) σ).bind (fun q8 => let r6 := q8.1; let σ5 := q8.2; if r6 = 0 then (some ((0 : Int32), σ5)) else ((fX1_valueHere a0 σ5).bind (fun q15 => let r13 := q15.1; let σ12 := q15.2; if vin x1_3 8 then (let σ17 := wJ σ12 ((σ5.2.2.1 a0 2) + 1) ((x1_3).toNatClampNeg) r13; (fX1_kindHere a0 σ17).bind (fun q22 => let r20 := q22.1; let σ19 := q22.2; if r20 = (20 : Int32) then ((fX1_valueHere a0 σ19).bind (fun q80 => let r78 := q80.1; let σ77 := q80.2; (fX3_houseNamed (σ19.2.2.1 a0 2) r78 σ77).bind (fun q85 => let r83 := q85.1; let σ82 := q85.2; if r83 = (-1 : Int32) then (jX1_readHouse_78 a0 x1_3 σ82) else ((fX1_note a0 (3 : Int32) σ82).bind (fun σ87 => jX1_readHouse_78 a0 x1_3 σ87))))) else (jX1_readHouse_78 a0 x1_3 σ19))) else none))))) else ((fX1_stop a0 (2 : Int32) σ).bind (fun q95 => let r93 := q95.1; let σ92 := q95.2; some (r93, σ92)))
set_option maxRecDepth 100000 in
set_option maxHeartbeats 4000000 in
theorem mX1_readHouse {l : Launch} {G : Gm} {a0 : Nat} {σ : Sg} {r : Int32} {σ' : Sg} (hk_a0 : gK G a0 = 2) (hf : fX1_readHouse a0 σ = some (r, σ')) : Mi l G yX1_readHouse cX1_readHouse 2 .boolean 2 42 [.ref (gB G + a0)] σ r σ' := by
  refine of_W "RightKeys$Reader" rfl (by decide) (Nat.le_of_ble_eq_true rfl) ?_
  intro p e s m args below meth c Q hQ C hr hlk hW ls hl
  have h00 := hW.1
  have hl : lv_has ls 2 [(0, .ref (gB G + a0))] := hl
  delta fX1_readHouse at hf
  have J78 : ∀ (x1 : Int32) (σ : Sg) (H : Heap) (locs : List Loc) (ls : Array Slot), jX1_readHouse_78 a0 x1 σ = some (r, σ') → Ws G σ s.heap H locs → lv_has ls 2 [(0, .ref (gB G + a0)), (1, .int x1)] → W p l e (rmOf 2 42) s m args below meth c H locs 0 0 Q (F0 m 78 ls []) := by
    intro x1 σ H locs ls hf hW hl
    delta jX1_readHouse_78 at hf
    refine lv_aload_n C.1.1 C.1.2.1 dX1_readHouse_78 rfl (lv_at hl 0 rfl) ?_
    refine lv_bipush (v := 20) C.1.1 C.1.2.1 dX1_readHouse_79 (by decide) ?_
    obtain ⟨⟨r25, σ24⟩, hc23, hf⟩ := bd hf
    try dsimp only at hf
    refine cVi C hW (mX1_take hk_a0 hc23) hk_a0 kvX1_take w_588 ⟨(Nat.le_of_ble_eq_true rfl), (Nat.le_of_ble_eq_true rfl)⟩ ⟨Nat.zero_le _, Nat.zero_le _⟩ rfl hl.1 (rest := []) rfl (Nat.le_of_ble_eq_true rfl) dX1_readHouse_81 (fun H locs hn26 hW => ?_)
    refine lv_if_ne (tgt := 89) C.1.1 C.1.2.1 dX1_readHouse_84 (by decide) (fun h9 => ?_) (fun h9 => ?_)
    · replace hf := (if_neg h9).symm.trans hf
      refine lv_aload_n C.1.1 C.1.2.1 dX1_readHouse_89 rfl (lv_at hl 0 rfl) ?_
      have hk28 := sh1_2 hW hk_a0
      refine gf1_2 C hW hk_a0 w_270 dX1_readHouse_90 ?_
      have hk29 := sh3_5 hW hk28
      refine gf3_5 C hW hk28 w_199 dX1_readHouse_93 ?_
      refine lv_iload_n C.1.1 C.1.2.1 dX1_readHouse_96 rfl (lv_at hl 1 rfl) ?_
      refine lv_aload_n C.1.1 C.1.2.1 dX1_readHouse_97 rfl (lv_at hl 0 rfl) ?_
      refine lv_bipush (v := 23) C.1.1 C.1.2.1 dX1_readHouse_98 (by decide) ?_
      obtain ⟨⟨r32, σ31⟩, hc30, hf⟩ := bd hf
      try dsimp only at hf
      refine cVi C hW (mX1_intHere hk_a0 hc30) hk_a0 kvX1_intHere w_604 ⟨(Nat.le_of_ble_eq_true rfl), (Nat.le_of_ble_eq_true rfl)⟩ ⟨Nat.zero_le _, Nat.zero_le _⟩ rfl hl.1 (rest := [.int _, .ref _]) rfl (Nat.le_of_ble_eq_true rfl) dX1_readHouse_100 (fun H locs hn33 hW => ?_)
      obtain ⟨hv35, hf⟩ := gd hf
      refine wsi C hW hk29 (vin_p hv35) dX1_readHouse_103 (fun H locs hW => ?_)
      refine lv_aload_n C.1.1 C.1.2.1 dX1_readHouse_104 rfl (lv_at hl 0 rfl) ?_
      refine lv_bipush (v := 21) C.1.1 C.1.2.1 dX1_readHouse_105 (by decide) ?_
      obtain ⟨⟨r39, σ38⟩, hc37, hf⟩ := bd hf
      try dsimp only at hf
      refine cVi C hW (mX1_take hk_a0 hc37) hk_a0 kvX1_take w_588 ⟨(Nat.le_of_ble_eq_true rfl), (Nat.le_of_ble_eq_true rfl)⟩ ⟨Nat.zero_le _, Nat.zero_le _⟩ rfl hl.1 (rest := []) rfl (Nat.le_of_ble_eq_true rfl) dX1_readHouse_107 (fun H locs hn40 hW => ?_)
      refine lv_if_ne (tgt := 115) C.1.1 C.1.2.1 dX1_readHouse_110 (by decide) (fun h9 => ?_) (fun h9 => ?_)
      · replace hf := (if_neg h9).symm.trans hf
        refine lv_aload_n C.1.1 C.1.2.1 dX1_readHouse_115 rfl (lv_at hl 0 rfl) ?_
        have hk42 := sh1_2 hW hk_a0
        refine gf1_2 C hW hk_a0 w_270 dX1_readHouse_116 ?_
        have hk43 := sh3_6 hW hk42
        refine gf3_6 C hW hk42 w_202 dX1_readHouse_119 ?_
        refine lv_iload_n C.1.1 C.1.2.1 dX1_readHouse_122 rfl (lv_at hl 1 rfl) ?_
        refine lv_aload_n C.1.1 C.1.2.1 dX1_readHouse_123 rfl (lv_at hl 0 rfl) ?_
        refine lv_bipush (v := 23) C.1.1 C.1.2.1 dX1_readHouse_124 (by decide) ?_
        obtain ⟨⟨r46, σ45⟩, hc44, hf⟩ := bd hf
        try dsimp only at hf
        refine cVi C hW (mX1_intHere hk_a0 hc44) hk_a0 kvX1_intHere w_604 ⟨(Nat.le_of_ble_eq_true rfl), (Nat.le_of_ble_eq_true rfl)⟩ ⟨Nat.zero_le _, Nat.zero_le _⟩ rfl hl.1 (rest := [.int _, .ref _]) rfl (Nat.le_of_ble_eq_true rfl) dX1_readHouse_126 (fun H locs hn47 hW => ?_)
        refine wsi C hW hk43 (vin_p hv35) dX1_readHouse_129 (fun H locs hW => ?_)
        refine lv_aload_n C.1.1 C.1.2.1 dX1_readHouse_130 rfl (lv_at hl 0 rfl) ?_
        refine lv_bipush (v := 21) C.1.1 C.1.2.1 dX1_readHouse_131 (by decide) ?_
        obtain ⟨⟨r52, σ51⟩, hc50, hf⟩ := bd hf
        try dsimp only at hf
        refine cVi C hW (mX1_take hk_a0 hc50) hk_a0 kvX1_take w_588 ⟨(Nat.le_of_ble_eq_true rfl), (Nat.le_of_ble_eq_true rfl)⟩ ⟨Nat.zero_le _, Nat.zero_le _⟩ rfl hl.1 (rest := []) rfl (Nat.le_of_ble_eq_true rfl) dX1_readHouse_133 (fun H locs hn53 hW => ?_)
        refine lv_if_ne (tgt := 141) C.1.1 C.1.2.1 dX1_readHouse_136 (by decide) (fun h9 => ?_) (fun h9 => ?_)
        · replace hf := (if_neg h9).symm.trans hf
          refine lv_aload_n C.1.1 C.1.2.1 dX1_readHouse_141 rfl (lv_at hl 0 rfl) ?_
          have hk55 := sh1_2 hW hk_a0
          refine gf1_2 C hW hk_a0 w_270 dX1_readHouse_142 ?_
          have hk56 := sh3_7 hW hk55
          refine gf3_7 C hW hk55 w_205 dX1_readHouse_145 ?_
          refine lv_iload_n C.1.1 C.1.2.1 dX1_readHouse_148 rfl (lv_at hl 1 rfl) ?_
          refine lv_aload_n C.1.1 C.1.2.1 dX1_readHouse_149 rfl (lv_at hl 0 rfl) ?_
          refine lv_bipush (v := 9) C.1.1 C.1.2.1 dX1_readHouse_150 (by decide) ?_
          obtain ⟨⟨r59, σ58⟩, hc57, hf⟩ := bd hf
          try dsimp only at hf
          refine cVi C hW (mX1_intHere hk_a0 hc57) hk_a0 kvX1_intHere w_604 ⟨(Nat.le_of_ble_eq_true rfl), (Nat.le_of_ble_eq_true rfl)⟩ ⟨Nat.zero_le _, Nat.zero_le _⟩ rfl hl.1 (rest := [.int _, .ref _]) rfl (Nat.le_of_ble_eq_true rfl) dX1_readHouse_152 (fun H locs hn60 hW => ?_)
          refine wsi C hW hk56 (vin_p hv35) dX1_readHouse_155 (fun H locs hW => ?_)
          refine lv_aload_n C.1.1 C.1.2.1 dX1_readHouse_156 rfl (lv_at hl 0 rfl) ?_
          have hk63 := sh1_2 hW hk_a0
          refine gf1_2 C hW hk_a0 w_270 dX1_readHouse_157 ?_
          refine lv_dup C.1.1 C.1.2.1 dX1_readHouse_160 rfl ?_
          refine gf3_0 C hW hk63 w_181 dX1_readHouse_161 ?_
          refine lv_iconst (v := 1) C.1.1 C.1.2.1 dX1_readHouse_164 (by decide) ?_
          refine lv_iadd C.1.1 C.1.2.1 dX1_readHouse_165 ?_
          refine pf3_0 C hW hk63 w_181 dX1_readHouse_166 (fun H locs hW => ?_)
          refine lv_aload_n C.1.1 C.1.2.1 dX1_readHouse_169 rfl (lv_at hl 0 rfl) ?_
          refine lv_bipush (v := 21) C.1.1 C.1.2.1 dX1_readHouse_170 (by decide) ?_
          obtain ⟨⟨r67, σ66⟩, hc65, hf⟩ := bd hf
          try dsimp only at hf
          refine cVi C hW (mX1_take hk_a0 hc65) hk_a0 kvX1_take w_588 ⟨(Nat.le_of_ble_eq_true rfl), (Nat.le_of_ble_eq_true rfl)⟩ ⟨Nat.zero_le _, Nat.zero_le _⟩ rfl hl.1 (rest := []) rfl (Nat.le_of_ble_eq_true rfl) dX1_readHouse_172 (fun H locs hn68 hW => ?_)
          refine lv_if_eq (tgt := 191) C.1.1 C.1.2.1 dX1_readHouse_175 (by decide) (fun h9 => ?_) (fun h9 => ?_)
          · replace hf := (if_pos h9).symm.trans hf
            refine lv_iconst (v := 0) C.1.1 C.1.2.1 dX1_readHouse_191 (by decide) ?_
            exact ri hQ C hr hlk hW hf (rok_z (Or.inl rfl)) dX1_readHouse_192
          · replace hf := (if_neg h9).symm.trans hf
            refine lv_aload_n C.1.1 C.1.2.1 dX1_readHouse_178 rfl (lv_at hl 0 rfl) ?_
            refine lv_bipush (v := 22) C.1.1 C.1.2.1 dX1_readHouse_179 (by decide) ?_
            obtain ⟨⟨r72, σ71⟩, hc70, hf⟩ := bd hf
            try dsimp only at hf
            refine cVi C hW (mX1_take hk_a0 hc70) hk_a0 kvX1_take w_588 ⟨(Nat.le_of_ble_eq_true rfl), (Nat.le_of_ble_eq_true rfl)⟩ ⟨Nat.zero_le _, Nat.zero_le _⟩ rfl hl.1 (rest := []) rfl (Nat.le_of_ble_eq_true rfl) dX1_readHouse_181 (fun H locs hn73 hW => ?_)
            refine lv_if_eq (tgt := 191) C.1.1 C.1.2.1 dX1_readHouse_184 (by decide) (fun h9 => ?_) (fun h9 => ?_)
            · replace hf := (if_pos h9).symm.trans hf
              refine lv_iconst (v := 0) C.1.1 C.1.2.1 dX1_readHouse_191 (by decide) ?_
              exact ri hQ C hr hlk hW hf (rok_z (Or.inl rfl)) dX1_readHouse_192
            · replace hf := (if_neg h9).symm.trans hf
              refine lv_iconst (v := 1) C.1.1 C.1.2.1 dX1_readHouse_187 (by decide) ?_
              refine lv_goto (tgt := 192) C.1.1 C.1.2.1 dX1_readHouse_188 (by decide) ?_
              exact ri hQ C hr hlk hW hf (rok_z (Or.inr rfl)) dX1_readHouse_192
        · replace hf := (if_pos h9).symm.trans hf
          refine lv_iconst (v := 0) C.1.1 C.1.2.1 dX1_readHouse_139 (by decide) ?_
          exact ri hQ C hr hlk hW hf (rok_z (Or.inl rfl)) dX1_readHouse_140
      · replace hf := (if_pos h9).symm.trans hf
        refine lv_iconst (v := 0) C.1.1 C.1.2.1 dX1_readHouse_113 (by decide) ?_
        exact ri hQ C hr hlk hW hf (rok_z (Or.inl rfl)) dX1_readHouse_114
    · replace hf := (if_pos h9).symm.trans hf
      refine lv_iconst (v := 0) C.1.1 C.1.2.1 dX1_readHouse_87 (by decide) ?_
      exact ri hQ C hr hlk hW hf (rok_z (Or.inl rfl)) dX1_readHouse_88
  refine lv_aload_n C.1.1 C.1.2.1 dX1_readHouse_0 rfl (lv_at hl 0 rfl) ?_
  have hk1 := sh1_2 hW hk_a0
  refine gf1_2 C hW hk_a0 w_270 dX1_readHouse_1 ?_
  refine gf3_0 C hW hk1 w_181 dX1_readHouse_4 ?_
  refine lv_bipush (v := 8) C.1.1 C.1.2.1 dX1_readHouse_7 (by decide) ?_
  refine lv_icmp_lt (tgt := 18) C.1.1 C.1.2.1 dX1_readHouse_9 (by decide) (fun h9 => ?_) (fun h9 => ?_)
  · replace hf := (if_pos h9).symm.trans hf
    refine lv_aload_n C.1.1 C.1.2.1 dX1_readHouse_18 rfl (lv_at hl 0 rfl) ?_
    have hk2 := sh1_2 hW hk_a0
    refine gf1_2 C hW hk_a0 w_270 dX1_readHouse_19 ?_
    refine gf3_0 C hW hk2 w_181 dX1_readHouse_22 ?_
    refine lv_istore_n (lv' := [(1, .int _), (0, .ref _)]) C.1.1 C.1.2.1 dX1_readHouse_25 rfl hl (by decide) rfl (fun ls hl => ?_)
    refine lv_aload_n C.1.1 C.1.2.1 dX1_readHouse_26 rfl (lv_at hl 1 rfl) ?_
    refine lv_iconst (v := 0) C.1.1 C.1.2.1 dX1_readHouse_27 (by decide) ?_
    obtain ⟨⟨r6, σ5⟩, hc4, hf⟩ := bd hf
    try dsimp only at hf
    refine cVi C hW (mX1_take hk_a0 hc4) hk_a0 kvX1_take w_588 ⟨(Nat.le_of_ble_eq_true rfl), (Nat.le_of_ble_eq_true rfl)⟩ ⟨Nat.zero_le _, Nat.zero_le _⟩ rfl hl.1 (rest := []) rfl (Nat.le_of_ble_eq_true rfl) dX1_readHouse_28 (fun H locs hn7 hW => ?_)
    refine lv_if_ne (tgt := 36) C.1.1 C.1.2.1 dX1_readHouse_31 (by decide) (fun h9 => ?_) (fun h9 => ?_)
    · replace hf := (if_neg h9).symm.trans hf
      refine lv_aload_n C.1.1 C.1.2.1 dX1_readHouse_36 rfl (lv_at hl 1 rfl) ?_
      have hk9 := sh1_2 hW hk_a0
      refine gf1_2 C hW hk_a0 w_270 dX1_readHouse_37 ?_
      have hk10 := sh3_4 hW hk9
      refine gf3_4 C hW hk9 w_196 dX1_readHouse_40 ?_
      refine lv_iload_n C.1.1 C.1.2.1 dX1_readHouse_43 rfl (lv_at hl 0 rfl) ?_
      refine lv_aload_n C.1.1 C.1.2.1 dX1_readHouse_44 rfl (lv_at hl 1 rfl) ?_
      obtain ⟨⟨r13, σ12⟩, hc11, hf⟩ := bd hf
      try dsimp only at hf
      refine cVl C hW (mX1_valueHere hk_a0 hc11) hk_a0 kvX1_valueHere w_592 ⟨(Nat.le_of_ble_eq_true rfl), (Nat.le_of_ble_eq_true rfl)⟩ ⟨Nat.zero_le _, Nat.zero_le _⟩ rfl hl.1 (rest := [.int _, .ref _]) rfl (Nat.le_of_ble_eq_true rfl) dX1_readHouse_45 (fun H locs hW => ?_)
      obtain ⟨hv16, hf⟩ := gd hf
      refine wsl C hW hk10 (vin_p hv16) dX1_readHouse_48 (fun H locs hW => ?_)
      refine lv_aload_n C.1.1 C.1.2.1 dX1_readHouse_49 rfl (lv_at hl 1 rfl) ?_
      obtain ⟨⟨r20, σ19⟩, hc18, hf⟩ := bd hf
      try dsimp only at hf
      refine cVi C hW (mX1_kindHere hk_a0 hc18) hk_a0 kvX1_kindHere w_572 ⟨(Nat.le_of_ble_eq_true rfl), (Nat.le_of_ble_eq_true rfl)⟩ ⟨Nat.zero_le _, Nat.zero_le _⟩ rfl hl.1 (rest := []) rfl (Nat.le_of_ble_eq_true rfl) dX1_readHouse_50 (fun H locs hn21 hW => ?_)
      refine lv_bipush (v := 20) C.1.1 C.1.2.1 dX1_readHouse_53 (by decide) ?_
      refine lv_icmp_ne (tgt := 78) C.1.1 C.1.2.1 dX1_readHouse_55 (by decide) (fun h9 => ?_) (fun h9 => ?_)
      · replace hf := (if_neg h9).symm.trans hf
        exact J78 _ _ _ _ _ hf hW (lv_sub hl [1, 0] rfl)
      · replace hf := (if_pos h9).symm.trans hf
        refine lv_aload_n C.1.1 C.1.2.1 dX1_readHouse_58 rfl (lv_at hl 1 rfl) ?_
        have hk75 := sh1_2 hW hk_a0
        refine gf1_2 C hW hk_a0 w_270 dX1_readHouse_59 ?_
        refine lv_aload_n C.1.1 C.1.2.1 dX1_readHouse_62 rfl (lv_at hl 1 rfl) ?_
        obtain ⟨⟨r78, σ77⟩, hc76, hf⟩ := bd hf
        try dsimp only at hf
        refine cVl C hW (mX1_valueHere hk_a0 hc76) hk_a0 kvX1_valueHere w_592 ⟨(Nat.le_of_ble_eq_true rfl), (Nat.le_of_ble_eq_true rfl)⟩ ⟨Nat.zero_le _, Nat.zero_le _⟩ rfl hl.1 (rest := [.ref _]) rfl (Nat.le_of_ble_eq_true rfl) dX1_readHouse_63 (fun H locs hW => ?_)
        obtain ⟨⟨r83, σ82⟩, hc81, hf⟩ := bd hf
        try dsimp only at hf
        refine cVi C hW (mX3_houseNamed hk75 hc81) hk75 kvX3_houseNamed w_596 ⟨(Nat.le_of_ble_eq_true rfl), (Nat.le_of_ble_eq_true rfl)⟩ ⟨Nat.zero_le _, Nat.zero_le _⟩ rfl hl.1 (rest := []) rfl (Nat.le_of_ble_eq_true rfl) dX1_readHouse_66 (fun H locs hn84 hW => ?_)
        refine lv_iconst (v := (-1)) C.1.1 C.1.2.1 dX1_readHouse_69 (by decide) ?_
        refine lv_icmp_eq (tgt := 78) C.1.1 C.1.2.1 dX1_readHouse_70 (by decide) (fun h9 => ?_) (fun h9 => ?_)
        · replace hf := (if_pos h9).symm.trans hf
          exact J78 _ _ _ _ _ hf hW (lv_sub hl [1, 0] rfl)
        · replace hf := (if_neg h9).symm.trans hf
          refine lv_aload_n C.1.1 C.1.2.1 dX1_readHouse_73 rfl (lv_at hl 1 rfl) ?_
          refine lv_iconst (v := 3) C.1.1 C.1.2.1 dX1_readHouse_74 (by decide) ?_
          obtain ⟨σ87, hc86, hf⟩ := bd hf
          try dsimp only at hf
          refine cVv C hW (mX1_note hk_a0 hc86) hk_a0 kvX1_note w_600 ⟨(Nat.le_of_ble_eq_true rfl), (Nat.le_of_ble_eq_true rfl)⟩ ⟨Nat.zero_le _, Nat.zero_le _⟩ rfl hl.1 (rest := []) rfl (Nat.le_of_ble_eq_true rfl) dX1_readHouse_75 (fun H locs hW => ?_)
          exact J78 _ _ _ _ _ hf hW (lv_sub hl [1, 0] rfl)
    · replace hf := (if_pos h9).symm.trans hf
      refine lv_iconst (v := 0) C.1.1 C.1.2.1 dX1_readHouse_34 (by decide) ?_
      exact ri hQ C hr hlk hW hf (rok_z (Or.inl rfl)) dX1_readHouse_35
  · replace hf := (if_neg h9).symm.trans hf
    refine lv_aload_n C.1.1 C.1.2.1 dX1_readHouse_12 rfl (lv_at hl 0 rfl) ?_
    refine lv_iconst (v := 2) C.1.1 C.1.2.1 dX1_readHouse_13 (by decide) ?_
    obtain ⟨⟨r93, σ92⟩, hc91, hf⟩ := bd hf
    try dsimp only at hf
    refine cVi C hW (mX1_stop hk_a0 hc91) hk_a0 kvX1_stop w_584 ⟨(Nat.le_of_ble_eq_true rfl), (Nat.le_of_ble_eq_true rfl)⟩ ⟨Nat.zero_le _, Nat.zero_le _⟩ rfl hl.1 (rest := []) rfl (Nat.le_of_ble_eq_true rfl) dX1_readHouse_14 (fun H locs hn94 hW => ?_)
    exact ri hQ C hr hlk hW hf (rok_z (hn94.2 rfl)) dX1_readHouse_17
theorem kvX1_houseHere : KV 1 "RightKeys$Reader" yX1_houseHere cX1_houseHere 2 (some .int) 0 := ⟨⟨w_614, w_12, w_112, w_615⟩, ⟨rfl, by decide, by decide, by decide +kernel⟩, by decide, rfl⟩
noncomputable def fX1_houseHere (a0 : Nat) (σ : Sg) : Option (Int32 × Sg) := (fX1_kindHere a0 σ).bind (fun q5 => let r3 := q5.1; let σ2 := q5.2; if r3 = (20 : Int32) then ((fX1_valueHere a0 σ2).bind (fun q11 => let r9 := q11.1; let σ8 := q11.2; (fX3_houseNamed (σ2.2.2.1 a0 2) r9 σ8).bind (fun q16 => let r14 := q16.1; let σ13 := q16.2; if r14 = (-1 : Int32) then ((fX1_note a0 (4 : Int32) σ13).bind (fun σ18 => some (r14, σ18))) else (some (r14, σ13))))) else (some ((-1 : Int32), σ2)))
set_option maxRecDepth 100000 in
set_option maxHeartbeats 4000000 in
theorem mX1_houseHere {l : Launch} {G : Gm} {a0 : Nat} {σ : Sg} {r : Int32} {σ' : Sg} (hk_a0 : gK G a0 = 2) (hf : fX1_houseHere a0 σ = some (r, σ')) : Mi l G yX1_houseHere cX1_houseHere 2 .int 1 23 [.ref (gB G + a0)] σ r σ' := by
  refine of_W "RightKeys$Reader" rfl (by decide) (Nat.le_of_ble_eq_true rfl) ?_
  intro p e s m args below meth c Q hQ C hr hlk hW ls hl
  have h00 := hW.1
  have hl : lv_has ls 2 [(0, .ref (gB G + a0))] := hl
  delta fX1_houseHere at hf
  refine lv_aload_n C.1.1 C.1.2.1 dX1_houseHere_0 rfl (lv_at hl 0 rfl) ?_
  obtain ⟨⟨r3, σ2⟩, hc1, hf⟩ := bd hf
  try dsimp only at hf
  refine cVi C hW (mX1_kindHere hk_a0 hc1) hk_a0 kvX1_kindHere w_572 ⟨(Nat.le_of_ble_eq_true rfl), (Nat.le_of_ble_eq_true rfl)⟩ ⟨Nat.zero_le _, Nat.zero_le _⟩ rfl hl.1 (rest := []) rfl (Nat.le_of_ble_eq_true rfl) dX1_houseHere_1 (fun H locs hn4 hW => ?_)
  refine lv_bipush (v := 20) C.1.1 C.1.2.1 dX1_houseHere_4 (by decide) ?_
  refine lv_icmp_eq (tgt := 11) C.1.1 C.1.2.1 dX1_houseHere_6 (by decide) (fun h9 => ?_) (fun h9 => ?_)
  · replace hf := (if_pos h9).symm.trans hf
    refine lv_aload_n C.1.1 C.1.2.1 dX1_houseHere_11 rfl (lv_at hl 0 rfl) ?_
    have hk6 := sh1_2 hW hk_a0
    refine gf1_2 C hW hk_a0 w_270 dX1_houseHere_12 ?_
    refine lv_aload_n C.1.1 C.1.2.1 dX1_houseHere_15 rfl (lv_at hl 0 rfl) ?_
    obtain ⟨⟨r9, σ8⟩, hc7, hf⟩ := bd hf
    try dsimp only at hf
    refine cVl C hW (mX1_valueHere hk_a0 hc7) hk_a0 kvX1_valueHere w_592 ⟨(Nat.le_of_ble_eq_true rfl), (Nat.le_of_ble_eq_true rfl)⟩ ⟨Nat.zero_le _, Nat.zero_le _⟩ rfl hl.1 (rest := [.ref _]) rfl (Nat.le_of_ble_eq_true rfl) dX1_houseHere_16 (fun H locs hW => ?_)
    obtain ⟨⟨r14, σ13⟩, hc12, hf⟩ := bd hf
    try dsimp only at hf
    refine cVi C hW (mX3_houseNamed hk6 hc12) hk6 kvX3_houseNamed w_596 ⟨(Nat.le_of_ble_eq_true rfl), (Nat.le_of_ble_eq_true rfl)⟩ ⟨Nat.zero_le _, Nat.zero_le _⟩ rfl hl.1 (rest := []) rfl (Nat.le_of_ble_eq_true rfl) dX1_houseHere_19 (fun H locs hn15 hW => ?_)
    refine lv_istore_n (lv' := [(1, .int _), (0, .ref _)]) C.1.1 C.1.2.1 dX1_houseHere_22 rfl hl (by decide) rfl (fun ls hl => ?_)
    refine lv_iload_n C.1.1 C.1.2.1 dX1_houseHere_23 rfl (lv_at hl 0 rfl) ?_
    refine lv_iconst (v := (-1)) C.1.1 C.1.2.1 dX1_houseHere_24 (by decide) ?_
    refine lv_icmp_ne (tgt := 33) C.1.1 C.1.2.1 dX1_houseHere_25 (by decide) (fun h9 => ?_) (fun h9 => ?_)
    · replace hf := (if_neg h9).symm.trans hf
      refine lv_iload_n C.1.1 C.1.2.1 dX1_houseHere_33 rfl (lv_at hl 0 rfl) ?_
      exact ri hQ C hr hlk hW hf (rok_i _) dX1_houseHere_34
    · replace hf := (if_pos h9).symm.trans hf
      refine lv_aload_n C.1.1 C.1.2.1 dX1_houseHere_28 rfl (lv_at hl 1 rfl) ?_
      refine lv_iconst (v := 4) C.1.1 C.1.2.1 dX1_houseHere_29 (by decide) ?_
      obtain ⟨σ18, hc17, hf⟩ := bd hf
      try dsimp only at hf
      refine cVv C hW (mX1_note hk_a0 hc17) hk_a0 kvX1_note w_600 ⟨(Nat.le_of_ble_eq_true rfl), (Nat.le_of_ble_eq_true rfl)⟩ ⟨Nat.zero_le _, Nat.zero_le _⟩ rfl hl.1 (rest := []) rfl (Nat.le_of_ble_eq_true rfl) dX1_houseHere_30 (fun H locs hW => ?_)
      refine lv_iload_n C.1.1 C.1.2.1 dX1_houseHere_33 rfl (lv_at hl 0 rfl) ?_
      exact ri hQ C hr hlk hW hf (rok_i _) dX1_houseHere_34
  · replace hf := (if_neg h9).symm.trans hf
    refine lv_iconst (v := (-1)) C.1.1 C.1.2.1 dX1_houseHere_9 (by decide) ?_
    exact ri hQ C hr hlk hW hf (rok_i _) dX1_houseHere_10
theorem kvX1_readSpare : KV 1 "RightKeys$Reader" yX1_readSpare cX1_readSpare 2 (some .boolean) 0 := ⟨⟨w_610, w_11, w_112, w_611⟩, ⟨rfl, by decide, by decide, by decide +kernel⟩, by decide, rfl⟩
noncomputable def fX1_readSpare (a0 : Nat) (σ : Sg) : Option (Int32 × Sg) := if (σ.1 (σ.2.2.1 a0 2) 1) < (6 : Int32) then ((let x1_3 := (σ.1 (σ.2.2.1 a0 2) 1); (fX1_take a0 (1 : Int32) σ).bind (fun q8 => let r6 := q8.1; let σ5 := q8.2; if r6 = 0 then (some ((0 : Int32), σ5)) else ((fX1_houseHere a0 σ5).bind (fun q15 => let r13 := q15.1; let σ12 := q15.2; if vin x1_3 6 then (let σ17 := wI σ12 ((σ5.2.2.1 a0 2) + 5) ((x1_3).toNatClampNeg) r13; (fX1_take a0 (20 : Int32) σ17).bind (fun q22 => let r20 := q22.1; let σ19 := q22.2; if r20 = 0 then (some ((0 : Int32), σ19)) else ((fX1_houseHere a0 σ19).bind (fun q29 => let r27 := q29.1; let σ26 := q29.2; (let σ30 := wI σ26 ((σ19.2.2.1 a0 2) + 6) ((x1_3).toNatClampNeg) r27; let σ32 := wI σ30 (σ30.2.2.1 a0 2) 1 ((σ30.1 (σ30.2.2.1 a0 2) 1) + (1 : Int32)); (fX1_take a0 (20 : Int32) σ32).bind (fun q37 => let r35 := q37.1; let σ34 := q37.2; if r35 = 0 then (some ((0 : Int32), σ34)) else ((fX1_take a0 (22 : Int32) σ34).bind (fun q42 => let r40 := q42.1; let σ39 := q42.2; if r40 = 0 then (some ((0 : Int32), σ39)) else (some ((1 : Int32), σ39)))))))))) else none))))) else ((fX1_stop a0 (2 : Int32) σ).bind (fun q47 => let r45 := q47.1; let σ44 := q47.2; some (r45, σ44)))
set_option maxRecDepth 100000 in
set_option maxHeartbeats 4000000 in
theorem mX1_readSpare {l : Launch} {G : Gm} {a0 : Nat} {σ : Sg} {r : Int32} {σ' : Sg} (hk_a0 : gK G a0 = 2) (hf : fX1_readSpare a0 σ = some (r, σ')) : Mi l G yX1_readSpare cX1_readSpare 2 .boolean 2 44 [.ref (gB G + a0)] σ r σ' := by
  refine of_W "RightKeys$Reader" rfl (by decide) (Nat.le_of_ble_eq_true rfl) ?_
  intro p e s m args below meth c Q hQ C hr hlk hW ls hl
  have h00 := hW.1
  have hl : lv_has ls 2 [(0, .ref (gB G + a0))] := hl
  delta fX1_readSpare at hf
  refine lv_aload_n C.1.1 C.1.2.1 dX1_readSpare_0 rfl (lv_at hl 0 rfl) ?_
  have hk1 := sh1_2 hW hk_a0
  refine gf1_2 C hW hk_a0 w_270 dX1_readSpare_1 ?_
  refine gf3_1 C hW hk1 w_184 dX1_readSpare_4 ?_
  refine lv_bipush (v := 6) C.1.1 C.1.2.1 dX1_readSpare_7 (by decide) ?_
  refine lv_icmp_lt (tgt := 18) C.1.1 C.1.2.1 dX1_readSpare_9 (by decide) (fun h9 => ?_) (fun h9 => ?_)
  · replace hf := (if_pos h9).symm.trans hf
    refine lv_aload_n C.1.1 C.1.2.1 dX1_readSpare_18 rfl (lv_at hl 0 rfl) ?_
    have hk2 := sh1_2 hW hk_a0
    refine gf1_2 C hW hk_a0 w_270 dX1_readSpare_19 ?_
    refine gf3_1 C hW hk2 w_184 dX1_readSpare_22 ?_
    refine lv_istore_n (lv' := [(1, .int _), (0, .ref _)]) C.1.1 C.1.2.1 dX1_readSpare_25 rfl hl (by decide) rfl (fun ls hl => ?_)
    refine lv_aload_n C.1.1 C.1.2.1 dX1_readSpare_26 rfl (lv_at hl 1 rfl) ?_
    refine lv_iconst (v := 1) C.1.1 C.1.2.1 dX1_readSpare_27 (by decide) ?_
    obtain ⟨⟨r6, σ5⟩, hc4, hf⟩ := bd hf
    try dsimp only at hf
    refine cVi C hW (mX1_take hk_a0 hc4) hk_a0 kvX1_take w_588 ⟨(Nat.le_of_ble_eq_true rfl), (Nat.le_of_ble_eq_true rfl)⟩ ⟨Nat.zero_le _, Nat.zero_le _⟩ rfl hl.1 (rest := []) rfl (Nat.le_of_ble_eq_true rfl) dX1_readSpare_28 (fun H locs hn7 hW => ?_)
    refine lv_if_ne (tgt := 36) C.1.1 C.1.2.1 dX1_readSpare_31 (by decide) (fun h9 => ?_) (fun h9 => ?_)
    · replace hf := (if_neg h9).symm.trans hf
      refine lv_aload_n C.1.1 C.1.2.1 dX1_readSpare_36 rfl (lv_at hl 1 rfl) ?_
      have hk9 := sh1_2 hW hk_a0
      refine gf1_2 C hW hk_a0 w_270 dX1_readSpare_37 ?_
      have hk10 := sh3_8 hW hk9
      refine gf3_8 C hW hk9 w_207 dX1_readSpare_40 ?_
      refine lv_iload_n C.1.1 C.1.2.1 dX1_readSpare_43 rfl (lv_at hl 0 rfl) ?_
      refine lv_aload_n C.1.1 C.1.2.1 dX1_readSpare_44 rfl (lv_at hl 1 rfl) ?_
      obtain ⟨⟨r13, σ12⟩, hc11, hf⟩ := bd hf
      try dsimp only at hf
      refine cVi C hW (mX1_houseHere hk_a0 hc11) hk_a0 kvX1_houseHere w_612 ⟨(Nat.le_of_ble_eq_true rfl), (Nat.le_of_ble_eq_true rfl)⟩ ⟨Nat.zero_le _, Nat.zero_le _⟩ rfl hl.1 (rest := [.int _, .ref _]) rfl (Nat.le_of_ble_eq_true rfl) dX1_readSpare_45 (fun H locs hn14 hW => ?_)
      obtain ⟨hv16, hf⟩ := gd hf
      refine wsi C hW hk10 (vin_p hv16) dX1_readSpare_48 (fun H locs hW => ?_)
      refine lv_aload_n C.1.1 C.1.2.1 dX1_readSpare_49 rfl (lv_at hl 1 rfl) ?_
      refine lv_bipush (v := 20) C.1.1 C.1.2.1 dX1_readSpare_50 (by decide) ?_
      obtain ⟨⟨r20, σ19⟩, hc18, hf⟩ := bd hf
      try dsimp only at hf
      refine cVi C hW (mX1_take hk_a0 hc18) hk_a0 kvX1_take w_588 ⟨(Nat.le_of_ble_eq_true rfl), (Nat.le_of_ble_eq_true rfl)⟩ ⟨Nat.zero_le _, Nat.zero_le _⟩ rfl hl.1 (rest := []) rfl (Nat.le_of_ble_eq_true rfl) dX1_readSpare_52 (fun H locs hn21 hW => ?_)
      refine lv_if_ne (tgt := 60) C.1.1 C.1.2.1 dX1_readSpare_55 (by decide) (fun h9 => ?_) (fun h9 => ?_)
      · replace hf := (if_neg h9).symm.trans hf
        refine lv_aload_n C.1.1 C.1.2.1 dX1_readSpare_60 rfl (lv_at hl 1 rfl) ?_
        have hk23 := sh1_2 hW hk_a0
        refine gf1_2 C hW hk_a0 w_270 dX1_readSpare_61 ?_
        have hk24 := sh3_9 hW hk23
        refine gf3_9 C hW hk23 w_212 dX1_readSpare_64 ?_
        refine lv_iload_n C.1.1 C.1.2.1 dX1_readSpare_67 rfl (lv_at hl 0 rfl) ?_
        refine lv_aload_n C.1.1 C.1.2.1 dX1_readSpare_68 rfl (lv_at hl 1 rfl) ?_
        obtain ⟨⟨r27, σ26⟩, hc25, hf⟩ := bd hf
        try dsimp only at hf
        refine cVi C hW (mX1_houseHere hk_a0 hc25) hk_a0 kvX1_houseHere w_612 ⟨(Nat.le_of_ble_eq_true rfl), (Nat.le_of_ble_eq_true rfl)⟩ ⟨Nat.zero_le _, Nat.zero_le _⟩ rfl hl.1 (rest := [.int _, .ref _]) rfl (Nat.le_of_ble_eq_true rfl) dX1_readSpare_69 (fun H locs hn28 hW => ?_)
        refine wsi C hW hk24 (vin_p hv16) dX1_readSpare_72 (fun H locs hW => ?_)
        refine lv_aload_n C.1.1 C.1.2.1 dX1_readSpare_73 rfl (lv_at hl 1 rfl) ?_
        have hk31 := sh1_2 hW hk_a0
        refine gf1_2 C hW hk_a0 w_270 dX1_readSpare_74 ?_
        refine lv_dup C.1.1 C.1.2.1 dX1_readSpare_77 rfl ?_
        refine gf3_1 C hW hk31 w_184 dX1_readSpare_78 ?_
        refine lv_iconst (v := 1) C.1.1 C.1.2.1 dX1_readSpare_81 (by decide) ?_
        refine lv_iadd C.1.1 C.1.2.1 dX1_readSpare_82 ?_
        refine pf3_1 C hW hk31 w_184 dX1_readSpare_83 (fun H locs hW => ?_)
        refine lv_aload_n C.1.1 C.1.2.1 dX1_readSpare_86 rfl (lv_at hl 1 rfl) ?_
        refine lv_bipush (v := 20) C.1.1 C.1.2.1 dX1_readSpare_87 (by decide) ?_
        obtain ⟨⟨r35, σ34⟩, hc33, hf⟩ := bd hf
        try dsimp only at hf
        refine cVi C hW (mX1_take hk_a0 hc33) hk_a0 kvX1_take w_588 ⟨(Nat.le_of_ble_eq_true rfl), (Nat.le_of_ble_eq_true rfl)⟩ ⟨Nat.zero_le _, Nat.zero_le _⟩ rfl hl.1 (rest := []) rfl (Nat.le_of_ble_eq_true rfl) dX1_readSpare_89 (fun H locs hn36 hW => ?_)
        refine lv_if_eq (tgt := 108) C.1.1 C.1.2.1 dX1_readSpare_92 (by decide) (fun h9 => ?_) (fun h9 => ?_)
        · replace hf := (if_pos h9).symm.trans hf
          refine lv_iconst (v := 0) C.1.1 C.1.2.1 dX1_readSpare_108 (by decide) ?_
          exact ri hQ C hr hlk hW hf (rok_z (Or.inl rfl)) dX1_readSpare_109
        · replace hf := (if_neg h9).symm.trans hf
          refine lv_aload_n C.1.1 C.1.2.1 dX1_readSpare_95 rfl (lv_at hl 1 rfl) ?_
          refine lv_bipush (v := 22) C.1.1 C.1.2.1 dX1_readSpare_96 (by decide) ?_
          obtain ⟨⟨r40, σ39⟩, hc38, hf⟩ := bd hf
          try dsimp only at hf
          refine cVi C hW (mX1_take hk_a0 hc38) hk_a0 kvX1_take w_588 ⟨(Nat.le_of_ble_eq_true rfl), (Nat.le_of_ble_eq_true rfl)⟩ ⟨Nat.zero_le _, Nat.zero_le _⟩ rfl hl.1 (rest := []) rfl (Nat.le_of_ble_eq_true rfl) dX1_readSpare_98 (fun H locs hn41 hW => ?_)
          refine lv_if_eq (tgt := 108) C.1.1 C.1.2.1 dX1_readSpare_101 (by decide) (fun h9 => ?_) (fun h9 => ?_)
          · replace hf := (if_pos h9).symm.trans hf
            refine lv_iconst (v := 0) C.1.1 C.1.2.1 dX1_readSpare_108 (by decide) ?_
            exact ri hQ C hr hlk hW hf (rok_z (Or.inl rfl)) dX1_readSpare_109
          · replace hf := (if_neg h9).symm.trans hf
            refine lv_iconst (v := 1) C.1.1 C.1.2.1 dX1_readSpare_104 (by decide) ?_
            refine lv_goto (tgt := 109) C.1.1 C.1.2.1 dX1_readSpare_105 (by decide) ?_
            exact ri hQ C hr hlk hW hf (rok_z (Or.inr rfl)) dX1_readSpare_109
      · replace hf := (if_pos h9).symm.trans hf
        refine lv_iconst (v := 0) C.1.1 C.1.2.1 dX1_readSpare_58 (by decide) ?_
        exact ri hQ C hr hlk hW hf (rok_z (Or.inl rfl)) dX1_readSpare_59
    · replace hf := (if_pos h9).symm.trans hf
      refine lv_iconst (v := 0) C.1.1 C.1.2.1 dX1_readSpare_34 (by decide) ?_
      exact ri hQ C hr hlk hW hf (rok_z (Or.inl rfl)) dX1_readSpare_35
  · replace hf := (if_neg h9).symm.trans hf
    refine lv_aload_n C.1.1 C.1.2.1 dX1_readSpare_12 rfl (lv_at hl 0 rfl) ?_
    refine lv_iconst (v := 2) C.1.1 C.1.2.1 dX1_readSpare_13 (by decide) ?_
    obtain ⟨⟨r45, σ44⟩, hc43, hf⟩ := bd hf
    try dsimp only at hf
    refine cVi C hW (mX1_stop hk_a0 hc43) hk_a0 kvX1_stop w_584 ⟨(Nat.le_of_ble_eq_true rfl), (Nat.le_of_ble_eq_true rfl)⟩ ⟨Nat.zero_le _, Nat.zero_le _⟩ rfl hl.1 (rest := []) rfl (Nat.le_of_ble_eq_true rfl) dX1_readSpare_14 (fun H locs hn46 hW => ?_)
    exact ri hQ C hr hlk hW hf (rok_z (hn46.2 rfl)) dX1_readSpare_17
theorem kvX1_readBoth : KV 1 "RightKeys$Reader" yX1_readBoth cX1_readBoth 2 (some .boolean) 0 := ⟨⟨w_618, w_13, w_112, w_619⟩, ⟨rfl, by decide, by decide, by decide +kernel⟩, by decide, rfl⟩
noncomputable def jX1_readBoth_55 (a0 : Nat) (σ : Sg) : Option (Int32 × Sg) := (fX1_take a0 (20 : Int32) σ).bind (fun q15 => let r13 := q15.1; let σ12 := q15.2; if r13 = 0 then (some ((0 : Int32), σ12)) else ((fX1_take a0 (22 : Int32) σ12).bind (fun q20 => let r18 := q20.1; let σ17 := q20.2; if r18 = 0 then (some ((0 : Int32), σ17)) else (some ((1 : Int32), σ17)))))
noncomputable def jX1_readBoth_40 (a0 : Nat) (x1 : Int32) (σ : Sg) : Option (Int32 × Sg) := (let σ28 := wI σ (σ.2.2.1 a0 2) 2 ((σ.1 (σ.2.2.1 a0 2) 2) ||| ((1 : Int32) <<< (x1 &&& 31))); jX1_readBoth_55 a0 σ28)
noncomputable def fX1_readBoth (a0 : Nat) (σ : Sg) : Option (Int32 × Sg) := (fX1_take a0 (2 : Int32) σ).bind (fun q5 => let r3 := q5.1; let σ2 := q5.2; if r3 = 0 then (some ((0 : Int32), σ2)) else ((fX1_houseHere a0 σ2).bind (fun q10 => let r8 := q10.1; let σ7 := q10.2; if r8 = (-1 : Int32) then (jX1_readBoth_55 a0 σ7) else ((fX6_bit (σ7.1 (σ7.2.2.1 a0 2) 2) r8 σ7).bind (fun q26 => let r24 := q26.1; let σ23 := q26.2; if r24 = (1 : Int32) then ((fX1_note a0 (3 : Int32) σ23).bind (fun σ30 => jX1_readBoth_40 a0 r8 σ30)) else (jX1_readBoth_40 a0 r8 σ23))))))
set_option maxRecDepth 100000 in
set_option maxHeartbeats 4000000 in
theorem mX1_readBoth {l : Launch} {G : Gm} {a0 : Nat} {σ : Sg} {r : Int32} {σ' : Sg} (hk_a0 : gK G a0 = 2) (hf : fX1_readBoth a0 σ = some (r, σ')) : Mi l G yX1_readBoth cX1_readBoth 2 .boolean 2 44 [.ref (gB G + a0)] σ r σ' := by
  refine of_W "RightKeys$Reader" rfl (by decide) (Nat.le_of_ble_eq_true rfl) ?_
  intro p e s m args below meth c Q hQ C hr hlk hW ls hl
  have h00 := hW.1
  have hl : lv_has ls 2 [(0, .ref (gB G + a0))] := hl
  delta fX1_readBoth at hf
  have J55 : ∀ (σ : Sg) (H : Heap) (locs : List Loc) (ls : Array Slot), jX1_readBoth_55 a0 σ = some (r, σ') → Ws G σ s.heap H locs → lv_has ls 2 [(0, .ref (gB G + a0))] → W p l e (rmOf 2 44) s m args below meth c H locs 0 0 Q (F0 m 55 ls []) := by
    intro σ H locs ls hf hW hl
    delta jX1_readBoth_55 at hf
    refine lv_aload_n C.1.1 C.1.2.1 dX1_readBoth_55 rfl (lv_at hl 0 rfl) ?_
    refine lv_bipush (v := 20) C.1.1 C.1.2.1 dX1_readBoth_56 (by decide) ?_
    obtain ⟨⟨r13, σ12⟩, hc11, hf⟩ := bd hf
    try dsimp only at hf
    refine cVi C hW (mX1_take hk_a0 hc11) hk_a0 kvX1_take w_588 ⟨(Nat.le_of_ble_eq_true rfl), (Nat.le_of_ble_eq_true rfl)⟩ ⟨Nat.zero_le _, Nat.zero_le _⟩ rfl hl.1 (rest := []) rfl (Nat.le_of_ble_eq_true rfl) dX1_readBoth_58 (fun H locs hn14 hW => ?_)
    refine lv_if_eq (tgt := 77) C.1.1 C.1.2.1 dX1_readBoth_61 (by decide) (fun h9 => ?_) (fun h9 => ?_)
    · replace hf := (if_pos h9).symm.trans hf
      refine lv_iconst (v := 0) C.1.1 C.1.2.1 dX1_readBoth_77 (by decide) ?_
      exact ri hQ C hr hlk hW hf (rok_z (Or.inl rfl)) dX1_readBoth_78
    · replace hf := (if_neg h9).symm.trans hf
      refine lv_aload_n C.1.1 C.1.2.1 dX1_readBoth_64 rfl (lv_at hl 0 rfl) ?_
      refine lv_bipush (v := 22) C.1.1 C.1.2.1 dX1_readBoth_65 (by decide) ?_
      obtain ⟨⟨r18, σ17⟩, hc16, hf⟩ := bd hf
      try dsimp only at hf
      refine cVi C hW (mX1_take hk_a0 hc16) hk_a0 kvX1_take w_588 ⟨(Nat.le_of_ble_eq_true rfl), (Nat.le_of_ble_eq_true rfl)⟩ ⟨Nat.zero_le _, Nat.zero_le _⟩ rfl hl.1 (rest := []) rfl (Nat.le_of_ble_eq_true rfl) dX1_readBoth_67 (fun H locs hn19 hW => ?_)
      refine lv_if_eq (tgt := 77) C.1.1 C.1.2.1 dX1_readBoth_70 (by decide) (fun h9 => ?_) (fun h9 => ?_)
      · replace hf := (if_pos h9).symm.trans hf
        refine lv_iconst (v := 0) C.1.1 C.1.2.1 dX1_readBoth_77 (by decide) ?_
        exact ri hQ C hr hlk hW hf (rok_z (Or.inl rfl)) dX1_readBoth_78
      · replace hf := (if_neg h9).symm.trans hf
        refine lv_iconst (v := 1) C.1.1 C.1.2.1 dX1_readBoth_73 (by decide) ?_
        refine lv_goto (tgt := 78) C.1.1 C.1.2.1 dX1_readBoth_74 (by decide) ?_
        exact ri hQ C hr hlk hW hf (rok_z (Or.inr rfl)) dX1_readBoth_78
  have J40 : ∀ (x1 : Int32) (σ : Sg) (H : Heap) (locs : List Loc) (ls : Array Slot), jX1_readBoth_40 a0 x1 σ = some (r, σ') → Ws G σ s.heap H locs → lv_has ls 2 [(0, .ref (gB G + a0)), (1, .int x1)] → W p l e (rmOf 2 44) s m args below meth c H locs 0 0 Q (F0 m 40 ls []) := by
    intro x1 σ H locs ls hf hW hl
    delta jX1_readBoth_40 at hf
    refine lv_aload_n C.1.1 C.1.2.1 dX1_readBoth_40 rfl (lv_at hl 0 rfl) ?_
    have hk27 := sh1_2 hW hk_a0
    refine gf1_2 C hW hk_a0 w_270 dX1_readBoth_41 ?_
    refine lv_dup C.1.1 C.1.2.1 dX1_readBoth_44 rfl ?_
    refine gf3_2 C hW hk27 w_188 dX1_readBoth_45 ?_
    refine lv_iconst (v := 1) C.1.1 C.1.2.1 dX1_readBoth_48 (by decide) ?_
    refine lv_iload_n C.1.1 C.1.2.1 dX1_readBoth_49 rfl (lv_at hl 1 rfl) ?_
    refine lv_ishl C.1.1 C.1.2.1 dX1_readBoth_50 ?_
    refine lv_ior C.1.1 C.1.2.1 dX1_readBoth_51 ?_
    refine pf3_2 C hW hk27 w_188 dX1_readBoth_52 (fun H locs hW => ?_)
    exact J55 _ _ _ _ hf hW (lv_sub hl [0] rfl)
  refine lv_aload_n C.1.1 C.1.2.1 dX1_readBoth_0 rfl (lv_at hl 0 rfl) ?_
  refine lv_iconst (v := 2) C.1.1 C.1.2.1 dX1_readBoth_1 (by decide) ?_
  obtain ⟨⟨r3, σ2⟩, hc1, hf⟩ := bd hf
  try dsimp only at hf
  refine cVi C hW (mX1_take hk_a0 hc1) hk_a0 kvX1_take w_588 ⟨(Nat.le_of_ble_eq_true rfl), (Nat.le_of_ble_eq_true rfl)⟩ ⟨Nat.zero_le _, Nat.zero_le _⟩ rfl hl.1 (rest := []) rfl (Nat.le_of_ble_eq_true rfl) dX1_readBoth_2 (fun H locs hn4 hW => ?_)
  refine lv_if_ne (tgt := 10) C.1.1 C.1.2.1 dX1_readBoth_5 (by decide) (fun h9 => ?_) (fun h9 => ?_)
  · replace hf := (if_neg h9).symm.trans hf
    refine lv_aload_n C.1.1 C.1.2.1 dX1_readBoth_10 rfl (lv_at hl 0 rfl) ?_
    obtain ⟨⟨r8, σ7⟩, hc6, hf⟩ := bd hf
    try dsimp only at hf
    refine cVi C hW (mX1_houseHere hk_a0 hc6) hk_a0 kvX1_houseHere w_612 ⟨(Nat.le_of_ble_eq_true rfl), (Nat.le_of_ble_eq_true rfl)⟩ ⟨Nat.zero_le _, Nat.zero_le _⟩ rfl hl.1 (rest := []) rfl (Nat.le_of_ble_eq_true rfl) dX1_readBoth_11 (fun H locs hn9 hW => ?_)
    refine lv_istore_n (lv' := [(1, .int _), (0, .ref _)]) C.1.1 C.1.2.1 dX1_readBoth_14 rfl hl (by decide) rfl (fun ls hl => ?_)
    refine lv_iload_n C.1.1 C.1.2.1 dX1_readBoth_15 rfl (lv_at hl 0 rfl) ?_
    refine lv_iconst (v := (-1)) C.1.1 C.1.2.1 dX1_readBoth_16 (by decide) ?_
    refine lv_icmp_eq (tgt := 55) C.1.1 C.1.2.1 dX1_readBoth_17 (by decide) (fun h9 => ?_) (fun h9 => ?_)
    · replace hf := (if_pos h9).symm.trans hf
      exact J55 _ _ _ _ hf hW (lv_sub hl [1] rfl)
    · replace hf := (if_neg h9).symm.trans hf
      refine lv_aload_n C.1.1 C.1.2.1 dX1_readBoth_20 rfl (lv_at hl 1 rfl) ?_
      have hk21 := sh1_2 hW hk_a0
      refine gf1_2 C hW hk_a0 w_270 dX1_readBoth_21 ?_
      refine gf3_2 C hW hk21 w_188 dX1_readBoth_24 ?_
      refine lv_iload_n C.1.1 C.1.2.1 dX1_readBoth_27 rfl (lv_at hl 0 rfl) ?_
      obtain ⟨⟨r24, σ23⟩, hc22, hf⟩ := bd hf
      try dsimp only at hf
      refine cNi C hW (mX6_bit hc22) ksX6_bit (by decide) ⟨(Nat.le_of_ble_eq_true rfl), (Nat.le_of_ble_eq_true rfl)⟩ ⟨Nat.zero_le _, Nat.zero_le _⟩ rfl hl.1 (rest := []) rfl (Nat.le_of_ble_eq_true rfl) dX1_readBoth_28 (fun H locs hn25 hW => ?_)
      refine lv_iconst (v := 1) C.1.1 C.1.2.1 dX1_readBoth_31 (by decide) ?_
      refine lv_icmp_ne (tgt := 40) C.1.1 C.1.2.1 dX1_readBoth_32 (by decide) (fun h9 => ?_) (fun h9 => ?_)
      · replace hf := (if_neg h9).symm.trans hf
        exact J40 _ _ _ _ _ hf hW (lv_sub hl [1, 0] rfl)
      · replace hf := (if_pos h9).symm.trans hf
        refine lv_aload_n C.1.1 C.1.2.1 dX1_readBoth_35 rfl (lv_at hl 1 rfl) ?_
        refine lv_iconst (v := 3) C.1.1 C.1.2.1 dX1_readBoth_36 (by decide) ?_
        obtain ⟨σ30, hc29, hf⟩ := bd hf
        try dsimp only at hf
        refine cVv C hW (mX1_note hk_a0 hc29) hk_a0 kvX1_note w_600 ⟨(Nat.le_of_ble_eq_true rfl), (Nat.le_of_ble_eq_true rfl)⟩ ⟨Nat.zero_le _, Nat.zero_le _⟩ rfl hl.1 (rest := []) rfl (Nat.le_of_ble_eq_true rfl) dX1_readBoth_37 (fun H locs hW => ?_)
        exact J40 _ _ _ _ _ hf hW (lv_sub hl [1, 0] rfl)
  · replace hf := (if_pos h9).symm.trans hf
    refine lv_iconst (v := 0) C.1.1 C.1.2.1 dX1_readBoth_8 (by decide) ?_
    exact ri hQ C hr hlk hW hf (rok_z (Or.inl rfl)) dX1_readBoth_9
theorem kvX1_readSeed : KV 1 "RightKeys$Reader" yX1_readSeed cX1_readSeed 1 (some .boolean) 0 := ⟨⟨w_650, w_19, w_112, w_651⟩, ⟨rfl, by decide, by decide, by decide +kernel⟩, by decide, rfl⟩
noncomputable def fX1_readSeed (a0 : Nat) (σ : Sg) : Option (Int32 × Sg) := (fX1_take a0 (7 : Int32) σ).bind (fun q5 => let r3 := q5.1; let σ2 := q5.2; if r3 = 0 then (some ((0 : Int32), σ2)) else ((fX1_valueHere a0 σ2).bind (fun q11 => let r9 := q11.1; let σ8 := q11.2; (let σ12 := wI σ8 (σ2.2.2.1 a0 2) 3 ((r9).toInt32); (fX1_take a0 (21 : Int32) σ12).bind (fun q17 => let r15 := q17.1; let σ14 := q17.2; if r15 = 0 then (some ((0 : Int32), σ14)) else ((fX1_take a0 (22 : Int32) σ14).bind (fun q22 => let r20 := q22.1; let σ19 := q22.2; if r20 = 0 then (some ((0 : Int32), σ19)) else (some ((1 : Int32), σ19)))))))))
set_option maxRecDepth 100000 in
set_option maxHeartbeats 4000000 in
theorem mX1_readSeed {l : Launch} {G : Gm} {a0 : Nat} {σ : Sg} {r : Int32} {σ' : Sg} (hk_a0 : gK G a0 = 2) (hf : fX1_readSeed a0 σ = some (r, σ')) : Mi l G yX1_readSeed cX1_readSeed 1 .boolean 2 42 [.ref (gB G + a0)] σ r σ' := by
  refine of_W "RightKeys$Reader" rfl (by decide) (Nat.le_of_ble_eq_true rfl) ?_
  intro p e s m args below meth c Q hQ C hr hlk hW ls hl
  have h00 := hW.1
  have hl : lv_has ls 1 [(0, .ref (gB G + a0))] := hl
  delta fX1_readSeed at hf
  refine lv_aload_n C.1.1 C.1.2.1 dX1_readSeed_0 rfl (lv_at hl 0 rfl) ?_
  refine lv_bipush (v := 7) C.1.1 C.1.2.1 dX1_readSeed_1 (by decide) ?_
  obtain ⟨⟨r3, σ2⟩, hc1, hf⟩ := bd hf
  try dsimp only at hf
  refine cVi C hW (mX1_take hk_a0 hc1) hk_a0 kvX1_take w_588 ⟨(Nat.le_of_ble_eq_true rfl), (Nat.le_of_ble_eq_true rfl)⟩ ⟨Nat.zero_le _, Nat.zero_le _⟩ rfl hl.1 (rest := []) rfl (Nat.le_of_ble_eq_true rfl) dX1_readSeed_3 (fun H locs hn4 hW => ?_)
  refine lv_if_ne (tgt := 11) C.1.1 C.1.2.1 dX1_readSeed_6 (by decide) (fun h9 => ?_) (fun h9 => ?_)
  · replace hf := (if_neg h9).symm.trans hf
    refine lv_aload_n C.1.1 C.1.2.1 dX1_readSeed_11 rfl (lv_at hl 0 rfl) ?_
    have hk6 := sh1_2 hW hk_a0
    refine gf1_2 C hW hk_a0 w_270 dX1_readSeed_12 ?_
    refine lv_aload_n C.1.1 C.1.2.1 dX1_readSeed_15 rfl (lv_at hl 0 rfl) ?_
    obtain ⟨⟨r9, σ8⟩, hc7, hf⟩ := bd hf
    try dsimp only at hf
    refine cVl C hW (mX1_valueHere hk_a0 hc7) hk_a0 kvX1_valueHere w_592 ⟨(Nat.le_of_ble_eq_true rfl), (Nat.le_of_ble_eq_true rfl)⟩ ⟨Nat.zero_le _, Nat.zero_le _⟩ rfl hl.1 (rest := [.ref _]) rfl (Nat.le_of_ble_eq_true rfl) dX1_readSeed_16 (fun H locs hW => ?_)
    refine lv_l2i (v := Int64.toInt32 _) C.1.1 C.1.2.1 dX1_readSeed_19 rfl ?_
    refine pf3_3 C hW hk6 w_193 dX1_readSeed_20 (fun H locs hW => ?_)
    refine lv_aload_n C.1.1 C.1.2.1 dX1_readSeed_23 rfl (lv_at hl 0 rfl) ?_
    refine lv_bipush (v := 21) C.1.1 C.1.2.1 dX1_readSeed_24 (by decide) ?_
    obtain ⟨⟨r15, σ14⟩, hc13, hf⟩ := bd hf
    try dsimp only at hf
    refine cVi C hW (mX1_take hk_a0 hc13) hk_a0 kvX1_take w_588 ⟨(Nat.le_of_ble_eq_true rfl), (Nat.le_of_ble_eq_true rfl)⟩ ⟨Nat.zero_le _, Nat.zero_le _⟩ rfl hl.1 (rest := []) rfl (Nat.le_of_ble_eq_true rfl) dX1_readSeed_26 (fun H locs hn16 hW => ?_)
    refine lv_if_eq (tgt := 45) C.1.1 C.1.2.1 dX1_readSeed_29 (by decide) (fun h9 => ?_) (fun h9 => ?_)
    · replace hf := (if_pos h9).symm.trans hf
      refine lv_iconst (v := 0) C.1.1 C.1.2.1 dX1_readSeed_45 (by decide) ?_
      exact ri hQ C hr hlk hW hf (rok_z (Or.inl rfl)) dX1_readSeed_46
    · replace hf := (if_neg h9).symm.trans hf
      refine lv_aload_n C.1.1 C.1.2.1 dX1_readSeed_32 rfl (lv_at hl 0 rfl) ?_
      refine lv_bipush (v := 22) C.1.1 C.1.2.1 dX1_readSeed_33 (by decide) ?_
      obtain ⟨⟨r20, σ19⟩, hc18, hf⟩ := bd hf
      try dsimp only at hf
      refine cVi C hW (mX1_take hk_a0 hc18) hk_a0 kvX1_take w_588 ⟨(Nat.le_of_ble_eq_true rfl), (Nat.le_of_ble_eq_true rfl)⟩ ⟨Nat.zero_le _, Nat.zero_le _⟩ rfl hl.1 (rest := []) rfl (Nat.le_of_ble_eq_true rfl) dX1_readSeed_35 (fun H locs hn21 hW => ?_)
      refine lv_if_eq (tgt := 45) C.1.1 C.1.2.1 dX1_readSeed_38 (by decide) (fun h9 => ?_) (fun h9 => ?_)
      · replace hf := (if_pos h9).symm.trans hf
        refine lv_iconst (v := 0) C.1.1 C.1.2.1 dX1_readSeed_45 (by decide) ?_
        exact ri hQ C hr hlk hW hf (rok_z (Or.inl rfl)) dX1_readSeed_46
      · replace hf := (if_neg h9).symm.trans hf
        refine lv_iconst (v := 1) C.1.1 C.1.2.1 dX1_readSeed_41 (by decide) ?_
        refine lv_goto (tgt := 46) C.1.1 C.1.2.1 dX1_readSeed_42 (by decide) ?_
        exact ri hQ C hr hlk hW hf (rok_z (Or.inr rfl)) dX1_readSeed_46
  · replace hf := (if_pos h9).symm.trans hf
    refine lv_iconst (v := 0) C.1.1 C.1.2.1 dX1_readSeed_9 (by decide) ?_
    exact ri hQ C hr hlk hW hf (rok_z (Or.inl rfl)) dX1_readSeed_10
