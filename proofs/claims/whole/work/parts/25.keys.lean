theorem kvX6_putBytes : KV 6 "RightKeys" yX6_putBytes cX6_putBytes 3 none 1 := ⟨⟨w_466, w_1, w_109, w_467⟩, ⟨rfl, by decide, by decide, by decide +kernel⟩, by decide, rfl⟩
noncomputable def jX6_putBytes_40 (a0 : Nat) (p1 : Int32) (x2 : Int32) (σ : Sg) : Option ((Int32 × Sg) ⊕ (Sg)) := (let x2_1 := x2 + (-8 : Int32); some (Sum.inl (x2_1, σ)))
noncomputable def bX6_putBytes_3 (a0 : Nat) (p1 : Int32) (x2 : Int32) (σ : Sg) : Option ((Int32 × Sg) ⊕ (Sg)) := if x2 < 0 then (some (Sum.inr σ)) else (if (2000 : Int32) ≤ (σ.1 a0 1) then (jX6_putBytes_40 a0 p1 x2 σ) else (if vin (σ.1 a0 1) 2000 then (let σ4 := wI σ (a0 + 1) (((σ.1 a0 1)).toNatClampNeg) (vp_nar .byte (((ius p1 x2)).toInt8.toInt32)); (let σ5 := wI σ4 a0 1 ((σ4.1 a0 1) + (1 : Int32)); jX6_putBytes_40 a0 p1 x2 σ5)) else none))
noncomputable def fX6_putBytes (a0 : Nat) (p1 : Int32) (σ : Sg) : Option (Sg) := (lp (fun st => bX6_putBytes_3 a0 p1 st.1 st.2) ((24 : Int32), σ)).bind (fun σ7 => some σ7)
set_option maxRecDepth 100000 in
set_option maxHeartbeats 4000000 in
theorem mX6_putBytes {l : Launch} {G : Gm} {a0 : Nat} {p1 : Int32} {σ : Sg} {σ' : Sg} (hk_a0 : gK G a0 = 7) (hf : fX6_putBytes a0 p1 σ = some σ') : Mv l G yX6_putBytes cX6_putBytes 3 0 0 [.ref (gB G + a0), .int p1] σ σ' := by
  refine of_W "RightKeys" rfl (by decide) (Nat.le_of_ble_eq_true rfl) ?_
  intro p e s m args below meth c Q hQ C hr hlk hW ls hl
  have h00 := hW.1
  have hl : lv_has ls 3 [(0, .ref (gB G + a0)), (1, .int p1)] := hl
  delta fX6_putBytes at hf
  have L3 : ∀ (n : Nat) (x2 : Int32) (σ : Sg) (H : Heap) (locs : List Loc) (ls : Array Slot) (out : (Sg)), iter (fun st => bX6_putBytes_3 a0 p1 st.1 st.2) n (x2, σ) = some out → Ws G σ s.heap H locs → lv_has ls 3 [(0, .ref (gB G + a0)), (1, .int p1), (2, .int x2)] → (∀ (σ : Sg) (H : Heap) (locs : List Loc) (ls : Array Slot), out = σ → Ws G σ s.heap H locs → lv_has ls 3 [] → W p l e (rmOf 0 0) s m args below meth c H locs 0 0 Q (F0 m 46 ls [])) → W p l e (rmOf 0 0) s m args below meth c H locs 0 0 Q (F0 m 3 ls []) := by
    intro n
    induction n with
    | zero =>
      intro x2 σ H locs ls out hf
      exact (it_0 hf).elim
    | succ n ih =>
      intro x2 σ H locs ls out hf hW hl K3_46
      obtain ⟨x, hf, hx⟩ := it_s hf
      have hf : bX6_putBytes_3 a0 p1 x2 σ = some x := hf
      delta bX6_putBytes_3 at hf
      have J40 : ∀ (x2 : Int32) (σ : Sg) (H : Heap) (locs : List Loc) (ls : Array Slot), jX6_putBytes_40 a0 p1 x2 σ = some x → Ws G σ s.heap H locs → lv_has ls 3 [(0, .ref (gB G + a0)), (1, .int p1), (2, .int x2)] → W p l e (rmOf 0 0) s m args below meth c H locs 0 0 Q (F0 m 40 ls []) := by
        intro x2 σ H locs ls hf hW hl
        delta jX6_putBytes_40 at hf
        refine lv_iinc (v := _) (lv' := [(2, .int _), (0, .ref _), (1, .int _)]) C.1.1 C.1.2.1 dX6_putBytes_40 hl (k := 2) rfl (ii (k := (-8)) (by decide)) (by decide) rfl (fun ls hl => ?_)
        refine lv_goto (tgt := 3) C.1.1 C.1.2.1 dX6_putBytes_43 (by decide) ?_
        cases hf
        exact ih _ _ _ _ _ _ hx hW (lv_sub hl [1, 2, 0] rfl) K3_46
      refine lv_iload_n C.1.1 C.1.2.1 dX6_putBytes_3 rfl (lv_at hl 2 rfl) ?_
      refine lv_if_lt (tgt := 46) C.1.1 C.1.2.1 dX6_putBytes_4 (by decide) (fun h9 => ?_) (fun h9 => ?_)
      · replace hf := (if_pos h9).symm.trans hf
        cases hf
        cases hx
        exact K3_46 _ _ _ _ rfl hW (lv_sub hl [] rfl)
      · replace hf := (if_neg h9).symm.trans hf
        refine lv_aload_n C.1.1 C.1.2.1 dX6_putBytes_7 rfl (lv_at hl 0 rfl) ?_
        refine gf6_1 C hW hk_a0 w_406 dX6_putBytes_8 ?_
        refine lv_sipush (v := 2000) C.1.1 C.1.2.1 dX6_putBytes_11 (by decide) ?_
        refine lv_icmp_ge (tgt := 40) C.1.1 C.1.2.1 dX6_putBytes_14 (by decide) (fun h9 => ?_) (fun h9 => ?_)
        · replace hf := (if_pos h9).symm.trans hf
          exact J40 _ _ _ _ _ hf hW (lv_sub hl [0, 1, 2] rfl)
        · replace hf := (if_neg h9).symm.trans hf
          refine lv_aload_n C.1.1 C.1.2.1 dX6_putBytes_17 rfl (lv_at hl 0 rfl) ?_
          have hk2 := sh6_0 hW hk_a0
          refine gf6_0 C hW hk_a0 w_405 dX6_putBytes_18 ?_
          refine lv_aload_n C.1.1 C.1.2.1 dX6_putBytes_21 rfl (lv_at hl 0 rfl) ?_
          refine gf6_1 C hW hk_a0 w_406 dX6_putBytes_22 ?_
          refine lv_iload_n C.1.1 C.1.2.1 dX6_putBytes_25 rfl (lv_at hl 1 rfl) ?_
          refine lv_iload_n C.1.1 C.1.2.1 dX6_putBytes_26 rfl (lv_at hl 2 rfl) ?_
          refine lv_iushr (v := ius _ _) C.1.1 C.1.2.1 dX6_putBytes_27 rfl ?_
          refine lv_i2b (v := Int8.toInt32 (Int32.toInt8 _)) C.1.1 C.1.2.1 dX6_putBytes_28 rfl ?_
          obtain ⟨hv3, hf⟩ := gd hf
          refine wsb C hW hk2 (vin_p hv3) dX6_putBytes_29 (fun H locs hW => ?_)
          refine lv_aload_n C.1.1 C.1.2.1 dX6_putBytes_30 rfl (lv_at hl 0 rfl) ?_
          refine lv_dup C.1.1 C.1.2.1 dX6_putBytes_31 rfl ?_
          refine gf6_1 C hW hk_a0 w_406 dX6_putBytes_32 ?_
          refine lv_iconst (v := 1) C.1.1 C.1.2.1 dX6_putBytes_35 (by decide) ?_
          refine lv_iadd C.1.1 C.1.2.1 dX6_putBytes_36 ?_
          refine pf6_1 C hW hk_a0 w_406 dX6_putBytes_37 (fun H locs hW => ?_)
          exact J40 _ _ _ _ _ hf hW (lv_sub hl [0, 1, 2] rfl)
  refine lv_bipush (v := 24) C.1.1 C.1.2.1 dX6_putBytes_0 (by decide) ?_
  refine lv_istore_n (lv' := [(2, .int _), (0, .ref _), (1, .int _)]) C.1.1 C.1.2.1 dX6_putBytes_2 rfl hl (by decide) rfl (fun ls hl => ?_)
  obtain ⟨o6, ho, hf⟩ := bd hf
  obtain ⟨n, ho⟩ := lp_it ho
  refine L3 n _ _ _ _ _ o6 ho hW (lv_sub hl [1, 2, 0] rfl) ?_
  intro  σ7 H locs ls e9 hW hl
  subst e9
  try dsimp only at hf
  exact rv hQ C hr hlk hW hf dX6_putBytes_46
theorem kvX6_feed : KV 6 "RightKeys" yX6_feed cX6_feed 6 (some .int) 5 := ⟨⟨w_461, w_462, w_109, w_463⟩, ⟨rfl, by decide, by decide, by decide +kernel⟩, by decide, rfl⟩
noncomputable def fX6_feed (a0 : Nat) (p1 : Int32) (p2 : Int32) (p3 : Int32) (p4 : Int32) (p5 : Int32) (σ : Sg) : Option (Int32 × Sg) := if (σ.1 a0 1) ≤ (1980 : Int32) then ((fX6_putBytes a0 p1 σ).bind (fun σ2 => (fX6_putBytes a0 p2 σ2).bind (fun σ7 => (fX6_putBytes a0 p3 σ7).bind (fun σ12 => (fX6_putBytes a0 p4 σ12).bind (fun σ17 => (fX6_putBytes a0 p5 σ17).bind (fun σ22 => some ((σ22.1 a0 1), σ22))))))) else (some ((-1 : Int32), σ))
set_option maxRecDepth 100000 in
set_option maxHeartbeats 4000000 in
theorem mX6_feed {l : Launch} {G : Gm} {a0 : Nat} {p1 : Int32} {p2 : Int32} {p3 : Int32} {p4 : Int32} {p5 : Int32} {σ : Sg} {r : Int32} {σ' : Sg} (hk_a0 : gK G a0 = 7) (hf : fX6_feed a0 p1 p2 p3 p4 p5 σ = some (r, σ')) : Mi l G yX6_feed cX6_feed 6 .int 1 22 [.ref (gB G + a0), .int p1, .int p2, .int p3, .int p4, .int p5] σ r σ' := by
  refine of_W "RightKeys" rfl (by decide) (Nat.le_of_ble_eq_true rfl) ?_
  intro p e s m args below meth c Q hQ C hr hlk hW ls hl
  have h00 := hW.1
  have hl : lv_has ls 6 [(0, .ref (gB G + a0)), (1, .int p1), (2, .int p2), (3, .int p3), (4, .int p4), (5, .int p5)] := hl
  delta fX6_feed at hf
  refine lv_aload_n C.1.1 C.1.2.1 dX6_feed_0 rfl (lv_at hl 0 rfl) ?_
  refine gf6_1 C hW hk_a0 w_406 dX6_feed_1 ?_
  refine lv_sipush (v := 1980) C.1.1 C.1.2.1 dX6_feed_4 (by decide) ?_
  refine lv_icmp_le (tgt := 12) C.1.1 C.1.2.1 dX6_feed_7 (by decide) (fun h9 => ?_) (fun h9 => ?_)
  · replace hf := (if_pos h9).symm.trans hf
    refine lv_aload_n C.1.1 C.1.2.1 dX6_feed_12 rfl (lv_at hl 0 rfl) ?_
    refine lv_iload_n C.1.1 C.1.2.1 dX6_feed_13 rfl (lv_at hl 1 rfl) ?_
    obtain ⟨σ2, hc1, hf⟩ := bd hf
    try dsimp only at hf
    refine cVv C hW (mX6_putBytes hk_a0 hc1) hk_a0 kvX6_putBytes w_464 ⟨(Nat.le_of_ble_eq_true rfl), (Nat.le_of_ble_eq_true rfl)⟩ ⟨Nat.zero_le _, Nat.zero_le _⟩ rfl hl.1 (rest := []) rfl (Nat.le_of_ble_eq_true rfl) dX6_feed_14 (fun H locs hW => ?_)
    refine lv_aload_n C.1.1 C.1.2.1 dX6_feed_17 rfl (lv_at hl 0 rfl) ?_
    refine lv_iload_n C.1.1 C.1.2.1 dX6_feed_18 rfl (lv_at hl 2 rfl) ?_
    obtain ⟨σ7, hc6, hf⟩ := bd hf
    try dsimp only at hf
    refine cVv C hW (mX6_putBytes hk_a0 hc6) hk_a0 kvX6_putBytes w_464 ⟨(Nat.le_of_ble_eq_true rfl), (Nat.le_of_ble_eq_true rfl)⟩ ⟨Nat.zero_le _, Nat.zero_le _⟩ rfl hl.1 (rest := []) rfl (Nat.le_of_ble_eq_true rfl) dX6_feed_19 (fun H locs hW => ?_)
    refine lv_aload_n C.1.1 C.1.2.1 dX6_feed_22 rfl (lv_at hl 0 rfl) ?_
    refine lv_iload_n C.1.1 C.1.2.1 dX6_feed_23 rfl (lv_at hl 3 rfl) ?_
    obtain ⟨σ12, hc11, hf⟩ := bd hf
    try dsimp only at hf
    refine cVv C hW (mX6_putBytes hk_a0 hc11) hk_a0 kvX6_putBytes w_464 ⟨(Nat.le_of_ble_eq_true rfl), (Nat.le_of_ble_eq_true rfl)⟩ ⟨Nat.zero_le _, Nat.zero_le _⟩ rfl hl.1 (rest := []) rfl (Nat.le_of_ble_eq_true rfl) dX6_feed_24 (fun H locs hW => ?_)
    refine lv_aload_n C.1.1 C.1.2.1 dX6_feed_27 rfl (lv_at hl 0 rfl) ?_
    refine lv_iload C.1.1 C.1.2.1 dX6_feed_28 (lv_at hl 4 rfl) ?_
    obtain ⟨σ17, hc16, hf⟩ := bd hf
    try dsimp only at hf
    refine cVv C hW (mX6_putBytes hk_a0 hc16) hk_a0 kvX6_putBytes w_464 ⟨(Nat.le_of_ble_eq_true rfl), (Nat.le_of_ble_eq_true rfl)⟩ ⟨Nat.zero_le _, Nat.zero_le _⟩ rfl hl.1 (rest := []) rfl (Nat.le_of_ble_eq_true rfl) dX6_feed_30 (fun H locs hW => ?_)
    refine lv_aload_n C.1.1 C.1.2.1 dX6_feed_33 rfl (lv_at hl 0 rfl) ?_
    refine lv_iload C.1.1 C.1.2.1 dX6_feed_34 (lv_at hl 5 rfl) ?_
    obtain ⟨σ22, hc21, hf⟩ := bd hf
    try dsimp only at hf
    refine cVv C hW (mX6_putBytes hk_a0 hc21) hk_a0 kvX6_putBytes w_464 ⟨(Nat.le_of_ble_eq_true rfl), (Nat.le_of_ble_eq_true rfl)⟩ ⟨Nat.zero_le _, Nat.zero_le _⟩ rfl hl.1 (rest := []) rfl (Nat.le_of_ble_eq_true rfl) dX6_feed_36 (fun H locs hW => ?_)
    refine lv_aload_n C.1.1 C.1.2.1 dX6_feed_39 rfl (lv_at hl 0 rfl) ?_
    refine gf6_1 C hW hk_a0 w_406 dX6_feed_40 ?_
    exact ri hQ C hr hlk hW hf (rok_i _) dX6_feed_43
  · replace hf := (if_neg h9).symm.trans hf
    refine lv_iconst (v := (-1)) C.1.1 C.1.2.1 dX6_feed_10 (by decide) ?_
    exact ri hQ C hr hlk hW hf (rok_i _) dX6_feed_11
theorem kvX6_back : KV 6 "RightKeys" yX6_back cX6_back 2 (some .int) 1 := ⟨⟨w_469, w_470, w_109, w_471⟩, ⟨rfl, by decide, by decide, by decide +kernel⟩, by decide, rfl⟩
noncomputable def fX6_back (a0 : Nat) (p1 : Int32) (σ : Sg) : Option (Int32 × Sg) := if p1 < 0 then (some ((-1 : Int32), σ)) else (if p1 ≤ (σ.1 a0 1) then ((let σ1 := wI σ a0 1 ((σ.1 a0 1) - p1); some ((σ1.1 a0 1), σ1))) else (some ((-1 : Int32), σ)))
set_option maxRecDepth 100000 in
set_option maxHeartbeats 4000000 in
theorem mX6_back {l : Launch} {G : Gm} {a0 : Nat} {p1 : Int32} {σ : Sg} {r : Int32} {σ' : Sg} (hk_a0 : gK G a0 = 7) (hf : fX6_back a0 p1 σ = some (r, σ')) : Mi l G yX6_back cX6_back 2 .int 0 0 [.ref (gB G + a0), .int p1] σ r σ' := by
  refine of_W "RightKeys" rfl (by decide) (Nat.le_of_ble_eq_true rfl) ?_
  intro p e s m args below meth c Q hQ C hr hlk hW ls hl
  have h00 := hW.1
  have hl : lv_has ls 2 [(0, .ref (gB G + a0)), (1, .int p1)] := hl
  delta fX6_back at hf
  refine lv_iload_n C.1.1 C.1.2.1 dX6_back_0 rfl (lv_at hl 1 rfl) ?_
  refine lv_if_lt (tgt := 12) C.1.1 C.1.2.1 dX6_back_1 (by decide) (fun h9 => ?_) (fun h9 => ?_)
  · replace hf := (if_pos h9).symm.trans hf
    refine lv_iconst (v := (-1)) C.1.1 C.1.2.1 dX6_back_12 (by decide) ?_
    exact ri hQ C hr hlk hW hf (rok_i _) dX6_back_13
  · replace hf := (if_neg h9).symm.trans hf
    refine lv_iload_n C.1.1 C.1.2.1 dX6_back_4 rfl (lv_at hl 1 rfl) ?_
    refine lv_aload_n C.1.1 C.1.2.1 dX6_back_5 rfl (lv_at hl 0 rfl) ?_
    refine gf6_1 C hW hk_a0 w_406 dX6_back_6 ?_
    refine lv_icmp_le (tgt := 14) C.1.1 C.1.2.1 dX6_back_9 (by decide) (fun h9 => ?_) (fun h9 => ?_)
    · replace hf := (if_pos h9).symm.trans hf
      refine lv_aload_n C.1.1 C.1.2.1 dX6_back_14 rfl (lv_at hl 0 rfl) ?_
      refine lv_dup C.1.1 C.1.2.1 dX6_back_15 rfl ?_
      refine gf6_1 C hW hk_a0 w_406 dX6_back_16 ?_
      refine lv_iload_n C.1.1 C.1.2.1 dX6_back_19 rfl (lv_at hl 1 rfl) ?_
      refine lv_isub C.1.1 C.1.2.1 dX6_back_20 ?_
      refine pf6_1 C hW hk_a0 w_406 dX6_back_21 (fun H locs hW => ?_)
      refine lv_aload_n C.1.1 C.1.2.1 dX6_back_24 rfl (lv_at hl 0 rfl) ?_
      refine gf6_1 C hW hk_a0 w_406 dX6_back_25 ?_
      exact ri hQ C hr hlk hW hf (rok_i _) dX6_back_28
    · replace hf := (if_neg h9).symm.trans hf
      refine lv_iconst (v := (-1)) C.1.1 C.1.2.1 dX6_back_12 (by decide) ?_
      exact ri hQ C hr hlk hW hf (rok_i _) dX6_back_13
theorem kvX6_takeDraft : KV 6 "RightKeys" yX6_takeDraft cX6_takeDraft 2 none 0 := ⟨⟨w_654, w_20, w_109, w_655⟩, ⟨rfl, by decide, by decide, by decide +kernel⟩, by decide, rfl⟩
noncomputable def fX6_takeDraft (a0 : Nat) (σ : Sg) : Option (Sg) := (let x1_2 := (σ.2.2.1 a0 3); let σ4 := wT σ a0 3 (σ.2.2.1 a0 4); let σ5 := wT σ4 a0 4 x1_2; (fX2_begin (a0 + 31) (σ5.2.2.1 a0 3) σ5).bind (fun σ9 => (let σ13 := wI σ9 a0 11 (0 : Int32); let σ14 := wI σ13 a0 13 (0 : Int32); let σ15 := wI σ14 a0 16 (0 : Int32); let σ16 := wI σ15 a0 15 (0 : Int32); some σ16)))
set_option maxRecDepth 100000 in
set_option maxHeartbeats 4000000 in
theorem mX6_takeDraft {l : Launch} {G : Gm} {a0 : Nat} {σ : Sg} {σ' : Sg} (hk_a0 : gK G a0 = 7) (hf : fX6_takeDraft a0 σ = some σ') : Mv l G yX6_takeDraft cX6_takeDraft 2 2 62 [.ref (gB G + a0)] σ σ' := by
  refine of_W "RightKeys" rfl (by decide) (Nat.le_of_ble_eq_true rfl) ?_
  intro p e s m args below meth c Q hQ C hr hlk hW ls hl
  have h00 := hW.1
  have hl : lv_has ls 2 [(0, .ref (gB G + a0))] := hl
  delta fX6_takeDraft at hf
  refine lv_aload_n C.1.1 C.1.2.1 dX6_takeDraft_0 rfl (lv_at hl 0 rfl) ?_
  have hk1 := sh6_3 hW hk_a0
  refine gf6_3 C hW hk_a0 w_408 dX6_takeDraft_1 ?_
  refine lv_astore_n (lv' := [(1, .ref _), (0, .ref _)]) C.1.1 C.1.2.1 dX6_takeDraft_4 rfl hl (by decide) rfl (fun ls hl => ?_)
  refine lv_aload_n C.1.1 C.1.2.1 dX6_takeDraft_5 rfl (lv_at hl 1 rfl) ?_
  refine lv_aload_n C.1.1 C.1.2.1 dX6_takeDraft_6 rfl (lv_at hl 1 rfl) ?_
  have hk3 := sh6_4 hW hk_a0
  refine gf6_4 C hW hk_a0 w_409 dX6_takeDraft_7 ?_
  refine pf6_3 C hW hk_a0 hk3 w_408 dX6_takeDraft_10 (fun H locs hW => ?_)
  refine lv_aload_n C.1.1 C.1.2.1 dX6_takeDraft_13 rfl (lv_at hl 1 rfl) ?_
  refine lv_aload_n C.1.1 C.1.2.1 dX6_takeDraft_14 rfl (lv_at hl 0 rfl) ?_
  refine pf6_4 C hW hk_a0 hk1 w_409 dX6_takeDraft_15 (fun H locs hW => ?_)
  refine lv_aload_n C.1.1 C.1.2.1 dX6_takeDraft_18 rfl (lv_at hl 1 rfl) ?_
  have hk6 := sh6_6 hW hk_a0
  refine gf6_6 C hW hk_a0 w_411 dX6_takeDraft_19 ?_
  refine lv_aload_n C.1.1 C.1.2.1 dX6_takeDraft_22 rfl (lv_at hl 1 rfl) ?_
  have hk7 := sh6_3 hW hk_a0
  refine gf6_3 C hW hk_a0 w_408 dX6_takeDraft_23 ?_
  obtain ⟨σ9, hc8, hf⟩ := bd hf
  try dsimp only at hf
  refine cVv C hW (mX2_begin hk6 hk7 hc8) hk6 kvX2_begin w_656 ⟨(Nat.le_of_ble_eq_true rfl), (Nat.le_of_ble_eq_true rfl)⟩ ⟨Nat.zero_le _, Nat.zero_le _⟩ rfl hl.1 (rest := []) rfl (Nat.le_of_ble_eq_true rfl) dX6_takeDraft_26 (fun H locs hW => ?_)
  refine lv_aload_n C.1.1 C.1.2.1 dX6_takeDraft_29 rfl (lv_at hl 1 rfl) ?_
  refine lv_iconst (v := 0) C.1.1 C.1.2.1 dX6_takeDraft_30 (by decide) ?_
  refine pf6_11 C hW hk_a0 w_416 dX6_takeDraft_31 (fun H locs hW => ?_)
  refine lv_aload_n C.1.1 C.1.2.1 dX6_takeDraft_34 rfl (lv_at hl 1 rfl) ?_
  refine lv_iconst (v := 0) C.1.1 C.1.2.1 dX6_takeDraft_35 (by decide) ?_
  refine pf6_13 C hW hk_a0 w_418 dX6_takeDraft_36 (fun H locs hW => ?_)
  refine lv_aload_n C.1.1 C.1.2.1 dX6_takeDraft_39 rfl (lv_at hl 1 rfl) ?_
  refine lv_iconst (v := 0) C.1.1 C.1.2.1 dX6_takeDraft_40 (by decide) ?_
  refine pf6_16 C hW hk_a0 w_421 dX6_takeDraft_41 (fun H locs hW => ?_)
  refine lv_aload_n C.1.1 C.1.2.1 dX6_takeDraft_44 rfl (lv_at hl 1 rfl) ?_
  refine lv_iconst (v := 0) C.1.1 C.1.2.1 dX6_takeDraft_45 (by decide) ?_
  refine pf6_15 C hW hk_a0 w_420 dX6_takeDraft_46 (fun H locs hW => ?_)
  exact rv hQ C hr hlk hW hf dX6_takeDraft_49
theorem kvX6_place : KV 6 "RightKeys" yX6_place cX6_place 1 (some .int) 0 := ⟨⟨w_667, w_668, w_109, w_669⟩, ⟨rfl, by decide, by decide, by decide +kernel⟩, by decide, rfl⟩
noncomputable def fX6_place (a0 : Nat) (σ : Sg) : Option (Int32 × Sg) := some ((σ.1 a0 2), σ)
set_option maxRecDepth 100000 in
set_option maxHeartbeats 4000000 in
theorem mX6_place {l : Launch} {G : Gm} {a0 : Nat} {σ : Sg} {r : Int32} {σ' : Sg} (hk_a0 : gK G a0 = 7) (hf : fX6_place a0 σ = some (r, σ')) : Mi l G yX6_place cX6_place 1 .int 0 0 [.ref (gB G + a0)] σ r σ' := by
  refine of_W "RightKeys" rfl (by decide) (Nat.le_of_ble_eq_true rfl) ?_
  intro p e s m args below meth c Q hQ C hr hlk hW ls hl
  have h00 := hW.1
  have hl : lv_has ls 1 [(0, .ref (gB G + a0))] := hl
  delta fX6_place at hf
  refine lv_aload_n C.1.1 C.1.2.1 dX6_place_0 rfl (lv_at hl 0 rfl) ?_
  refine gf6_2 C hW hk_a0 w_407 dX6_place_1 ?_
  exact ri hQ C hr hlk hW hf (rok_i _) dX6_place_4
theorem kvX6_isHouse : KV 6 "RightKeys" yX6_isHouse cX6_isHouse 2 (some .boolean) 1 := ⟨⟨w_676, w_21, w_109, w_677⟩, ⟨rfl, by decide, by decide, by decide +kernel⟩, by decide, rfl⟩
noncomputable def fX6_isHouse (a0 : Nat) (p1 : Int32) (σ : Sg) : Option (Int32 × Sg) := if p1 < 0 then (some ((0 : Int32), σ)) else (if (σ.1 (σ.2.2.1 a0 3) 0) ≤ p1 then (some ((0 : Int32), σ)) else (some ((1 : Int32), σ)))
set_option maxRecDepth 100000 in
set_option maxHeartbeats 4000000 in
theorem mX6_isHouse {l : Launch} {G : Gm} {a0 : Nat} {p1 : Int32} {σ : Sg} {r : Int32} {σ' : Sg} (hk_a0 : gK G a0 = 7) (hf : fX6_isHouse a0 p1 σ = some (r, σ')) : Mi l G yX6_isHouse cX6_isHouse 2 .boolean 0 0 [.ref (gB G + a0), .int p1] σ r σ' := by
  refine of_W "RightKeys" rfl (by decide) (Nat.le_of_ble_eq_true rfl) ?_
  intro p e s m args below meth c Q hQ C hr hlk hW ls hl
  have h00 := hW.1
  have hl : lv_has ls 2 [(0, .ref (gB G + a0)), (1, .int p1)] := hl
  delta fX6_isHouse at hf
  refine lv_iload_n C.1.1 C.1.2.1 dX6_isHouse_0 rfl (lv_at hl 1 rfl) ?_
  refine lv_if_lt (tgt := 19) C.1.1 C.1.2.1 dX6_isHouse_1 (by decide) (fun h9 => ?_) (fun h9 => ?_)
  · replace hf := (if_pos h9).symm.trans hf
    refine lv_iconst (v := 0) C.1.1 C.1.2.1 dX6_isHouse_19 (by decide) ?_
    exact ri hQ C hr hlk hW hf (rok_z (Or.inl rfl)) dX6_isHouse_20
  · replace hf := (if_neg h9).symm.trans hf
    refine lv_iload_n C.1.1 C.1.2.1 dX6_isHouse_4 rfl (lv_at hl 1 rfl) ?_
    refine lv_aload_n C.1.1 C.1.2.1 dX6_isHouse_5 rfl (lv_at hl 0 rfl) ?_
    have hk1 := sh6_3 hW hk_a0
    refine gf6_3 C hW hk_a0 w_408 dX6_isHouse_6 ?_
    refine gf3_0 C hW hk1 w_182 dX6_isHouse_9 ?_
    refine lv_icmp_ge (tgt := 19) C.1.1 C.1.2.1 dX6_isHouse_12 (by decide) (fun h9 => ?_) (fun h9 => ?_)
    · replace hf := (if_pos h9).symm.trans hf
      refine lv_iconst (v := 0) C.1.1 C.1.2.1 dX6_isHouse_19 (by decide) ?_
      exact ri hQ C hr hlk hW hf (rok_z (Or.inl rfl)) dX6_isHouse_20
    · replace hf := (if_neg h9).symm.trans hf
      refine lv_iconst (v := 1) C.1.1 C.1.2.1 dX6_isHouse_15 (by decide) ?_
      refine lv_goto (tgt := 20) C.1.1 C.1.2.1 dX6_isHouse_16 (by decide) ?_
      exact ri hQ C hr hlk hW hf (rok_z (Or.inr rfl)) dX6_isHouse_20
theorem kvX6_house : KV 6 "RightKeys" yX6_house cX6_house 3 (some .int) 2 := ⟨⟨w_671, w_672, w_109, w_673⟩, ⟨rfl, by decide, by decide, by decide +kernel⟩, by decide, rfl⟩
noncomputable def fX6_house (a0 : Nat) (p1 : Int32) (p2 : Int32) (σ : Sg) : Option (Int32 × Sg) := (fX6_isHouse a0 p1 σ).bind (fun q5 => let r3 := q5.1; let σ2 := q5.2; if r3 = 0 then (some ((-1 : Int32), σ2)) else (if p2 = 0 then (if vin p1 8 then (some ((σ2.1 ((a0 + 31) + 1) ((p1).toNatClampNeg)), σ2)) else none) else (if p2 = 1 then (if vin p1 8 then (some ((σ2.1 ((a0 + 31) + 2) ((p1).toNatClampNeg)), σ2)) else none) else (if p2 = 2 then (if vin p1 8 then (some ((σ2.1 ((a0 + 31) + 3) ((p1).toNatClampNeg)), σ2)) else none) else (if p2 = 3 then ((fX2_whereIs (a0 + 31) p1 σ2).bind (fun q24 => let r22 := q24.1; let σ21 := q24.2; some (r22, σ21))) else (if p2 = 4 then (if vin p1 8 then (some ((σ2.1 ((a0 + 31) + 5) ((p1).toNatClampNeg)), σ2)) else none) else (if p2 = 5 then ((fX6_bit (σ2.1 (a0 + 31) 4) p1 σ2).bind (fun q35 => let r33 := q35.1; let σ32 := q35.2; some (r33, σ32))) else (if p2 = 6 then ((fX6_bit (σ2.1 (σ2.2.2.1 a0 3) 2) p1 σ2).bind (fun q42 => let r40 := q42.1; let σ39 := q42.2; some (r40, σ39))) else (if p2 = 7 then (if vin p1 8 then (some ((σ2.1 ((a0 + 31) + 4) ((p1).toNatClampNeg)), σ2)) else none) else (if p2 = 8 then ((fX6_bit (σ2.1 (a0 + 31) 5) p1 σ2).bind (fun q53 => let r51 := q53.1; let σ50 := q53.2; some (r51, σ50))) else (if p2 = 9 then ((fX2_rentOf (a0 + 31) p1 σ2).bind (fun q60 => let r58 := q60.1; let σ57 := q60.2; some (r58, σ57))) else ((some ((-1 : Int32), σ2))))))))))))))
set_option maxRecDepth 100000 in
set_option maxHeartbeats 4000000 in
theorem mX6_house {l : Launch} {G : Gm} {a0 : Nat} {p1 : Int32} {p2 : Int32} {σ : Sg} {r : Int32} {σ' : Sg} (hk_a0 : gK G a0 = 7) (hf : fX6_house a0 p1 p2 σ = some (r, σ')) : Mi l G yX6_house cX6_house 3 .int 3 88 [.ref (gB G + a0), .int p1, .int p2] σ r σ' := by
  refine of_W "RightKeys" rfl (by decide) (Nat.le_of_ble_eq_true rfl) ?_
  intro p e s m args below meth c Q hQ C hr hlk hW ls hl
  have h00 := hW.1
  have hl : lv_has ls 3 [(0, .ref (gB G + a0)), (1, .int p1), (2, .int p2)] := hl
  delta fX6_house at hf
  refine lv_aload_n C.1.1 C.1.2.1 dX6_house_0 rfl (lv_at hl 0 rfl) ?_
  refine lv_iload_n C.1.1 C.1.2.1 dX6_house_1 rfl (lv_at hl 1 rfl) ?_
  obtain ⟨⟨r3, σ2⟩, hc1, hf⟩ := bd hf
  try dsimp only at hf
  refine cVi C hW (mX6_isHouse hk_a0 hc1) hk_a0 kvX6_isHouse w_674 ⟨(Nat.le_of_ble_eq_true rfl), (Nat.le_of_ble_eq_true rfl)⟩ ⟨Nat.zero_le _, Nat.zero_le _⟩ rfl hl.1 (rest := []) rfl (Nat.le_of_ble_eq_true rfl) dX6_house_2 (fun H locs hn4 hW => ?_)
  refine lv_if_ne (tgt := 10) C.1.1 C.1.2.1 dX6_house_5 (by decide) (fun h9 => ?_) (fun h9 => ?_)
  · replace hf := (if_neg h9).symm.trans hf
    refine lv_iload_n C.1.1 C.1.2.1 dX6_house_10 rfl (lv_at hl 2 rfl) ?_
    refine sw_c (k := 0) (fun hs6 => ?_) (fun hs6 => ?_)
    · replace hf := (if_pos hs6).symm.trans hf
      refine lv_tableIn (tgt := 64) C.1.1 C.1.2.1 dX6_house_11 (by rw [hs6]; decide) (by rw [hs6]; decide) (off := 53) (by rw [hs6]; rfl) (by decide) ?_
      refine lv_aload_n C.1.1 C.1.2.1 dX6_house_64 rfl (lv_at hl 0 rfl) ?_
      have hk7 := sh6_6 hW hk_a0
      refine gf6_6 C hW hk_a0 w_411 dX6_house_65 ?_
      have hk8 := sh2_12 hW hk7
      refine gf2_12 C hW hk7 w_321 dX6_house_68 ?_
      refine lv_iload_n C.1.1 C.1.2.1 dX6_house_71 rfl (lv_at hl 1 rfl) ?_
      obtain ⟨hv9, hf⟩ := gd hf
      refine wai C hW hk8 (vin_p hv9) dX6_house_72 ?_
      exact ri hQ C hr hlk hW hf (rok_i _) dX6_house_73
    · replace hf := (if_neg hs6).symm.trans hf
      refine sw_c (k := 1) (fun hs10 => ?_) (fun hs10 => ?_)
      · replace hf := (if_pos hs10).symm.trans hf
        refine lv_tableIn (tgt := 74) C.1.1 C.1.2.1 dX6_house_11 (by rw [hs10]; decide) (by rw [hs10]; decide) (off := 63) (by rw [hs10]; rfl) (by decide) ?_
        refine lv_aload_n C.1.1 C.1.2.1 dX6_house_74 rfl (lv_at hl 0 rfl) ?_
        have hk11 := sh6_6 hW hk_a0
        refine gf6_6 C hW hk_a0 w_411 dX6_house_75 ?_
        have hk12 := sh2_13 hW hk11
        refine gf2_13 C hW hk11 w_323 dX6_house_78 ?_
        refine lv_iload_n C.1.1 C.1.2.1 dX6_house_81 rfl (lv_at hl 1 rfl) ?_
        obtain ⟨hv13, hf⟩ := gd hf
        refine wai C hW hk12 (vin_p hv13) dX6_house_82 ?_
        exact ri hQ C hr hlk hW hf (rok_i _) dX6_house_83
      · replace hf := (if_neg hs10).symm.trans hf
        refine sw_c (k := 2) (fun hs14 => ?_) (fun hs14 => ?_)
        · replace hf := (if_pos hs14).symm.trans hf
          refine lv_tableIn (tgt := 84) C.1.1 C.1.2.1 dX6_house_11 (by rw [hs14]; decide) (by rw [hs14]; decide) (off := 73) (by rw [hs14]; rfl) (by decide) ?_
          refine lv_aload_n C.1.1 C.1.2.1 dX6_house_84 rfl (lv_at hl 0 rfl) ?_
          have hk15 := sh6_6 hW hk_a0
          refine gf6_6 C hW hk_a0 w_411 dX6_house_85 ?_
          have hk16 := sh2_14 hW hk15
          refine gf2_14 C hW hk15 w_325 dX6_house_88 ?_
          refine lv_iload_n C.1.1 C.1.2.1 dX6_house_91 rfl (lv_at hl 1 rfl) ?_
          obtain ⟨hv17, hf⟩ := gd hf
          refine wai C hW hk16 (vin_p hv17) dX6_house_92 ?_
          exact ri hQ C hr hlk hW hf (rok_i _) dX6_house_93
        · replace hf := (if_neg hs14).symm.trans hf
          refine sw_c (k := 3) (fun hs18 => ?_) (fun hs18 => ?_)
          · replace hf := (if_pos hs18).symm.trans hf
            refine lv_tableIn (tgt := 94) C.1.1 C.1.2.1 dX6_house_11 (by rw [hs18]; decide) (by rw [hs18]; decide) (off := 83) (by rw [hs18]; rfl) (by decide) ?_
            refine lv_aload_n C.1.1 C.1.2.1 dX6_house_94 rfl (lv_at hl 0 rfl) ?_
            have hk19 := sh6_6 hW hk_a0
            refine gf6_6 C hW hk_a0 w_411 dX6_house_95 ?_
            refine lv_iload_n C.1.1 C.1.2.1 dX6_house_98 rfl (lv_at hl 1 rfl) ?_
            obtain ⟨⟨r22, σ21⟩, hc20, hf⟩ := bd hf
            try dsimp only at hf
            refine cVi C hW (mX2_whereIs hk19 hc20) hk19 kvX2_whereIs w_678 ⟨(Nat.le_of_ble_eq_true rfl), (Nat.le_of_ble_eq_true rfl)⟩ ⟨Nat.zero_le _, Nat.zero_le _⟩ rfl hl.1 (rest := []) rfl (Nat.le_of_ble_eq_true rfl) dX6_house_99 (fun H locs hn23 hW => ?_)
            exact ri hQ C hr hlk hW hf (rok_i _) dX6_house_102
          · replace hf := (if_neg hs18).symm.trans hf
            refine sw_c (k := 4) (fun hs25 => ?_) (fun hs25 => ?_)
            · replace hf := (if_pos hs25).symm.trans hf
              refine lv_tableIn (tgt := 103) C.1.1 C.1.2.1 dX6_house_11 (by rw [hs25]; decide) (by rw [hs25]; decide) (off := 92) (by rw [hs25]; rfl) (by decide) ?_
              refine lv_aload_n C.1.1 C.1.2.1 dX6_house_103 rfl (lv_at hl 0 rfl) ?_
              have hk26 := sh6_6 hW hk_a0
              refine gf6_6 C hW hk_a0 w_411 dX6_house_104 ?_
              have hk27 := sh2_16 hW hk26
              refine gf2_16 C hW hk26 w_329 dX6_house_107 ?_
              refine lv_iload_n C.1.1 C.1.2.1 dX6_house_110 rfl (lv_at hl 1 rfl) ?_
              obtain ⟨hv28, hf⟩ := gd hf
              refine wai C hW hk27 (vin_p hv28) dX6_house_111 ?_
              exact ri hQ C hr hlk hW hf (rok_i _) dX6_house_112
            · replace hf := (if_neg hs25).symm.trans hf
              refine sw_c (k := 5) (fun hs29 => ?_) (fun hs29 => ?_)
              · replace hf := (if_pos hs29).symm.trans hf
                refine lv_tableIn (tgt := 113) C.1.1 C.1.2.1 dX6_house_11 (by rw [hs29]; decide) (by rw [hs29]; decide) (off := 102) (by rw [hs29]; rfl) (by decide) ?_
                refine lv_aload_n C.1.1 C.1.2.1 dX6_house_113 rfl (lv_at hl 0 rfl) ?_
                have hk30 := sh6_6 hW hk_a0
                refine gf6_6 C hW hk_a0 w_411 dX6_house_114 ?_
                refine gf2_4 C hW hk30 w_306 dX6_house_117 ?_
                refine lv_iload_n C.1.1 C.1.2.1 dX6_house_120 rfl (lv_at hl 1 rfl) ?_
                obtain ⟨⟨r33, σ32⟩, hc31, hf⟩ := bd hf
                try dsimp only at hf
                refine cSi C hW (mX6_bit hc31) ksX6_bit w_683 ⟨(Nat.le_of_ble_eq_true rfl), (Nat.le_of_ble_eq_true rfl)⟩ ⟨Nat.zero_le _, Nat.zero_le _⟩ rfl hl.1 (rest := []) rfl (Nat.le_of_ble_eq_true rfl) dX6_house_121 (fun H locs hn34 hW => ?_)
                exact ri hQ C hr hlk hW hf (rok_i _) dX6_house_124
              · replace hf := (if_neg hs29).symm.trans hf
                refine sw_c (k := 6) (fun hs36 => ?_) (fun hs36 => ?_)
                · replace hf := (if_pos hs36).symm.trans hf
                  refine lv_tableIn (tgt := 125) C.1.1 C.1.2.1 dX6_house_11 (by rw [hs36]; decide) (by rw [hs36]; decide) (off := 114) (by rw [hs36]; rfl) (by decide) ?_
                  refine lv_aload_n C.1.1 C.1.2.1 dX6_house_125 rfl (lv_at hl 0 rfl) ?_
                  have hk37 := sh6_3 hW hk_a0
                  refine gf6_3 C hW hk_a0 w_408 dX6_house_126 ?_
                  refine gf3_2 C hW hk37 w_189 dX6_house_129 ?_
                  refine lv_iload_n C.1.1 C.1.2.1 dX6_house_132 rfl (lv_at hl 1 rfl) ?_
                  obtain ⟨⟨r40, σ39⟩, hc38, hf⟩ := bd hf
                  try dsimp only at hf
                  refine cSi C hW (mX6_bit hc38) ksX6_bit w_683 ⟨(Nat.le_of_ble_eq_true rfl), (Nat.le_of_ble_eq_true rfl)⟩ ⟨Nat.zero_le _, Nat.zero_le _⟩ rfl hl.1 (rest := []) rfl (Nat.le_of_ble_eq_true rfl) dX6_house_133 (fun H locs hn41 hW => ?_)
                  exact ri hQ C hr hlk hW hf (rok_i _) dX6_house_136
                · replace hf := (if_neg hs36).symm.trans hf
                  refine sw_c (k := 7) (fun hs43 => ?_) (fun hs43 => ?_)
                  · replace hf := (if_pos hs43).symm.trans hf
                    refine lv_tableIn (tgt := 137) C.1.1 C.1.2.1 dX6_house_11 (by rw [hs43]; decide) (by rw [hs43]; decide) (off := 126) (by rw [hs43]; rfl) (by decide) ?_
                    refine lv_aload_n C.1.1 C.1.2.1 dX6_house_137 rfl (lv_at hl 0 rfl) ?_
                    have hk44 := sh6_6 hW hk_a0
                    refine gf6_6 C hW hk_a0 w_411 dX6_house_138 ?_
                    have hk45 := sh2_15 hW hk44
                    refine gf2_15 C hW hk44 w_327 dX6_house_141 ?_
                    refine lv_iload_n C.1.1 C.1.2.1 dX6_house_144 rfl (lv_at hl 1 rfl) ?_
                    obtain ⟨hv46, hf⟩ := gd hf
                    refine wai C hW hk45 (vin_p hv46) dX6_house_145 ?_
                    exact ri hQ C hr hlk hW hf (rok_i _) dX6_house_146
                  · replace hf := (if_neg hs43).symm.trans hf
                    refine sw_c (k := 8) (fun hs47 => ?_) (fun hs47 => ?_)
                    · replace hf := (if_pos hs47).symm.trans hf
                      refine lv_tableIn (tgt := 147) C.1.1 C.1.2.1 dX6_house_11 (by rw [hs47]; decide) (by rw [hs47]; decide) (off := 136) (by rw [hs47]; rfl) (by decide) ?_
                      refine lv_aload_n C.1.1 C.1.2.1 dX6_house_147 rfl (lv_at hl 0 rfl) ?_
                      have hk48 := sh6_6 hW hk_a0
                      refine gf6_6 C hW hk_a0 w_411 dX6_house_148 ?_
                      refine gf2_5 C hW hk48 w_308 dX6_house_151 ?_
                      refine lv_iload_n C.1.1 C.1.2.1 dX6_house_154 rfl (lv_at hl 1 rfl) ?_
                      obtain ⟨⟨r51, σ50⟩, hc49, hf⟩ := bd hf
                      try dsimp only at hf
                      refine cSi C hW (mX6_bit hc49) ksX6_bit w_683 ⟨(Nat.le_of_ble_eq_true rfl), (Nat.le_of_ble_eq_true rfl)⟩ ⟨Nat.zero_le _, Nat.zero_le _⟩ rfl hl.1 (rest := []) rfl (Nat.le_of_ble_eq_true rfl) dX6_house_155 (fun H locs hn52 hW => ?_)
                      exact ri hQ C hr hlk hW hf (rok_i _) dX6_house_158
                    · replace hf := (if_neg hs47).symm.trans hf
                      refine sw_c (k := 9) (fun hs54 => ?_) (fun hs54 => ?_)
                      · replace hf := (if_pos hs54).symm.trans hf
                        refine lv_tableIn (tgt := 159) C.1.1 C.1.2.1 dX6_house_11 (by rw [hs54]; decide) (by rw [hs54]; decide) (off := 148) (by rw [hs54]; rfl) (by decide) ?_
                        refine lv_aload_n C.1.1 C.1.2.1 dX6_house_159 rfl (lv_at hl 0 rfl) ?_
                        have hk55 := sh6_6 hW hk_a0
                        refine gf6_6 C hW hk_a0 w_411 dX6_house_160 ?_
                        refine lv_iload_n C.1.1 C.1.2.1 dX6_house_163 rfl (lv_at hl 1 rfl) ?_
                        obtain ⟨⟨r58, σ57⟩, hc56, hf⟩ := bd hf
                        try dsimp only at hf
                        refine cVi C hW (mX2_rentOf hk55 hc56) hk55 kvX2_rentOf w_684 ⟨(Nat.le_of_ble_eq_true rfl), (Nat.le_of_ble_eq_true rfl)⟩ ⟨Nat.zero_le _, Nat.zero_le _⟩ rfl hl.1 (rest := []) rfl (Nat.le_of_ble_eq_true rfl) dX6_house_164 (fun H locs hn59 hW => ?_)
                        exact ri hQ C hr hlk hW hf (rok_i _) dX6_house_167
                      · replace hf := (if_neg hs54).symm.trans hf
                        refine lv_tableOut (tgt := 168) C.1.1 C.1.2.1 dX6_house_11 (by have := sw_n 0 (by decide) hs6; have := sw_n 1 (by decide) hs10; have := sw_n 2 (by decide) hs14; have := sw_n 3 (by decide) hs18; have := sw_n 4 (by decide) hs25; have := sw_n 5 (by decide) hs29; have := sw_n 6 (by decide) hs36; have := sw_n 7 (by decide) hs43; have := sw_n 8 (by decide) hs47; have := sw_n 9 (by decide) hs54; omega) (by decide) ?_
                        refine lv_iconst (v := (-1)) C.1.1 C.1.2.1 dX6_house_168 (by decide) ?_
                        exact ri hQ C hr hlk hW hf (rok_i _) dX6_house_169
  · replace hf := (if_pos h9).symm.trans hf
    refine lv_iconst (v := (-1)) C.1.1 C.1.2.1 dX6_house_8 (by decide) ?_
    exact ri hQ C hr hlk hW hf (rok_i _) dX6_house_9
theorem kvX6_isSpare : KV 6 "RightKeys" yX6_isSpare cX6_isSpare 2 (some .boolean) 1 := ⟨⟨w_716, w_23, w_109, w_717⟩, ⟨rfl, by decide, by decide, by decide +kernel⟩, by decide, rfl⟩
noncomputable def fX6_isSpare (a0 : Nat) (p1 : Int32) (σ : Sg) : Option (Int32 × Sg) := if p1 < 0 then (some ((0 : Int32), σ)) else (if (σ.1 (σ.2.2.1 a0 3) 1) ≤ p1 then (some ((0 : Int32), σ)) else (some ((1 : Int32), σ)))
set_option maxRecDepth 100000 in
set_option maxHeartbeats 4000000 in
theorem mX6_isSpare {l : Launch} {G : Gm} {a0 : Nat} {p1 : Int32} {σ : Sg} {r : Int32} {σ' : Sg} (hk_a0 : gK G a0 = 7) (hf : fX6_isSpare a0 p1 σ = some (r, σ')) : Mi l G yX6_isSpare cX6_isSpare 2 .boolean 0 0 [.ref (gB G + a0), .int p1] σ r σ' := by
  refine of_W "RightKeys" rfl (by decide) (Nat.le_of_ble_eq_true rfl) ?_
  intro p e s m args below meth c Q hQ C hr hlk hW ls hl
  have h00 := hW.1
  have hl : lv_has ls 2 [(0, .ref (gB G + a0)), (1, .int p1)] := hl
  delta fX6_isSpare at hf
  refine lv_iload_n C.1.1 C.1.2.1 dX6_isSpare_0 rfl (lv_at hl 1 rfl) ?_
  refine lv_if_lt (tgt := 19) C.1.1 C.1.2.1 dX6_isSpare_1 (by decide) (fun h9 => ?_) (fun h9 => ?_)
  · replace hf := (if_pos h9).symm.trans hf
    refine lv_iconst (v := 0) C.1.1 C.1.2.1 dX6_isSpare_19 (by decide) ?_
    exact ri hQ C hr hlk hW hf (rok_z (Or.inl rfl)) dX6_isSpare_20
  · replace hf := (if_neg h9).symm.trans hf
    refine lv_iload_n C.1.1 C.1.2.1 dX6_isSpare_4 rfl (lv_at hl 1 rfl) ?_
    refine lv_aload_n C.1.1 C.1.2.1 dX6_isSpare_5 rfl (lv_at hl 0 rfl) ?_
    have hk1 := sh6_3 hW hk_a0
    refine gf6_3 C hW hk_a0 w_408 dX6_isSpare_6 ?_
    refine gf3_1 C hW hk1 w_186 dX6_isSpare_9 ?_
    refine lv_icmp_ge (tgt := 19) C.1.1 C.1.2.1 dX6_isSpare_12 (by decide) (fun h9 => ?_) (fun h9 => ?_)
    · replace hf := (if_pos h9).symm.trans hf
      refine lv_iconst (v := 0) C.1.1 C.1.2.1 dX6_isSpare_19 (by decide) ?_
      exact ri hQ C hr hlk hW hf (rok_z (Or.inl rfl)) dX6_isSpare_20
    · replace hf := (if_neg h9).symm.trans hf
      refine lv_iconst (v := 1) C.1.1 C.1.2.1 dX6_isSpare_15 (by decide) ?_
      refine lv_goto (tgt := 20) C.1.1 C.1.2.1 dX6_isSpare_16 (by decide) ?_
      exact ri hQ C hr hlk hW hf (rok_z (Or.inr rfl)) dX6_isSpare_20
theorem kvX6_spare : KV 6 "RightKeys" yX6_spare cX6_spare 3 (some .int) 2 := ⟨⟨w_711, w_712, w_109, w_713⟩, ⟨rfl, by decide, by decide, by decide +kernel⟩, by decide, rfl⟩
noncomputable def fX6_spare (a0 : Nat) (p1 : Int32) (p2 : Int32) (σ : Sg) : Option (Int32 × Sg) := (fX6_isSpare a0 p1 σ).bind (fun q5 => let r3 := q5.1; let σ2 := q5.2; if r3 = 0 then (some ((-1 : Int32), σ2)) else (if p2 = 0 then (if vin p1 6 then (some ((σ2.1 ((σ2.2.2.1 a0 3) + 5) ((p1).toNatClampNeg)), σ2)) else none) else (if p2 = 1 then (if vin p1 6 then (some ((σ2.1 ((a0 + 31) + 7) ((p1).toNatClampNeg)), σ2)) else none) else (if p2 = 2 then (if vin p1 6 then (some ((σ2.1 ((a0 + 31) + 8) ((p1).toNatClampNeg)), σ2)) else none) else ((some ((-1 : Int32), σ2)))))))
set_option maxRecDepth 100000 in
set_option maxHeartbeats 4000000 in
theorem mX6_spare {l : Launch} {G : Gm} {a0 : Nat} {p1 : Int32} {p2 : Int32} {σ : Sg} {r : Int32} {σ' : Sg} (hk_a0 : gK G a0 = 7) (hf : fX6_spare a0 p1 p2 σ = some (r, σ')) : Mi l G yX6_spare cX6_spare 3 .int 1 21 [.ref (gB G + a0), .int p1, .int p2] σ r σ' := by
  refine of_W "RightKeys" rfl (by decide) (Nat.le_of_ble_eq_true rfl) ?_
  intro p e s m args below meth c Q hQ C hr hlk hW ls hl
  have h00 := hW.1
  have hl : lv_has ls 3 [(0, .ref (gB G + a0)), (1, .int p1), (2, .int p2)] := hl
  delta fX6_spare at hf
  refine lv_aload_n C.1.1 C.1.2.1 dX6_spare_0 rfl (lv_at hl 0 rfl) ?_
  refine lv_iload_n C.1.1 C.1.2.1 dX6_spare_1 rfl (lv_at hl 1 rfl) ?_
  obtain ⟨⟨r3, σ2⟩, hc1, hf⟩ := bd hf
  try dsimp only at hf
  refine cVi C hW (mX6_isSpare hk_a0 hc1) hk_a0 kvX6_isSpare w_714 ⟨(Nat.le_of_ble_eq_true rfl), (Nat.le_of_ble_eq_true rfl)⟩ ⟨Nat.zero_le _, Nat.zero_le _⟩ rfl hl.1 (rest := []) rfl (Nat.le_of_ble_eq_true rfl) dX6_spare_2 (fun H locs hn4 hW => ?_)
  refine lv_if_ne (tgt := 10) C.1.1 C.1.2.1 dX6_spare_5 (by decide) (fun h9 => ?_) (fun h9 => ?_)
  · replace hf := (if_neg h9).symm.trans hf
    refine lv_iload_n C.1.1 C.1.2.1 dX6_spare_10 rfl (lv_at hl 2 rfl) ?_
    refine sw_c (k := 0) (fun hs6 => ?_) (fun hs6 => ?_)
    · replace hf := (if_pos hs6).symm.trans hf
      refine lv_tableIn (tgt := 36) C.1.1 C.1.2.1 dX6_spare_11 (by rw [hs6]; decide) (by rw [hs6]; decide) (off := 25) (by rw [hs6]; rfl) (by decide) ?_
      refine lv_aload_n C.1.1 C.1.2.1 dX6_spare_36 rfl (lv_at hl 0 rfl) ?_
      have hk7 := sh6_3 hW hk_a0
      refine gf6_3 C hW hk_a0 w_408 dX6_spare_37 ?_
      have hk8 := sh3_8 hW hk7
      refine gf3_8 C hW hk7 w_208 dX6_spare_40 ?_
      refine lv_iload_n C.1.1 C.1.2.1 dX6_spare_43 rfl (lv_at hl 1 rfl) ?_
      obtain ⟨hv9, hf⟩ := gd hf
      refine wai C hW hk8 (vin_p hv9) dX6_spare_44 ?_
      exact ri hQ C hr hlk hW hf (rok_i _) dX6_spare_45
    · replace hf := (if_neg hs6).symm.trans hf
      refine sw_c (k := 1) (fun hs10 => ?_) (fun hs10 => ?_)
      · replace hf := (if_pos hs10).symm.trans hf
        refine lv_tableIn (tgt := 46) C.1.1 C.1.2.1 dX6_spare_11 (by rw [hs10]; decide) (by rw [hs10]; decide) (off := 35) (by rw [hs10]; rfl) (by decide) ?_
        refine lv_aload_n C.1.1 C.1.2.1 dX6_spare_46 rfl (lv_at hl 0 rfl) ?_
        have hk11 := sh6_6 hW hk_a0
        refine gf6_6 C hW hk_a0 w_411 dX6_spare_47 ?_
        have hk12 := sh2_18 hW hk11
        refine gf2_18 C hW hk11 w_333 dX6_spare_50 ?_
        refine lv_iload_n C.1.1 C.1.2.1 dX6_spare_53 rfl (lv_at hl 1 rfl) ?_
        obtain ⟨hv13, hf⟩ := gd hf
        refine wai C hW hk12 (vin_p hv13) dX6_spare_54 ?_
        exact ri hQ C hr hlk hW hf (rok_i _) dX6_spare_55
      · replace hf := (if_neg hs10).symm.trans hf
        refine sw_c (k := 2) (fun hs14 => ?_) (fun hs14 => ?_)
        · replace hf := (if_pos hs14).symm.trans hf
          refine lv_tableIn (tgt := 56) C.1.1 C.1.2.1 dX6_spare_11 (by rw [hs14]; decide) (by rw [hs14]; decide) (off := 45) (by rw [hs14]; rfl) (by decide) ?_
          refine lv_aload_n C.1.1 C.1.2.1 dX6_spare_56 rfl (lv_at hl 0 rfl) ?_
          have hk15 := sh6_6 hW hk_a0
          refine gf6_6 C hW hk_a0 w_411 dX6_spare_57 ?_
          have hk16 := sh2_19 hW hk15
          refine gf2_19 C hW hk15 w_335 dX6_spare_60 ?_
          refine lv_iload_n C.1.1 C.1.2.1 dX6_spare_63 rfl (lv_at hl 1 rfl) ?_
          obtain ⟨hv17, hf⟩ := gd hf
          refine wai C hW hk16 (vin_p hv17) dX6_spare_64 ?_
          exact ri hQ C hr hlk hW hf (rok_i _) dX6_spare_65
        · replace hf := (if_neg hs14).symm.trans hf
          refine lv_tableOut (tgt := 66) C.1.1 C.1.2.1 dX6_spare_11 (by have := sw_n 0 (by decide) hs6; have := sw_n 1 (by decide) hs10; have := sw_n 2 (by decide) hs14; omega) (by decide) ?_
          refine lv_iconst (v := (-1)) C.1.1 C.1.2.1 dX6_spare_66 (by decide) ?_
          exact ri hQ C hr hlk hW hf (rok_i _) dX6_spare_67
  · replace hf := (if_pos h9).symm.trans hf
    refine lv_iconst (v := (-1)) C.1.1 C.1.2.1 dX6_spare_8 (by decide) ?_
    exact ri hQ C hr hlk hW hf (rok_i _) dX6_spare_9
theorem kvX6_lets : KV 6 "RightKeys" yX6_lets cX6_lets 3 (some .int) 2 := ⟨⟨w_719, w_720, w_109, w_721⟩, ⟨rfl, by decide, by decide, by decide +kernel⟩, by decide, rfl⟩
noncomputable def fX6_lets (a0 : Nat) (p1 : Int32) (p2 : Int32) (σ : Sg) : Option (Int32 × Sg) := (fX6_isHouse a0 p1 σ).bind (fun q5 => let r3 := q5.1; let σ2 := q5.2; if r3 = 0 then (some ((-1 : Int32), σ2)) else ((fX6_isHouse a0 p2 σ2).bind (fun q10 => let r8 := q10.1; let σ7 := q10.2; if r8 = 0 then (some ((-1 : Int32), σ7)) else (if p1 = p2 then (some ((-1 : Int32), σ7)) else ((fX2_wouldLetIn (a0 + 31) p1 p2 σ7).bind (fun q16 => let r14 := q16.1; let σ13 := q16.2; if r14 = 0 then (some ((0 : Int32), σ13)) else (some ((1 : Int32), σ13))))))))
set_option maxRecDepth 100000 in
set_option maxHeartbeats 4000000 in
theorem mX6_lets {l : Launch} {G : Gm} {a0 : Nat} {p1 : Int32} {p2 : Int32} {σ : Sg} {r : Int32} {σ' : Sg} (hk_a0 : gK G a0 = 7) (hf : fX6_lets a0 p1 p2 σ = some (r, σ')) : Mi l G yX6_lets cX6_lets 3 .int 3 87 [.ref (gB G + a0), .int p1, .int p2] σ r σ' := by
  refine of_W "RightKeys" rfl (by decide) (Nat.le_of_ble_eq_true rfl) ?_
  intro p e s m args below meth c Q hQ C hr hlk hW ls hl
  have h00 := hW.1
  have hl : lv_has ls 3 [(0, .ref (gB G + a0)), (1, .int p1), (2, .int p2)] := hl
  delta fX6_lets at hf
  refine lv_aload_n C.1.1 C.1.2.1 dX6_lets_0 rfl (lv_at hl 0 rfl) ?_
  refine lv_iload_n C.1.1 C.1.2.1 dX6_lets_1 rfl (lv_at hl 1 rfl) ?_
  obtain ⟨⟨r3, σ2⟩, hc1, hf⟩ := bd hf
  try dsimp only at hf
  refine cVi C hW (mX6_isHouse hk_a0 hc1) hk_a0 kvX6_isHouse w_674 ⟨(Nat.le_of_ble_eq_true rfl), (Nat.le_of_ble_eq_true rfl)⟩ ⟨Nat.zero_le _, Nat.zero_le _⟩ rfl hl.1 (rest := []) rfl (Nat.le_of_ble_eq_true rfl) dX6_lets_2 (fun H locs hn4 hW => ?_)
  refine lv_if_eq (tgt := 21) C.1.1 C.1.2.1 dX6_lets_5 (by decide) (fun h9 => ?_) (fun h9 => ?_)
  · replace hf := (if_pos h9).symm.trans hf
    refine lv_iconst (v := (-1)) C.1.1 C.1.2.1 dX6_lets_21 (by decide) ?_
    exact ri hQ C hr hlk hW hf (rok_i _) dX6_lets_22
  · replace hf := (if_neg h9).symm.trans hf
    refine lv_aload_n C.1.1 C.1.2.1 dX6_lets_8 rfl (lv_at hl 0 rfl) ?_
    refine lv_iload_n C.1.1 C.1.2.1 dX6_lets_9 rfl (lv_at hl 2 rfl) ?_
    obtain ⟨⟨r8, σ7⟩, hc6, hf⟩ := bd hf
    try dsimp only at hf
    refine cVi C hW (mX6_isHouse hk_a0 hc6) hk_a0 kvX6_isHouse w_674 ⟨(Nat.le_of_ble_eq_true rfl), (Nat.le_of_ble_eq_true rfl)⟩ ⟨Nat.zero_le _, Nat.zero_le _⟩ rfl hl.1 (rest := []) rfl (Nat.le_of_ble_eq_true rfl) dX6_lets_10 (fun H locs hn9 hW => ?_)
    refine lv_if_eq (tgt := 21) C.1.1 C.1.2.1 dX6_lets_13 (by decide) (fun h9 => ?_) (fun h9 => ?_)
    · replace hf := (if_pos h9).symm.trans hf
      refine lv_iconst (v := (-1)) C.1.1 C.1.2.1 dX6_lets_21 (by decide) ?_
      exact ri hQ C hr hlk hW hf (rok_i _) dX6_lets_22
    · replace hf := (if_neg h9).symm.trans hf
      refine lv_iload_n C.1.1 C.1.2.1 dX6_lets_16 rfl (lv_at hl 1 rfl) ?_
      refine lv_iload_n C.1.1 C.1.2.1 dX6_lets_17 rfl (lv_at hl 2 rfl) ?_
      refine lv_icmp_ne (tgt := 23) C.1.1 C.1.2.1 dX6_lets_18 (by decide) (fun h9 => ?_) (fun h9 => ?_)
      · replace hf := (if_neg h9).symm.trans hf
        refine lv_aload_n C.1.1 C.1.2.1 dX6_lets_23 rfl (lv_at hl 0 rfl) ?_
        have hk11 := sh6_6 hW hk_a0
        refine gf6_6 C hW hk_a0 w_411 dX6_lets_24 ?_
        refine lv_iload_n C.1.1 C.1.2.1 dX6_lets_27 rfl (lv_at hl 1 rfl) ?_
        refine lv_iload_n C.1.1 C.1.2.1 dX6_lets_28 rfl (lv_at hl 2 rfl) ?_
        obtain ⟨⟨r14, σ13⟩, hc12, hf⟩ := bd hf
        try dsimp only at hf
        refine cVi C hW (mX2_wouldLetIn hk11 hc12) hk11 kvX2_wouldLetIn w_722 ⟨(Nat.le_of_ble_eq_true rfl), (Nat.le_of_ble_eq_true rfl)⟩ ⟨Nat.zero_le _, Nat.zero_le _⟩ rfl hl.1 (rest := []) rfl (Nat.le_of_ble_eq_true rfl) dX6_lets_29 (fun H locs hn15 hW => ?_)
        refine lv_if_eq (tgt := 39) C.1.1 C.1.2.1 dX6_lets_32 (by decide) (fun h9 => ?_) (fun h9 => ?_)
        · replace hf := (if_pos h9).symm.trans hf
          refine lv_iconst (v := 0) C.1.1 C.1.2.1 dX6_lets_39 (by decide) ?_
          exact ri hQ C hr hlk hW hf (rok_i _) dX6_lets_40
        · replace hf := (if_neg h9).symm.trans hf
          refine lv_iconst (v := 1) C.1.1 C.1.2.1 dX6_lets_35 (by decide) ?_
          refine lv_goto (tgt := 40) C.1.1 C.1.2.1 dX6_lets_36 (by decide) ?_
          exact ri hQ C hr hlk hW hf (rok_i _) dX6_lets_40
      · replace hf := (if_pos h9).symm.trans hf
        refine lv_iconst (v := (-1)) C.1.1 C.1.2.1 dX6_lets_21 (by decide) ?_
        exact ri hQ C hr hlk hW hf (rok_i _) dX6_lets_22
theorem kvX6_openers : KV 6 "RightKeys" yX6_openers cX6_openers 2 (some .int) 1 := ⟨⟨w_727, w_728, w_109, w_729⟩, ⟨rfl, by decide, by decide, by decide +kernel⟩, by decide, rfl⟩
noncomputable def fX6_openers (a0 : Nat) (p1 : Int32) (σ : Sg) : Option (Int32 × Sg) := (fX6_isHouse a0 p1 σ).bind (fun q5 => let r3 := q5.1; let σ2 := q5.2; if r3 = 0 then (some ((-1 : Int32), σ2)) else ((fX2_openersOf (a0 + 31) p1 σ2).bind (fun q11 => let r9 := q11.1; let σ8 := q11.2; some (r9, σ8))))
set_option maxRecDepth 100000 in
set_option maxHeartbeats 4000000 in
theorem mX6_openers {l : Launch} {G : Gm} {a0 : Nat} {p1 : Int32} {σ : Sg} {r : Int32} {σ' : Sg} (hk_a0 : gK G a0 = 7) (hf : fX6_openers a0 p1 σ = some (r, σ')) : Mi l G yX6_openers cX6_openers 2 .int 3 66 [.ref (gB G + a0), .int p1] σ r σ' := by
  refine of_W "RightKeys" rfl (by decide) (Nat.le_of_ble_eq_true rfl) ?_
  intro p e s m args below meth c Q hQ C hr hlk hW ls hl
  have h00 := hW.1
  have hl : lv_has ls 2 [(0, .ref (gB G + a0)), (1, .int p1)] := hl
  delta fX6_openers at hf
  refine lv_aload_n C.1.1 C.1.2.1 dX6_openers_0 rfl (lv_at hl 0 rfl) ?_
  refine lv_iload_n C.1.1 C.1.2.1 dX6_openers_1 rfl (lv_at hl 1 rfl) ?_
  obtain ⟨⟨r3, σ2⟩, hc1, hf⟩ := bd hf
  try dsimp only at hf
  refine cVi C hW (mX6_isHouse hk_a0 hc1) hk_a0 kvX6_isHouse w_674 ⟨(Nat.le_of_ble_eq_true rfl), (Nat.le_of_ble_eq_true rfl)⟩ ⟨Nat.zero_le _, Nat.zero_le _⟩ rfl hl.1 (rest := []) rfl (Nat.le_of_ble_eq_true rfl) dX6_openers_2 (fun H locs hn4 hW => ?_)
  refine lv_if_eq (tgt := 19) C.1.1 C.1.2.1 dX6_openers_5 (by decide) (fun h9 => ?_) (fun h9 => ?_)
  · replace hf := (if_pos h9).symm.trans hf
    refine lv_iconst (v := (-1)) C.1.1 C.1.2.1 dX6_openers_19 (by decide) ?_
    exact ri hQ C hr hlk hW hf (rok_i _) dX6_openers_20
  · replace hf := (if_neg h9).symm.trans hf
    refine lv_aload_n C.1.1 C.1.2.1 dX6_openers_8 rfl (lv_at hl 0 rfl) ?_
    have hk6 := sh6_6 hW hk_a0
    refine gf6_6 C hW hk_a0 w_411 dX6_openers_9 ?_
    refine lv_iload_n C.1.1 C.1.2.1 dX6_openers_12 rfl (lv_at hl 1 rfl) ?_
    obtain ⟨⟨r9, σ8⟩, hc7, hf⟩ := bd hf
    try dsimp only at hf
    refine cVi C hW (mX2_openersOf hk6 hc7) hk6 kvX2_openersOf w_730 ⟨(Nat.le_of_ble_eq_true rfl), (Nat.le_of_ble_eq_true rfl)⟩ ⟨Nat.zero_le _, Nat.zero_le _⟩ rfl hl.1 (rest := []) rfl (Nat.le_of_ble_eq_true rfl) dX6_openers_13 (fun H locs hn10 hW => ?_)
    refine lv_goto (tgt := 20) C.1.1 C.1.2.1 dX6_openers_16 (by decide) ?_
    exact ri hQ C hr hlk hW hf (rok_i _) dX6_openers_20
theorem kvX6_by : KV 6 "RightKeys" yX6_by cX6_by 2 (some .int) 1 := ⟨⟨w_751, w_752, w_109, w_753⟩, ⟨rfl, by decide, by decide, by decide +kernel⟩, by decide, rfl⟩
noncomputable def fX6_by (a0 : Nat) (p1 : Int32) (σ : Sg) : Option (Int32 × Sg) := (fX6_isHouse a0 p1 σ).bind (fun q5 => let r3 := q5.1; let σ2 := q5.2; if r3 = 0 then (some ((-1 : Int32), σ2)) else (if vin p1 8 then (some ((σ2.1 ((a0 + 31) + 6) ((p1).toNatClampNeg)), σ2)) else none))
set_option maxRecDepth 100000 in
set_option maxHeartbeats 4000000 in
theorem mX6_by {l : Launch} {G : Gm} {a0 : Nat} {p1 : Int32} {σ : Sg} {r : Int32} {σ' : Sg} (hk_a0 : gK G a0 = 7) (hf : fX6_by a0 p1 σ = some (r, σ')) : Mi l G yX6_by cX6_by 2 .int 1 21 [.ref (gB G + a0), .int p1] σ r σ' := by
  refine of_W "RightKeys" rfl (by decide) (Nat.le_of_ble_eq_true rfl) ?_
  intro p e s m args below meth c Q hQ C hr hlk hW ls hl
  have h00 := hW.1
  have hl : lv_has ls 2 [(0, .ref (gB G + a0)), (1, .int p1)] := hl
  delta fX6_by at hf
  refine lv_aload_n C.1.1 C.1.2.1 dX6_by_0 rfl (lv_at hl 0 rfl) ?_
  refine lv_iload_n C.1.1 C.1.2.1 dX6_by_1 rfl (lv_at hl 1 rfl) ?_
  obtain ⟨⟨r3, σ2⟩, hc1, hf⟩ := bd hf
  try dsimp only at hf
  refine cVi C hW (mX6_isHouse hk_a0 hc1) hk_a0 kvX6_isHouse w_674 ⟨(Nat.le_of_ble_eq_true rfl), (Nat.le_of_ble_eq_true rfl)⟩ ⟨Nat.zero_le _, Nat.zero_le _⟩ rfl hl.1 (rest := []) rfl (Nat.le_of_ble_eq_true rfl) dX6_by_2 (fun H locs hn4 hW => ?_)
  refine lv_if_eq (tgt := 20) C.1.1 C.1.2.1 dX6_by_5 (by decide) (fun h9 => ?_) (fun h9 => ?_)
  · replace hf := (if_pos h9).symm.trans hf
    refine lv_iconst (v := (-1)) C.1.1 C.1.2.1 dX6_by_20 (by decide) ?_
    exact ri hQ C hr hlk hW hf (rok_i _) dX6_by_21
  · replace hf := (if_neg h9).symm.trans hf
    refine lv_aload_n C.1.1 C.1.2.1 dX6_by_8 rfl (lv_at hl 0 rfl) ?_
    have hk6 := sh6_6 hW hk_a0
    refine gf6_6 C hW hk_a0 w_411 dX6_by_9 ?_
    have hk7 := sh2_17 hW hk6
    refine gf2_17 C hW hk6 w_331 dX6_by_12 ?_
    refine lv_iload_n C.1.1 C.1.2.1 dX6_by_15 rfl (lv_at hl 1 rfl) ?_
    obtain ⟨hv8, hf⟩ := gd hf
    refine wai C hW hk7 (vin_p hv8) dX6_by_16 ?_
    refine lv_goto (tgt := 21) C.1.1 C.1.2.1 dX6_by_17 (by decide) ?_
    exact ri hQ C hr hlk hW hf (rok_i _) dX6_by_21
theorem kvX6_allHouses : KV 6 "RightKeys" yX6_allHouses cX6_allHouses 1 (some .int) 0 := ⟨⟨w_760, w_28, w_109, w_761⟩, ⟨rfl, by decide, by decide, by decide +kernel⟩, by decide, rfl⟩
noncomputable def fX6_allHouses (a0 : Nat) (σ : Sg) : Option (Int32 × Sg) := some ((((1 : Int32) <<< ((σ.1 (σ.2.2.1 a0 3) 0) &&& 31)) - (1 : Int32)), σ)
set_option maxRecDepth 100000 in
set_option maxHeartbeats 4000000 in
theorem mX6_allHouses {l : Launch} {G : Gm} {a0 : Nat} {σ : Sg} {r : Int32} {σ' : Sg} (hk_a0 : gK G a0 = 7) (hf : fX6_allHouses a0 σ = some (r, σ')) : Mi l G yX6_allHouses cX6_allHouses 1 .int 0 0 [.ref (gB G + a0)] σ r σ' := by
  refine of_W "RightKeys" rfl (by decide) (Nat.le_of_ble_eq_true rfl) ?_
  intro p e s m args below meth c Q hQ C hr hlk hW ls hl
  have h00 := hW.1
  have hl : lv_has ls 1 [(0, .ref (gB G + a0))] := hl
  delta fX6_allHouses at hf
  refine lv_iconst (v := 1) C.1.1 C.1.2.1 dX6_allHouses_0 (by decide) ?_
  refine lv_aload_n C.1.1 C.1.2.1 dX6_allHouses_1 rfl (lv_at hl 0 rfl) ?_
  have hk1 := sh6_3 hW hk_a0
  refine gf6_3 C hW hk_a0 w_408 dX6_allHouses_2 ?_
  refine gf3_0 C hW hk1 w_182 dX6_allHouses_5 ?_
  refine lv_ishl C.1.1 C.1.2.1 dX6_allHouses_8 ?_
  refine lv_iconst (v := 1) C.1.1 C.1.2.1 dX6_allHouses_9 (by decide) ?_
  refine lv_isub C.1.1 C.1.2.1 dX6_allHouses_10 ?_
  exact ri hQ C hr hlk hW hf (rok_i _) dX6_allHouses_11
theorem kvX6_count : KV 6 "RightKeys" yX6_count cX6_count 2 (some .int) 1 := ⟨⟨w_755, w_756, w_109, w_757⟩, ⟨rfl, by decide, by decide, by decide +kernel⟩, by decide, rfl⟩
noncomputable def fX6_count (a0 : Nat) (p1 : Int32) (σ : Sg) : Option (Int32 × Sg) := if p1 = 0 then (some ((σ.1 (σ.2.2.1 a0 3) 0), σ)) else (if p1 = 1 then (some ((σ.1 (σ.2.2.1 a0 3) 1), σ)) else (if p1 = 2 then (some ((σ.1 (a0 + 31) 1), σ)) else (if p1 = 3 then (some ((irem (σ.1 (a0 + 31) 1) (24 : Int32)), σ)) else (if p1 = 4 then (some ((σ.1 (a0 + 31) 2), σ)) else (if p1 = 5 then ((fX6_allHouses a0 σ).bind (fun q16 => let r14 := q16.1; let σ13 := q16.2; some ((r14 &&& (((σ13.1 (a0 + 31) 2) ||| (σ13.1 (a0 + 31) 3)) ^^^ (-1 : Int32))), σ13))) else (if p1 = 6 then (some ((σ.1 (a0 + 31) 3), σ)) else (if p1 = 7 then (some ((σ.1 (a0 + 31) 9), σ)) else (if p1 = 8 then (some ((σ.1 (a0 + 31) 4), σ)) else (if p1 = 9 then (some ((σ.1 a0 1), σ)) else (if p1 = 10 then (some ((σ.1 a0 11), σ)) else (if p1 = 11 then (some ((σ.1 a0 16), σ)) else (if p1 = 12 then ((fJ6_bitCount_0f7a4 (σ.1 a0 13) σ).bind (fun q33 => let r31 := q33.1; let σ30 := q33.2; some (r31, σ30))) else (if p1 = 13 then (some ((σ.1 (a0 + 31) 10), σ)) else (if p1 = 14 then (some ((σ.1 (a0 + 31) 11), σ)) else (if p1 = 15 then ((fX2_sparesWithGoal (a0 + 31) σ).bind (fun q44 => let r42 := q44.1; let σ41 := q44.2; some (r42, σ41))) else (if p1 = 16 then ((fX2_rentOfAll (a0 + 31) σ).bind (fun q51 => let r49 := q51.1; let σ48 := q51.2; some (r49, σ48))) else ((some ((-1 : Int32), σ)))))))))))))))))))
set_option maxRecDepth 100000 in
set_option maxHeartbeats 4000000 in
theorem mX6_count {l : Launch} {G : Gm} {a0 : Nat} {p1 : Int32} {σ : Sg} {r : Int32} {σ' : Sg} (hk_a0 : gK G a0 = 7) (hf : fX6_count a0 p1 σ = some (r, σ')) : Mi l G yX6_count cX6_count 2 .int 4 110 [.ref (gB G + a0), .int p1] σ r σ' := by
  refine of_W "RightKeys" rfl (by decide) (Nat.le_of_ble_eq_true rfl) ?_
  intro p e s m args below meth c Q hQ C hr hlk hW ls hl
  have h00 := hW.1
  have hl : lv_has ls 2 [(0, .ref (gB G + a0)), (1, .int p1)] := hl
  delta fX6_count at hf
  refine lv_iload_n C.1.1 C.1.2.1 dX6_count_0 rfl (lv_at hl 1 rfl) ?_
  refine sw_c (k := 0) (fun hs1 => ?_) (fun hs1 => ?_)
  · replace hf := (if_pos hs1).symm.trans hf
    refine lv_tableIn (tgt := 84) C.1.1 C.1.2.1 dX6_count_1 (by rw [hs1]; decide) (by rw [hs1]; decide) (off := 83) (by rw [hs1]; rfl) (by decide) ?_
    refine lv_aload_n C.1.1 C.1.2.1 dX6_count_84 rfl (lv_at hl 0 rfl) ?_
    have hk2 := sh6_3 hW hk_a0
    refine gf6_3 C hW hk_a0 w_408 dX6_count_85 ?_
    refine gf3_0 C hW hk2 w_182 dX6_count_88 ?_
    exact ri hQ C hr hlk hW hf (rok_i _) dX6_count_91
  · replace hf := (if_neg hs1).symm.trans hf
    refine sw_c (k := 1) (fun hs3 => ?_) (fun hs3 => ?_)
    · replace hf := (if_pos hs3).symm.trans hf
      refine lv_tableIn (tgt := 92) C.1.1 C.1.2.1 dX6_count_1 (by rw [hs3]; decide) (by rw [hs3]; decide) (off := 91) (by rw [hs3]; rfl) (by decide) ?_
      refine lv_aload_n C.1.1 C.1.2.1 dX6_count_92 rfl (lv_at hl 0 rfl) ?_
      have hk4 := sh6_3 hW hk_a0
      refine gf6_3 C hW hk_a0 w_408 dX6_count_93 ?_
      refine gf3_1 C hW hk4 w_186 dX6_count_96 ?_
      exact ri hQ C hr hlk hW hf (rok_i _) dX6_count_99
    · replace hf := (if_neg hs3).symm.trans hf
      refine sw_c (k := 2) (fun hs5 => ?_) (fun hs5 => ?_)
      · replace hf := (if_pos hs5).symm.trans hf
        refine lv_tableIn (tgt := 100) C.1.1 C.1.2.1 dX6_count_1 (by rw [hs5]; decide) (by rw [hs5]; decide) (off := 99) (by rw [hs5]; rfl) (by decide) ?_
        refine lv_aload_n C.1.1 C.1.2.1 dX6_count_100 rfl (lv_at hl 0 rfl) ?_
        have hk6 := sh6_6 hW hk_a0
        refine gf6_6 C hW hk_a0 w_411 dX6_count_101 ?_
        refine gf2_1 C hW hk6 w_299 dX6_count_104 ?_
        exact ri hQ C hr hlk hW hf (rok_i _) dX6_count_107
      · replace hf := (if_neg hs5).symm.trans hf
        refine sw_c (k := 3) (fun hs7 => ?_) (fun hs7 => ?_)
        · replace hf := (if_pos hs7).symm.trans hf
          refine lv_tableIn (tgt := 108) C.1.1 C.1.2.1 dX6_count_1 (by rw [hs7]; decide) (by rw [hs7]; decide) (off := 107) (by rw [hs7]; rfl) (by decide) ?_
          refine lv_aload_n C.1.1 C.1.2.1 dX6_count_108 rfl (lv_at hl 0 rfl) ?_
          have hk8 := sh6_6 hW hk_a0
          refine gf6_6 C hW hk_a0 w_411 dX6_count_109 ?_
          refine gf2_1 C hW hk8 w_299 dX6_count_112 ?_
          refine lv_bipush (v := 24) C.1.1 C.1.2.1 dX6_count_115 (by decide) ?_
          refine lv_irem C.1.1 C.1.2.1 dX6_count_117 (by decide) ?_
          exact ri hQ C hr hlk hW hf (rok_i _) dX6_count_118
        · replace hf := (if_neg hs7).symm.trans hf
          refine sw_c (k := 4) (fun hs9 => ?_) (fun hs9 => ?_)
          · replace hf := (if_pos hs9).symm.trans hf
            refine lv_tableIn (tgt := 119) C.1.1 C.1.2.1 dX6_count_1 (by rw [hs9]; decide) (by rw [hs9]; decide) (off := 118) (by rw [hs9]; rfl) (by decide) ?_
            refine lv_aload_n C.1.1 C.1.2.1 dX6_count_119 rfl (lv_at hl 0 rfl) ?_
            have hk10 := sh6_6 hW hk_a0
            refine gf6_6 C hW hk_a0 w_411 dX6_count_120 ?_
            refine gf2_2 C hW hk10 w_301 dX6_count_123 ?_
            exact ri hQ C hr hlk hW hf (rok_i _) dX6_count_126
          · replace hf := (if_neg hs9).symm.trans hf
            refine sw_c (k := 5) (fun hs11 => ?_) (fun hs11 => ?_)
            · replace hf := (if_pos hs11).symm.trans hf
              refine lv_tableIn (tgt := 127) C.1.1 C.1.2.1 dX6_count_1 (by rw [hs11]; decide) (by rw [hs11]; decide) (off := 126) (by rw [hs11]; rfl) (by decide) ?_
              refine lv_aload_n C.1.1 C.1.2.1 dX6_count_127 rfl (lv_at hl 0 rfl) ?_
              obtain ⟨⟨r14, σ13⟩, hc12, hf⟩ := bd hf
              try dsimp only at hf
              refine cVi C hW (mX6_allHouses hk_a0 hc12) hk_a0 kvX6_allHouses w_758 ⟨(Nat.le_of_ble_eq_true rfl), (Nat.le_of_ble_eq_true rfl)⟩ ⟨Nat.zero_le _, Nat.zero_le _⟩ rfl hl.1 (rest := []) rfl (Nat.le_of_ble_eq_true rfl) dX6_count_128 (fun H locs hn15 hW => ?_)
              refine lv_aload_n C.1.1 C.1.2.1 dX6_count_131 rfl (lv_at hl 0 rfl) ?_
              have hk17 := sh6_6 hW hk_a0
              refine gf6_6 C hW hk_a0 w_411 dX6_count_132 ?_
              refine gf2_2 C hW hk17 w_301 dX6_count_135 ?_
              refine lv_aload_n C.1.1 C.1.2.1 dX6_count_138 rfl (lv_at hl 0 rfl) ?_
              have hk18 := sh6_6 hW hk_a0
              refine gf6_6 C hW hk_a0 w_411 dX6_count_139 ?_
              refine gf2_3 C hW hk18 w_304 dX6_count_142 ?_
              refine lv_ior C.1.1 C.1.2.1 dX6_count_145 ?_
              refine lv_iconst (v := (-1)) C.1.1 C.1.2.1 dX6_count_146 (by decide) ?_
              refine lv_ixor C.1.1 C.1.2.1 dX6_count_147 ?_
              refine lv_iand C.1.1 C.1.2.1 dX6_count_148 ?_
              exact ri hQ C hr hlk hW hf (rok_i _) dX6_count_149
            · replace hf := (if_neg hs11).symm.trans hf
              refine sw_c (k := 6) (fun hs19 => ?_) (fun hs19 => ?_)
              · replace hf := (if_pos hs19).symm.trans hf
                refine lv_tableIn (tgt := 150) C.1.1 C.1.2.1 dX6_count_1 (by rw [hs19]; decide) (by rw [hs19]; decide) (off := 149) (by rw [hs19]; rfl) (by decide) ?_
                refine lv_aload_n C.1.1 C.1.2.1 dX6_count_150 rfl (lv_at hl 0 rfl) ?_
                have hk20 := sh6_6 hW hk_a0
                refine gf6_6 C hW hk_a0 w_411 dX6_count_151 ?_
                refine gf2_3 C hW hk20 w_304 dX6_count_154 ?_
                exact ri hQ C hr hlk hW hf (rok_i _) dX6_count_157
              · replace hf := (if_neg hs19).symm.trans hf
                refine sw_c (k := 7) (fun hs21 => ?_) (fun hs21 => ?_)
                · replace hf := (if_pos hs21).symm.trans hf
                  refine lv_tableIn (tgt := 158) C.1.1 C.1.2.1 dX6_count_1 (by rw [hs21]; decide) (by rw [hs21]; decide) (off := 157) (by rw [hs21]; rfl) (by decide) ?_
                  refine lv_aload_n C.1.1 C.1.2.1 dX6_count_158 rfl (lv_at hl 0 rfl) ?_
                  have hk22 := sh6_6 hW hk_a0
                  refine gf6_6 C hW hk_a0 w_411 dX6_count_159 ?_
                  refine gf2_9 C hW hk22 w_315 dX6_count_162 ?_
                  exact ri hQ C hr hlk hW hf (rok_i _) dX6_count_165
                · replace hf := (if_neg hs21).symm.trans hf
                  refine sw_c (k := 8) (fun hs23 => ?_) (fun hs23 => ?_)
                  · replace hf := (if_pos hs23).symm.trans hf
                    refine lv_tableIn (tgt := 166) C.1.1 C.1.2.1 dX6_count_1 (by rw [hs23]; decide) (by rw [hs23]; decide) (off := 165) (by rw [hs23]; rfl) (by decide) ?_
                    refine lv_aload_n C.1.1 C.1.2.1 dX6_count_166 rfl (lv_at hl 0 rfl) ?_
                    have hk24 := sh6_6 hW hk_a0
                    refine gf6_6 C hW hk_a0 w_411 dX6_count_167 ?_
                    refine gf2_4 C hW hk24 w_306 dX6_count_170 ?_
                    exact ri hQ C hr hlk hW hf (rok_i _) dX6_count_173
                  · replace hf := (if_neg hs23).symm.trans hf
                    refine sw_c (k := 9) (fun hs25 => ?_) (fun hs25 => ?_)
                    · replace hf := (if_pos hs25).symm.trans hf
                      refine lv_tableIn (tgt := 174) C.1.1 C.1.2.1 dX6_count_1 (by rw [hs25]; decide) (by rw [hs25]; decide) (off := 173) (by rw [hs25]; rfl) (by decide) ?_
                      refine lv_aload_n C.1.1 C.1.2.1 dX6_count_174 rfl (lv_at hl 0 rfl) ?_
                      refine gf6_1 C hW hk_a0 w_406 dX6_count_175 ?_
                      exact ri hQ C hr hlk hW hf (rok_i _) dX6_count_178
                    · replace hf := (if_neg hs25).symm.trans hf
                      refine sw_c (k := 10) (fun hs26 => ?_) (fun hs26 => ?_)
                      · replace hf := (if_pos hs26).symm.trans hf
                        refine lv_tableIn (tgt := 179) C.1.1 C.1.2.1 dX6_count_1 (by rw [hs26]; decide) (by rw [hs26]; decide) (off := 178) (by rw [hs26]; rfl) (by decide) ?_
                        refine lv_aload_n C.1.1 C.1.2.1 dX6_count_179 rfl (lv_at hl 0 rfl) ?_
                        refine gf6_11 C hW hk_a0 w_416 dX6_count_180 ?_
                        exact ri hQ C hr hlk hW hf (rok_i _) dX6_count_183
                      · replace hf := (if_neg hs26).symm.trans hf
                        refine sw_c (k := 11) (fun hs27 => ?_) (fun hs27 => ?_)
                        · replace hf := (if_pos hs27).symm.trans hf
                          refine lv_tableIn (tgt := 184) C.1.1 C.1.2.1 dX6_count_1 (by rw [hs27]; decide) (by rw [hs27]; decide) (off := 183) (by rw [hs27]; rfl) (by decide) ?_
                          refine lv_aload_n C.1.1 C.1.2.1 dX6_count_184 rfl (lv_at hl 0 rfl) ?_
                          refine gf6_16 C hW hk_a0 w_421 dX6_count_185 ?_
                          exact ri hQ C hr hlk hW hf (rok_i _) dX6_count_188
                        · replace hf := (if_neg hs27).symm.trans hf
                          refine sw_c (k := 12) (fun hs28 => ?_) (fun hs28 => ?_)
                          · replace hf := (if_pos hs28).symm.trans hf
                            refine lv_tableIn (tgt := 189) C.1.1 C.1.2.1 dX6_count_1 (by rw [hs28]; decide) (by rw [hs28]; decide) (off := 188) (by rw [hs28]; rfl) (by decide) ?_
                            refine lv_aload_n C.1.1 C.1.2.1 dX6_count_189 rfl (lv_at hl 0 rfl) ?_
                            refine gf6_13 C hW hk_a0 w_418 dX6_count_190 ?_
                            obtain ⟨⟨r31, σ30⟩, hc29, hf⟩ := bd hf
                            try dsimp only at hf
                            refine cSi C hW (mJ6_bitCount_0f7a4 hc29) ksJ6_bitCount_0f7a4 w_762 ⟨(Nat.le_of_ble_eq_true rfl), (Nat.le_of_ble_eq_true rfl)⟩ ⟨Nat.zero_le _, Nat.zero_le _⟩ rfl hl.1 (rest := []) rfl (Nat.le_of_ble_eq_true rfl) dX6_count_193 (fun H locs hn32 hW => ?_)
                            exact ri hQ C hr hlk hW hf (rok_i _) dX6_count_196
                          · replace hf := (if_neg hs28).symm.trans hf
                            refine sw_c (k := 13) (fun hs34 => ?_) (fun hs34 => ?_)
                            · replace hf := (if_pos hs34).symm.trans hf
                              refine lv_tableIn (tgt := 197) C.1.1 C.1.2.1 dX6_count_1 (by rw [hs34]; decide) (by rw [hs34]; decide) (off := 196) (by rw [hs34]; rfl) (by decide) ?_
                              refine lv_aload_n C.1.1 C.1.2.1 dX6_count_197 rfl (lv_at hl 0 rfl) ?_
                              have hk35 := sh6_6 hW hk_a0
                              refine gf6_6 C hW hk_a0 w_411 dX6_count_198 ?_
                              refine gf2_10 C hW hk35 w_317 dX6_count_201 ?_
                              exact ri hQ C hr hlk hW hf (rok_i _) dX6_count_204
                            · replace hf := (if_neg hs34).symm.trans hf
                              refine sw_c (k := 14) (fun hs36 => ?_) (fun hs36 => ?_)
                              · replace hf := (if_pos hs36).symm.trans hf
                                refine lv_tableIn (tgt := 205) C.1.1 C.1.2.1 dX6_count_1 (by rw [hs36]; decide) (by rw [hs36]; decide) (off := 204) (by rw [hs36]; rfl) (by decide) ?_
                                refine lv_aload_n C.1.1 C.1.2.1 dX6_count_205 rfl (lv_at hl 0 rfl) ?_
                                have hk37 := sh6_6 hW hk_a0
                                refine gf6_6 C hW hk_a0 w_411 dX6_count_206 ?_
                                refine gf2_11 C hW hk37 w_319 dX6_count_209 ?_
                                exact ri hQ C hr hlk hW hf (rok_i _) dX6_count_212
                              · replace hf := (if_neg hs36).symm.trans hf
                                refine sw_c (k := 15) (fun hs38 => ?_) (fun hs38 => ?_)
                                · replace hf := (if_pos hs38).symm.trans hf
                                  refine lv_tableIn (tgt := 213) C.1.1 C.1.2.1 dX6_count_1 (by rw [hs38]; decide) (by rw [hs38]; decide) (off := 212) (by rw [hs38]; rfl) (by decide) ?_
                                  refine lv_aload_n C.1.1 C.1.2.1 dX6_count_213 rfl (lv_at hl 0 rfl) ?_
                                  have hk39 := sh6_6 hW hk_a0
                                  refine gf6_6 C hW hk_a0 w_411 dX6_count_214 ?_
                                  obtain ⟨⟨r42, σ41⟩, hc40, hf⟩ := bd hf
                                  try dsimp only at hf
                                  refine cVi C hW (mX2_sparesWithGoal hk39 hc40) hk39 kvX2_sparesWithGoal w_763 ⟨(Nat.le_of_ble_eq_true rfl), (Nat.le_of_ble_eq_true rfl)⟩ ⟨Nat.zero_le _, Nat.zero_le _⟩ rfl hl.1 (rest := []) rfl (Nat.le_of_ble_eq_true rfl) dX6_count_217 (fun H locs hn43 hW => ?_)
                                  exact ri hQ C hr hlk hW hf (rok_i _) dX6_count_220
                                · replace hf := (if_neg hs38).symm.trans hf
                                  refine sw_c (k := 16) (fun hs45 => ?_) (fun hs45 => ?_)
                                  · replace hf := (if_pos hs45).symm.trans hf
                                    refine lv_tableIn (tgt := 221) C.1.1 C.1.2.1 dX6_count_1 (by rw [hs45]; decide) (by rw [hs45]; decide) (off := 220) (by rw [hs45]; rfl) (by decide) ?_
                                    refine lv_aload_n C.1.1 C.1.2.1 dX6_count_221 rfl (lv_at hl 0 rfl) ?_
                                    have hk46 := sh6_6 hW hk_a0
                                    refine gf6_6 C hW hk_a0 w_411 dX6_count_222 ?_
                                    obtain ⟨⟨r49, σ48⟩, hc47, hf⟩ := bd hf
                                    try dsimp only at hf
                                    refine cVi C hW (mX2_rentOfAll hk46 hc47) hk46 kvX2_rentOfAll w_767 ⟨(Nat.le_of_ble_eq_true rfl), (Nat.le_of_ble_eq_true rfl)⟩ ⟨Nat.zero_le _, Nat.zero_le _⟩ rfl hl.1 (rest := []) rfl (Nat.le_of_ble_eq_true rfl) dX6_count_225 (fun H locs hn50 hW => ?_)
                                    exact ri hQ C hr hlk hW hf (rok_i _) dX6_count_228
                                  · replace hf := (if_neg hs45).symm.trans hf
                                    refine lv_tableOut (tgt := 229) C.1.1 C.1.2.1 dX6_count_1 (by have := sw_n 0 (by decide) hs1; have := sw_n 1 (by decide) hs3; have := sw_n 2 (by decide) hs5; have := sw_n 3 (by decide) hs7; have := sw_n 4 (by decide) hs9; have := sw_n 5 (by decide) hs11; have := sw_n 6 (by decide) hs19; have := sw_n 7 (by decide) hs21; have := sw_n 8 (by decide) hs23; have := sw_n 9 (by decide) hs25; have := sw_n 10 (by decide) hs26; have := sw_n 11 (by decide) hs27; have := sw_n 12 (by decide) hs28; have := sw_n 13 (by decide) hs34; have := sw_n 14 (by decide) hs36; have := sw_n 15 (by decide) hs38; have := sw_n 16 (by decide) hs45; omega) (by decide) ?_
                                    refine lv_iconst (v := (-1)) C.1.1 C.1.2.1 dX6_count_229 (by decide) ?_
                                    exact ri hQ C hr hlk hW hf (rok_i _) dX6_count_230
theorem kvX6_remember : KV 6 "RightKeys" yX6_remember cX6_remember 1 none 0 := ⟨⟨w_778, w_29, w_109, w_779⟩, ⟨rfl, by decide, by decide, by decide +kernel⟩, by decide, rfl⟩
noncomputable def jX6_remember_38 (a0 : Nat) (s0 : Nat) (s1 : Int32) (σ : Sg) : Option (Sg) := (let σ11 := wI σ s0 10 s1; let σ12 := wI σ11 a0 11 (imin ((σ11.1 a0 11) + (1 : Int32)) (40 : Int32)); some σ12)
noncomputable def fX6_remember (a0 : Nat) (σ : Sg) : Option (Sg) := if vin (σ.1 a0 10) 40 then (if (σ.2.2.1 (a0 + 51) (((σ.1 a0 10)).toNatClampNeg)) ≠ 0 then ((fX2_copyFrom (σ.2.2.1 (a0 + 51) (((σ.1 a0 10)).toNatClampNeg)) (a0 + 31) σ).bind (fun σ7 => if (40 : Int32) ≤ ((σ7.1 a0 10) + (1 : Int32)) then (jX6_remember_38 a0 a0 (0 : Int32) σ7) else (jX6_remember_38 a0 a0 ((σ7.1 a0 10) + (1 : Int32)) σ7))) else none) else none
set_option maxRecDepth 100000 in
set_option maxHeartbeats 4000000 in
theorem mX6_remember {l : Launch} {G : Gm} {a0 : Nat} {σ : Sg} {σ' : Sg} (hk_a0 : gK G a0 = 7) (hf : fX6_remember a0 σ = some σ') : Mv l G yX6_remember cX6_remember 1 2 61 [.ref (gB G + a0)] σ σ' := by
  refine of_W "RightKeys" rfl (by decide) (Nat.le_of_ble_eq_true rfl) ?_
  intro p e s m args below meth c Q hQ C hr hlk hW ls hl
  have h00 := hW.1
  have hl : lv_has ls 1 [(0, .ref (gB G + a0))] := hl
  delta fX6_remember at hf
  have J38 : ∀ (s0 : Nat) (s1 : Int32) (σ : Sg) (H : Heap) (locs : List Loc) (ls : Array Slot) (hk_s0 : gK G s0 = 7), jX6_remember_38 a0 s0 s1 σ = some σ' → Ws G σ s.heap H locs → lv_has ls 1 [(0, .ref (gB G + a0))] → W p l e (rmOf 2 61) s m args below meth c H locs 0 0 Q (F0 m 38 ls [.int s1, .ref (gB G + s0)]) := by
    intro s0 s1 σ H locs ls hk_s0 hf hW hl
    delta jX6_remember_38 at hf
    refine pf6_10 C hW hk_s0 w_415 dX6_remember_38 (fun H locs hW => ?_)
    refine lv_aload_n C.1.1 C.1.2.1 dX6_remember_41 rfl (lv_at hl 0 rfl) ?_
    refine lv_aload_n C.1.1 C.1.2.1 dX6_remember_42 rfl (lv_at hl 0 rfl) ?_
    refine gf6_11 C hW hk_a0 w_416 dX6_remember_43 ?_
    refine lv_iconst (v := 1) C.1.1 C.1.2.1 dX6_remember_46 (by decide) ?_
    refine lv_iadd C.1.1 C.1.2.1 dX6_remember_47 ?_
    refine lv_bipush (v := 40) C.1.1 C.1.2.1 dX6_remember_48 (by decide) ?_
    refine cMin C w_784 w_559 w_121 w_560 hl.1 (Nat.le_of_ble_eq_true rfl) (Nat.le_of_ble_eq_true rfl) ⟨Nat.zero_le _, Nat.zero_le _⟩ dX6_remember_50 ?_
    refine pf6_11 C hW hk_a0 w_416 dX6_remember_53 (fun H locs hW => ?_)
    exact rv hQ C hr hlk hW hf dX6_remember_56
  refine lv_aload_n C.1.1 C.1.2.1 dX6_remember_0 rfl (lv_at hl 0 rfl) ?_
  have hk1 := sh6_9 hW hk_a0
  refine gf6_9 C hW hk_a0 w_414 dX6_remember_1 ?_
  refine lv_aload_n C.1.1 C.1.2.1 dX6_remember_4 rfl (lv_at hl 0 rfl) ?_
  refine gf6_10 C hW hk_a0 w_415 dX6_remember_5 ?_
  obtain ⟨hv2, hf⟩ := gd hf
  obtain ⟨h03, hf⟩ := gd hf
  have hk4 := hW.1.2.2.2.2.1 _ _ hk1 _ h03
  refine waq C hW hk1 (vin_p hv2) h03 dX6_remember_8 ?_
  refine lv_aload_n C.1.1 C.1.2.1 dX6_remember_9 rfl (lv_at hl 0 rfl) ?_
  have hk5 := sh6_6 hW hk_a0
  refine gf6_6 C hW hk_a0 w_411 dX6_remember_10 ?_
  obtain ⟨σ7, hc6, hf⟩ := bd hf
  try dsimp only at hf
  refine cVv C hW (mX2_copyFrom hk4 hk5 hc6) hk4 kvX2_copyFrom w_780 ⟨(Nat.le_of_ble_eq_true rfl), (Nat.le_of_ble_eq_true rfl)⟩ ⟨Nat.zero_le _, Nat.zero_le _⟩ rfl hl.1 (rest := []) rfl (Nat.le_of_ble_eq_true rfl) dX6_remember_13 (fun H locs hW => ?_)
  refine lv_aload_n C.1.1 C.1.2.1 dX6_remember_16 rfl (lv_at hl 0 rfl) ?_
  refine lv_aload_n C.1.1 C.1.2.1 dX6_remember_17 rfl (lv_at hl 0 rfl) ?_
  refine gf6_10 C hW hk_a0 w_415 dX6_remember_18 ?_
  refine lv_iconst (v := 1) C.1.1 C.1.2.1 dX6_remember_21 (by decide) ?_
  refine lv_iadd C.1.1 C.1.2.1 dX6_remember_22 ?_
  refine lv_bipush (v := 40) C.1.1 C.1.2.1 dX6_remember_23 (by decide) ?_
  refine lv_icmp_ge (tgt := 37) C.1.1 C.1.2.1 dX6_remember_25 (by decide) (fun h9 => ?_) (fun h9 => ?_)
  · replace hf := (if_pos h9).symm.trans hf
    refine lv_iconst (v := 0) C.1.1 C.1.2.1 dX6_remember_37 (by decide) ?_
    exact J38 _ _ _ _ _ _ hk_a0 hf hW (lv_sub hl [0] rfl)
  · replace hf := (if_neg h9).symm.trans hf
    refine lv_aload_n C.1.1 C.1.2.1 dX6_remember_28 rfl (lv_at hl 0 rfl) ?_
    refine gf6_10 C hW hk_a0 w_415 dX6_remember_29 ?_
    refine lv_iconst (v := 1) C.1.1 C.1.2.1 dX6_remember_32 (by decide) ?_
    refine lv_iadd C.1.1 C.1.2.1 dX6_remember_33 ?_
    refine lv_goto (tgt := 38) C.1.1 C.1.2.1 dX6_remember_34 (by decide) ?_
    exact J38 _ _ _ _ _ _ hk_a0 hf hW (lv_sub hl [0] rfl)
theorem kvX6_keep : KV 6 "RightKeys" yX6_keep cX6_keep 3 (some .boolean) 2 := ⟨⟨w_773, w_774, w_109, w_775⟩, ⟨rfl, by decide, by decide, by decide +kernel⟩, by decide, rfl⟩
noncomputable def jX6_keep_28 (a0 : Nat) (p1 : Int32) (p2 : Int32) (s0 : Int32) (σ : Sg) : Option (Int32 × Sg) := if s0 = p2 then (some ((0 : Int32), σ)) else ((fX6_remember a0 σ).bind (fun σ13 => (let σ18 := wI σ13 (a0 + 31) 4 ((σ13.1 (a0 + 31) 4) ^^^ ((1 : Int32) <<< (p1 &&& 31))); some ((1 : Int32), σ18))))
noncomputable def fX6_keep (a0 : Nat) (p1 : Int32) (p2 : Int32) (σ : Sg) : Option (Int32 × Sg) := (fX6_isHouse a0 p1 σ).bind (fun q5 => let r3 := q5.1; let σ2 := q5.2; if r3 = 0 then (some ((0 : Int32), σ2)) else ((fX6_bit (σ2.1 (a0 + 31) 4) p1 σ2).bind (fun q11 => let r9 := q11.1; let σ8 := q11.2; if r9 = (1 : Int32) then (jX6_keep_28 a0 p1 p2 (1 : Int32) σ8) else (jX6_keep_28 a0 p1 p2 (0 : Int32) σ8))))
set_option maxRecDepth 100000 in
set_option maxHeartbeats 4000000 in
theorem mX6_keep {l : Launch} {G : Gm} {a0 : Nat} {p1 : Int32} {p2 : Int32} {σ : Sg} {r : Int32} {σ' : Sg} (hk_a0 : gK G a0 = 7) (hf : fX6_keep a0 p1 p2 σ = some (r, σ')) : Mi l G yX6_keep cX6_keep 3 .boolean 3 81 [.ref (gB G + a0), .int p1, .int p2] σ r σ' := by
  refine of_W "RightKeys" rfl (by decide) (Nat.le_of_ble_eq_true rfl) ?_
  intro p e s m args below meth c Q hQ C hr hlk hW ls hl
  have h00 := hW.1
  have hl : lv_has ls 3 [(0, .ref (gB G + a0)), (1, .int p1), (2, .int p2)] := hl
  delta fX6_keep at hf
  have J28 : ∀ (s0 : Int32) (σ : Sg) (H : Heap) (locs : List Loc) (ls : Array Slot), jX6_keep_28 a0 p1 p2 s0 σ = some (r, σ') → Ws G σ s.heap H locs → lv_has ls 3 [(0, .ref (gB G + a0)), (1, .int p1), (2, .int p2)] → W p l e (rmOf 3 81) s m args below meth c H locs 0 0 Q (F0 m 28 ls [.int s0]) := by
    intro s0 σ H locs ls hf hW hl
    delta jX6_keep_28 at hf
    refine lv_iload_n C.1.1 C.1.2.1 dX6_keep_28 rfl (lv_at hl 2 rfl) ?_
    refine lv_icmp_ne (tgt := 34) C.1.1 C.1.2.1 dX6_keep_29 (by decide) (fun h9 => ?_) (fun h9 => ?_)
    · replace hf := (if_neg h9).symm.trans hf
      refine lv_aload_n C.1.1 C.1.2.1 dX6_keep_34 rfl (lv_at hl 0 rfl) ?_
      obtain ⟨σ13, hc12, hf⟩ := bd hf
      try dsimp only at hf
      refine cVv C hW (mX6_remember hk_a0 hc12) hk_a0 kvX6_remember w_776 ⟨(Nat.le_of_ble_eq_true rfl), (Nat.le_of_ble_eq_true rfl)⟩ ⟨Nat.zero_le _, Nat.zero_le _⟩ rfl hl.1 (rest := []) rfl (Nat.le_of_ble_eq_true rfl) dX6_keep_35 (fun H locs hW => ?_)
      refine lv_aload_n C.1.1 C.1.2.1 dX6_keep_38 rfl (lv_at hl 0 rfl) ?_
      have hk17 := sh6_6 hW hk_a0
      refine gf6_6 C hW hk_a0 w_411 dX6_keep_39 ?_
      refine lv_dup C.1.1 C.1.2.1 dX6_keep_42 rfl ?_
      refine gf2_4 C hW hk17 w_306 dX6_keep_43 ?_
      refine lv_iconst (v := 1) C.1.1 C.1.2.1 dX6_keep_46 (by decide) ?_
      refine lv_iload_n C.1.1 C.1.2.1 dX6_keep_47 rfl (lv_at hl 1 rfl) ?_
      refine lv_ishl C.1.1 C.1.2.1 dX6_keep_48 ?_
      refine lv_ixor C.1.1 C.1.2.1 dX6_keep_49 ?_
      refine pf2_4 C hW hk17 w_306 dX6_keep_50 (fun H locs hW => ?_)
      refine lv_iconst (v := 1) C.1.1 C.1.2.1 dX6_keep_53 (by decide) ?_
      exact ri hQ C hr hlk hW hf (rok_z (Or.inr rfl)) dX6_keep_54
    · replace hf := (if_pos h9).symm.trans hf
      refine lv_iconst (v := 0) C.1.1 C.1.2.1 dX6_keep_32 (by decide) ?_
      exact ri hQ C hr hlk hW hf (rok_z (Or.inl rfl)) dX6_keep_33
  refine lv_aload_n C.1.1 C.1.2.1 dX6_keep_0 rfl (lv_at hl 0 rfl) ?_
  refine lv_iload_n C.1.1 C.1.2.1 dX6_keep_1 rfl (lv_at hl 1 rfl) ?_
  obtain ⟨⟨r3, σ2⟩, hc1, hf⟩ := bd hf
  try dsimp only at hf
  refine cVi C hW (mX6_isHouse hk_a0 hc1) hk_a0 kvX6_isHouse w_674 ⟨(Nat.le_of_ble_eq_true rfl), (Nat.le_of_ble_eq_true rfl)⟩ ⟨Nat.zero_le _, Nat.zero_le _⟩ rfl hl.1 (rest := []) rfl (Nat.le_of_ble_eq_true rfl) dX6_keep_2 (fun H locs hn4 hW => ?_)
  refine lv_if_eq (tgt := 32) C.1.1 C.1.2.1 dX6_keep_5 (by decide) (fun h9 => ?_) (fun h9 => ?_)
  · replace hf := (if_pos h9).symm.trans hf
    refine lv_iconst (v := 0) C.1.1 C.1.2.1 dX6_keep_32 (by decide) ?_
    exact ri hQ C hr hlk hW hf (rok_z (Or.inl rfl)) dX6_keep_33
  · replace hf := (if_neg h9).symm.trans hf
    refine lv_aload_n C.1.1 C.1.2.1 dX6_keep_8 rfl (lv_at hl 0 rfl) ?_
    have hk6 := sh6_6 hW hk_a0
    refine gf6_6 C hW hk_a0 w_411 dX6_keep_9 ?_
    refine gf2_4 C hW hk6 w_306 dX6_keep_12 ?_
    refine lv_iload_n C.1.1 C.1.2.1 dX6_keep_15 rfl (lv_at hl 1 rfl) ?_
    obtain ⟨⟨r9, σ8⟩, hc7, hf⟩ := bd hf
    try dsimp only at hf
    refine cSi C hW (mX6_bit hc7) ksX6_bit w_683 ⟨(Nat.le_of_ble_eq_true rfl), (Nat.le_of_ble_eq_true rfl)⟩ ⟨Nat.zero_le _, Nat.zero_le _⟩ rfl hl.1 (rest := []) rfl (Nat.le_of_ble_eq_true rfl) dX6_keep_16 (fun H locs hn10 hW => ?_)
    refine lv_iconst (v := 1) C.1.1 C.1.2.1 dX6_keep_19 (by decide) ?_
    refine lv_icmp_ne (tgt := 27) C.1.1 C.1.2.1 dX6_keep_20 (by decide) (fun h9 => ?_) (fun h9 => ?_)
    · replace hf := (if_neg h9).symm.trans hf
      refine lv_iconst (v := 0) C.1.1 C.1.2.1 dX6_keep_27 (by decide) ?_
      exact J28 _ _ _ _ _ hf hW (lv_sub hl [0, 1, 2] rfl)
    · replace hf := (if_pos h9).symm.trans hf
      refine lv_iconst (v := 1) C.1.1 C.1.2.1 dX6_keep_23 (by decide) ?_
      refine lv_goto (tgt := 28) C.1.1 C.1.2.1 dX6_keep_24 (by decide) ?_
      exact J28 _ _ _ _ _ hf hW (lv_sub hl [0, 1, 2] rfl)
theorem kvX6_pass : KV 6 "RightKeys" yX6_pass cX6_pass 4 (some .boolean) 2 := ⟨⟨w_786, w_787, w_109, w_788⟩, ⟨rfl, by decide, by decide, by decide +kernel⟩, by decide, rfl⟩
noncomputable def jX6_pass_34 (a0 : Nat) (p1 : Int32) (p2 : Int32) (s0 : Int32) (σ : Sg) : Option (Int32 × Sg) := if vin p1 6 then (if (σ.1 ((a0 + 31) + 8) ((p1).toNatClampNeg)) = s0 then (some ((0 : Int32), σ)) else ((fX6_remember a0 σ).bind (fun σ10 => (let σ16 := wI σ10 ((a0 + 31) + 8) ((p1).toNatClampNeg) s0; some ((1 : Int32), σ16))))) else none
noncomputable def jX6_pass_23 (a0 : Nat) (p1 : Int32) (p2 : Int32) (σ : Sg) : Option (Int32 × Sg) := if p2 = (-1 : Int32) then (jX6_pass_34 a0 p1 p2 (-2 : Int32) σ) else (jX6_pass_34 a0 p1 p2 p2 σ)
noncomputable def fX6_pass (a0 : Nat) (p1 : Int32) (p2 : Int32) (σ : Sg) : Option (Int32 × Sg) := (fX6_isSpare a0 p1 σ).bind (fun q5 => let r3 := q5.1; let σ2 := q5.2; if r3 = 0 then (some ((0 : Int32), σ2)) else (if p2 = (-1 : Int32) then (jX6_pass_23 a0 p1 p2 σ2) else ((fX6_isHouse a0 p2 σ2).bind (fun q21 => let r19 := q21.1; let σ18 := q21.2; if r19 = 0 then (some ((0 : Int32), σ18)) else (jX6_pass_23 a0 p1 p2 σ18)))))
set_option maxRecDepth 100000 in
set_option maxHeartbeats 4000000 in
theorem mX6_pass {l : Launch} {G : Gm} {a0 : Nat} {p1 : Int32} {p2 : Int32} {σ : Sg} {r : Int32} {σ' : Sg} (hk_a0 : gK G a0 = 7) (hf : fX6_pass a0 p1 p2 σ = some (r, σ')) : Mi l G yX6_pass cX6_pass 4 .boolean 3 81 [.ref (gB G + a0), .int p1, .int p2] σ r σ' := by
  refine of_W "RightKeys" rfl (by decide) (Nat.le_of_ble_eq_true rfl) ?_
  intro p e s m args below meth c Q hQ C hr hlk hW ls hl
  have h00 := hW.1
  have hl : lv_has ls 4 [(0, .ref (gB G + a0)), (1, .int p1), (2, .int p2)] := hl
  delta fX6_pass at hf
  have J34 : ∀ (s0 : Int32) (σ : Sg) (H : Heap) (locs : List Loc) (ls : Array Slot), jX6_pass_34 a0 p1 p2 s0 σ = some (r, σ') → Ws G σ s.heap H locs → lv_has ls 4 [(0, .ref (gB G + a0)), (1, .int p1)] → W p l e (rmOf 3 81) s m args below meth c H locs 0 0 Q (F0 m 34 ls [.int s0]) := by
    intro s0 σ H locs ls hf hW hl
    delta jX6_pass_34 at hf
    refine lv_istore_n (lv' := [(3, .int _), (0, .ref _), (1, .int _)]) C.1.1 C.1.2.1 dX6_pass_34 rfl hl (by decide) rfl (fun ls hl => ?_)
    refine lv_aload_n C.1.1 C.1.2.1 dX6_pass_35 rfl (lv_at hl 1 rfl) ?_
    have hk6 := sh6_6 hW hk_a0
    refine gf6_6 C hW hk_a0 w_411 dX6_pass_36 ?_
    have hk7 := sh2_19 hW hk6
    refine gf2_19 C hW hk6 w_335 dX6_pass_39 ?_
    refine lv_iload_n C.1.1 C.1.2.1 dX6_pass_42 rfl (lv_at hl 2 rfl) ?_
    obtain ⟨hv8, hf⟩ := gd hf
    refine wai C hW hk7 (vin_p hv8) dX6_pass_43 ?_
    refine lv_iload_n C.1.1 C.1.2.1 dX6_pass_44 rfl (lv_at hl 0 rfl) ?_
    refine lv_icmp_ne (tgt := 50) C.1.1 C.1.2.1 dX6_pass_45 (by decide) (fun h9 => ?_) (fun h9 => ?_)
    · replace hf := (if_neg h9).symm.trans hf
      refine lv_aload_n C.1.1 C.1.2.1 dX6_pass_50 rfl (lv_at hl 1 rfl) ?_
      obtain ⟨σ10, hc9, hf⟩ := bd hf
      try dsimp only at hf
      refine cVv C hW (mX6_remember hk_a0 hc9) hk_a0 kvX6_remember w_776 ⟨(Nat.le_of_ble_eq_true rfl), (Nat.le_of_ble_eq_true rfl)⟩ ⟨Nat.zero_le _, Nat.zero_le _⟩ rfl hl.1 (rest := []) rfl (Nat.le_of_ble_eq_true rfl) dX6_pass_51 (fun H locs hW => ?_)
      refine lv_aload_n C.1.1 C.1.2.1 dX6_pass_54 rfl (lv_at hl 1 rfl) ?_
      have hk14 := sh6_6 hW hk_a0
      refine gf6_6 C hW hk_a0 w_411 dX6_pass_55 ?_
      have hk15 := sh2_19 hW hk14
      refine gf2_19 C hW hk14 w_335 dX6_pass_58 ?_
      refine lv_iload_n C.1.1 C.1.2.1 dX6_pass_61 rfl (lv_at hl 2 rfl) ?_
      refine lv_iload_n C.1.1 C.1.2.1 dX6_pass_62 rfl (lv_at hl 0 rfl) ?_
      refine wsi C hW hk15 (vin_p hv8) dX6_pass_63 (fun H locs hW => ?_)
      refine lv_iconst (v := 1) C.1.1 C.1.2.1 dX6_pass_64 (by decide) ?_
      exact ri hQ C hr hlk hW hf (rok_z (Or.inr rfl)) dX6_pass_65
    · replace hf := (if_pos h9).symm.trans hf
      refine lv_iconst (v := 0) C.1.1 C.1.2.1 dX6_pass_48 (by decide) ?_
      exact ri hQ C hr hlk hW hf (rok_z (Or.inl rfl)) dX6_pass_49
  have J23 : ∀ (σ : Sg) (H : Heap) (locs : List Loc) (ls : Array Slot), jX6_pass_23 a0 p1 p2 σ = some (r, σ') → Ws G σ s.heap H locs → lv_has ls 4 [(0, .ref (gB G + a0)), (1, .int p1), (2, .int p2)] → W p l e (rmOf 3 81) s m args below meth c H locs 0 0 Q (F0 m 23 ls []) := by
    intro σ H locs ls hf hW hl
    delta jX6_pass_23 at hf
    refine lv_iload_n C.1.1 C.1.2.1 dX6_pass_23 rfl (lv_at hl 2 rfl) ?_
    refine lv_iconst (v := (-1)) C.1.1 C.1.2.1 dX6_pass_24 (by decide) ?_
    refine lv_icmp_ne (tgt := 33) C.1.1 C.1.2.1 dX6_pass_25 (by decide) (fun h9 => ?_) (fun h9 => ?_)
    · replace hf := (if_neg h9).symm.trans hf
      refine lv_iload_n C.1.1 C.1.2.1 dX6_pass_33 rfl (lv_at hl 2 rfl) ?_
      exact J34 _ _ _ _ _ hf hW (lv_sub hl [0, 1] rfl)
    · replace hf := (if_pos h9).symm.trans hf
      refine lv_bipush (v := (-2)) C.1.1 C.1.2.1 dX6_pass_28 (by decide) ?_
      refine lv_goto (tgt := 34) C.1.1 C.1.2.1 dX6_pass_30 (by decide) ?_
      exact J34 _ _ _ _ _ hf hW (lv_sub hl [0, 1] rfl)
  refine lv_aload_n C.1.1 C.1.2.1 dX6_pass_0 rfl (lv_at hl 0 rfl) ?_
  refine lv_iload_n C.1.1 C.1.2.1 dX6_pass_1 rfl (lv_at hl 1 rfl) ?_
  obtain ⟨⟨r3, σ2⟩, hc1, hf⟩ := bd hf
  try dsimp only at hf
  refine cVi C hW (mX6_isSpare hk_a0 hc1) hk_a0 kvX6_isSpare w_714 ⟨(Nat.le_of_ble_eq_true rfl), (Nat.le_of_ble_eq_true rfl)⟩ ⟨Nat.zero_le _, Nat.zero_le _⟩ rfl hl.1 (rest := []) rfl (Nat.le_of_ble_eq_true rfl) dX6_pass_2 (fun H locs hn4 hW => ?_)
  refine lv_if_eq (tgt := 21) C.1.1 C.1.2.1 dX6_pass_5 (by decide) (fun h9 => ?_) (fun h9 => ?_)
  · replace hf := (if_pos h9).symm.trans hf
    refine lv_iconst (v := 0) C.1.1 C.1.2.1 dX6_pass_21 (by decide) ?_
    exact ri hQ C hr hlk hW hf (rok_z (Or.inl rfl)) dX6_pass_22
  · replace hf := (if_neg h9).symm.trans hf
    refine lv_iload_n C.1.1 C.1.2.1 dX6_pass_8 rfl (lv_at hl 2 rfl) ?_
    refine lv_iconst (v := (-1)) C.1.1 C.1.2.1 dX6_pass_9 (by decide) ?_
    refine lv_icmp_eq (tgt := 23) C.1.1 C.1.2.1 dX6_pass_10 (by decide) (fun h9 => ?_) (fun h9 => ?_)
    · replace hf := (if_pos h9).symm.trans hf
      exact J23 _ _ _ _ hf hW (lv_sub hl [0, 1, 2] rfl)
    · replace hf := (if_neg h9).symm.trans hf
      refine lv_aload_n C.1.1 C.1.2.1 dX6_pass_13 rfl (lv_at hl 0 rfl) ?_
      refine lv_iload_n C.1.1 C.1.2.1 dX6_pass_14 rfl (lv_at hl 2 rfl) ?_
      obtain ⟨⟨r19, σ18⟩, hc17, hf⟩ := bd hf
      try dsimp only at hf
      refine cVi C hW (mX6_isHouse hk_a0 hc17) hk_a0 kvX6_isHouse w_674 ⟨(Nat.le_of_ble_eq_true rfl), (Nat.le_of_ble_eq_true rfl)⟩ ⟨Nat.zero_le _, Nat.zero_le _⟩ rfl hl.1 (rest := []) rfl (Nat.le_of_ble_eq_true rfl) dX6_pass_15 (fun H locs hn20 hW => ?_)
      refine lv_if_ne (tgt := 23) C.1.1 C.1.2.1 dX6_pass_18 (by decide) (fun h9 => ?_) (fun h9 => ?_)
      · replace hf := (if_neg h9).symm.trans hf
        exact J23 _ _ _ _ hf hW (lv_sub hl [0, 1, 2] rfl)
      · replace hf := (if_pos h9).symm.trans hf
        refine lv_iconst (v := 0) C.1.1 C.1.2.1 dX6_pass_21 (by decide) ?_
        exact ri hQ C hr hlk hW hf (rok_z (Or.inl rfl)) dX6_pass_22
theorem kvX6_change : KV 6 "RightKeys" yX6_change cX6_change 3 (some .boolean) 2 := ⟨⟨w_790, w_791, w_109, w_792⟩, ⟨rfl, by decide, by decide, by decide +kernel⟩, by decide, rfl⟩
noncomputable def fX6_change (a0 : Nat) (p1 : Int32) (p2 : Int32) (σ : Sg) : Option (Int32 × Sg) := (fX6_isHouse a0 p1 σ).bind (fun q5 => let r3 := q5.1; let σ2 := q5.2; if r3 = 0 then (some ((0 : Int32), σ2)) else ((fX6_isHouse a0 p2 σ2).bind (fun q10 => let r8 := q10.1; let σ7 := q10.2; if r8 = 0 then (some ((0 : Int32), σ7)) else (if p1 = p2 then (some ((0 : Int32), σ7)) else ((fX2_bothIn (a0 + 31) p1 p2 σ7).bind (fun q16 => let r14 := q16.1; let σ13 := q16.2; if r14 = 0 then (some ((0 : Int32), σ13)) else ((fX6_remember a0 σ13).bind (fun σ18 => (fX2_swapPeople (a0 + 31) p1 p2 σ18).bind (fun σ24 => some ((1 : Int32), σ24))))))))))
set_option maxRecDepth 100000 in
set_option maxHeartbeats 4000000 in
theorem mX6_change {l : Launch} {G : Gm} {a0 : Nat} {p1 : Int32} {p2 : Int32} {σ : Sg} {r : Int32} {σ' : Sg} (hk_a0 : gK G a0 = 7) (hf : fX6_change a0 p1 p2 σ = some (r, σ')) : Mi l G yX6_change cX6_change 3 .boolean 3 81 [.ref (gB G + a0), .int p1, .int p2] σ r σ' := by
  refine of_W "RightKeys" rfl (by decide) (Nat.le_of_ble_eq_true rfl) ?_
  intro p e s m args below meth c Q hQ C hr hlk hW ls hl
  have h00 := hW.1
  have hl : lv_has ls 3 [(0, .ref (gB G + a0)), (1, .int p1), (2, .int p2)] := hl
  delta fX6_change at hf
  refine lv_aload_n C.1.1 C.1.2.1 dX6_change_0 rfl (lv_at hl 0 rfl) ?_
  refine lv_iload_n C.1.1 C.1.2.1 dX6_change_1 rfl (lv_at hl 1 rfl) ?_
  obtain ⟨⟨r3, σ2⟩, hc1, hf⟩ := bd hf
  try dsimp only at hf
  refine cVi C hW (mX6_isHouse hk_a0 hc1) hk_a0 kvX6_isHouse w_674 ⟨(Nat.le_of_ble_eq_true rfl), (Nat.le_of_ble_eq_true rfl)⟩ ⟨Nat.zero_le _, Nat.zero_le _⟩ rfl hl.1 (rest := []) rfl (Nat.le_of_ble_eq_true rfl) dX6_change_2 (fun H locs hn4 hW => ?_)
  refine lv_if_eq (tgt := 33) C.1.1 C.1.2.1 dX6_change_5 (by decide) (fun h9 => ?_) (fun h9 => ?_)
  · replace hf := (if_pos h9).symm.trans hf
    refine lv_iconst (v := 0) C.1.1 C.1.2.1 dX6_change_33 (by decide) ?_
    exact ri hQ C hr hlk hW hf (rok_z (Or.inl rfl)) dX6_change_34
  · replace hf := (if_neg h9).symm.trans hf
    refine lv_aload_n C.1.1 C.1.2.1 dX6_change_8 rfl (lv_at hl 0 rfl) ?_
    refine lv_iload_n C.1.1 C.1.2.1 dX6_change_9 rfl (lv_at hl 2 rfl) ?_
    obtain ⟨⟨r8, σ7⟩, hc6, hf⟩ := bd hf
    try dsimp only at hf
    refine cVi C hW (mX6_isHouse hk_a0 hc6) hk_a0 kvX6_isHouse w_674 ⟨(Nat.le_of_ble_eq_true rfl), (Nat.le_of_ble_eq_true rfl)⟩ ⟨Nat.zero_le _, Nat.zero_le _⟩ rfl hl.1 (rest := []) rfl (Nat.le_of_ble_eq_true rfl) dX6_change_10 (fun H locs hn9 hW => ?_)
    refine lv_if_eq (tgt := 33) C.1.1 C.1.2.1 dX6_change_13 (by decide) (fun h9 => ?_) (fun h9 => ?_)
    · replace hf := (if_pos h9).symm.trans hf
      refine lv_iconst (v := 0) C.1.1 C.1.2.1 dX6_change_33 (by decide) ?_
      exact ri hQ C hr hlk hW hf (rok_z (Or.inl rfl)) dX6_change_34
    · replace hf := (if_neg h9).symm.trans hf
      refine lv_iload_n C.1.1 C.1.2.1 dX6_change_16 rfl (lv_at hl 1 rfl) ?_
      refine lv_iload_n C.1.1 C.1.2.1 dX6_change_17 rfl (lv_at hl 2 rfl) ?_
      refine lv_icmp_eq (tgt := 33) C.1.1 C.1.2.1 dX6_change_18 (by decide) (fun h9 => ?_) (fun h9 => ?_)
      · replace hf := (if_pos h9).symm.trans hf
        refine lv_iconst (v := 0) C.1.1 C.1.2.1 dX6_change_33 (by decide) ?_
        exact ri hQ C hr hlk hW hf (rok_z (Or.inl rfl)) dX6_change_34
      · replace hf := (if_neg h9).symm.trans hf
        refine lv_aload_n C.1.1 C.1.2.1 dX6_change_21 rfl (lv_at hl 0 rfl) ?_
        have hk11 := sh6_6 hW hk_a0
        refine gf6_6 C hW hk_a0 w_411 dX6_change_22 ?_
        refine lv_iload_n C.1.1 C.1.2.1 dX6_change_25 rfl (lv_at hl 1 rfl) ?_
        refine lv_iload_n C.1.1 C.1.2.1 dX6_change_26 rfl (lv_at hl 2 rfl) ?_
        obtain ⟨⟨r14, σ13⟩, hc12, hf⟩ := bd hf
        try dsimp only at hf
        refine cVi C hW (mX2_bothIn hk11 hc12) hk11 kvX2_bothIn w_793 ⟨(Nat.le_of_ble_eq_true rfl), (Nat.le_of_ble_eq_true rfl)⟩ ⟨Nat.zero_le _, Nat.zero_le _⟩ rfl hl.1 (rest := []) rfl (Nat.le_of_ble_eq_true rfl) dX6_change_27 (fun H locs hn15 hW => ?_)
        refine lv_if_ne (tgt := 35) C.1.1 C.1.2.1 dX6_change_30 (by decide) (fun h9 => ?_) (fun h9 => ?_)
        · replace hf := (if_neg h9).symm.trans hf
          refine lv_aload_n C.1.1 C.1.2.1 dX6_change_35 rfl (lv_at hl 0 rfl) ?_
          obtain ⟨σ18, hc17, hf⟩ := bd hf
          try dsimp only at hf
          refine cVv C hW (mX6_remember hk_a0 hc17) hk_a0 kvX6_remember w_776 ⟨(Nat.le_of_ble_eq_true rfl), (Nat.le_of_ble_eq_true rfl)⟩ ⟨Nat.zero_le _, Nat.zero_le _⟩ rfl hl.1 (rest := []) rfl (Nat.le_of_ble_eq_true rfl) dX6_change_36 (fun H locs hW => ?_)
          refine lv_aload_n C.1.1 C.1.2.1 dX6_change_39 rfl (lv_at hl 0 rfl) ?_
          have hk22 := sh6_6 hW hk_a0
          refine gf6_6 C hW hk_a0 w_411 dX6_change_40 ?_
          refine lv_iload_n C.1.1 C.1.2.1 dX6_change_43 rfl (lv_at hl 1 rfl) ?_
          refine lv_iload_n C.1.1 C.1.2.1 dX6_change_44 rfl (lv_at hl 2 rfl) ?_
          obtain ⟨σ24, hc23, hf⟩ := bd hf
          try dsimp only at hf
          refine cVv C hW (mX2_swapPeople hk22 hc23) hk22 kvX2_swapPeople w_797 ⟨(Nat.le_of_ble_eq_true rfl), (Nat.le_of_ble_eq_true rfl)⟩ ⟨Nat.zero_le _, Nat.zero_le _⟩ rfl hl.1 (rest := []) rfl (Nat.le_of_ble_eq_true rfl) dX6_change_45 (fun H locs hW => ?_)
          refine lv_iconst (v := 1) C.1.1 C.1.2.1 dX6_change_48 (by decide) ?_
          exact ri hQ C hr hlk hW hf (rok_z (Or.inr rfl)) dX6_change_49
        · replace hf := (if_pos h9).symm.trans hf
          refine lv_iconst (v := 0) C.1.1 C.1.2.1 dX6_change_33 (by decide) ?_
          exact ri hQ C hr hlk hW hf (rok_z (Or.inl rfl)) dX6_change_34
theorem kvX6_hours : KV 6 "RightKeys" yX6_hours cX6_hours 3 (some .int) 1 := ⟨⟨w_805, w_806, w_109, w_807⟩, ⟨rfl, by decide, by decide, by decide +kernel⟩, by decide, rfl⟩
noncomputable def bX6_hours_22 (a0 : Nat) (p1 : Int32) (x2 : Int32) (σ : Sg) : Option ((Int32 × Sg) ⊕ (Sg)) := if p1 ≤ x2 then (some (Sum.inr σ)) else ((fX2_goThroughHour (a0 + 31) σ).bind (fun σ3 => (let x2_7 := x2 + (1 : Int32); some (Sum.inl (x2_7, σ3)))))
noncomputable def jX6_hours_20 (a0 : Nat) (p1 : Int32) (σ : Sg) : Option (Int32 × Sg) := (lp (fun st => bX6_hours_22 a0 p1 st.1 st.2) ((0 : Int32), σ)).bind (fun σ9 => some ((σ9.1 (a0 + 31) 1), σ9))
noncomputable def fX6_hours (a0 : Nat) (p1 : Int32) (σ : Sg) : Option (Int32 × Sg) := if p1 < 0 then (some ((-1 : Int32), σ)) else (if p1 ≤ (72 : Int32) then (if p1 ≤ 0 then (jX6_hours_20 a0 p1 σ) else ((fX6_remember a0 σ).bind (fun σ12 => jX6_hours_20 a0 p1 σ12))) else (some ((-1 : Int32), σ)))
set_option maxRecDepth 100000 in
set_option maxHeartbeats 4000000 in
theorem mX6_hours {l : Launch} {G : Gm} {a0 : Nat} {p1 : Int32} {σ : Sg} {r : Int32} {σ' : Sg} (hk_a0 : gK G a0 = 7) (hf : fX6_hours a0 p1 σ = some (r, σ')) : Mi l G yX6_hours cX6_hours 3 .int 6 155 [.ref (gB G + a0), .int p1] σ r σ' := by
  refine of_W "RightKeys" rfl (by decide) (Nat.le_of_ble_eq_true rfl) ?_
  intro p e s m args below meth c Q hQ C hr hlk hW ls hl
  have h00 := hW.1
  have hl : lv_has ls 3 [(0, .ref (gB G + a0)), (1, .int p1)] := hl
  delta fX6_hours at hf
  have L22 : ∀ (n : Nat) (x2 : Int32) (σ : Sg) (H : Heap) (locs : List Loc) (ls : Array Slot) (out : (Sg)), iter (fun st => bX6_hours_22 a0 p1 st.1 st.2) n (x2, σ) = some out → Ws G σ s.heap H locs → lv_has ls 3 [(0, .ref (gB G + a0)), (1, .int p1), (2, .int x2)] → (∀ (σ : Sg) (H : Heap) (locs : List Loc) (ls : Array Slot), out = σ → Ws G σ s.heap H locs → lv_has ls 3 [(0, .ref (gB G + a0))] → W p l e (rmOf 6 155) s m args below meth c H locs 0 0 Q (F0 m 40 ls [])) → W p l e (rmOf 6 155) s m args below meth c H locs 0 0 Q (F0 m 22 ls []) := by
    intro n
    induction n with
    | zero =>
      intro x2 σ H locs ls out hf
      exact (it_0 hf).elim
    | succ n ih =>
      intro x2 σ H locs ls out hf hW hl K22_40
      obtain ⟨x, hf, hx⟩ := it_s hf
      have hf : bX6_hours_22 a0 p1 x2 σ = some x := hf
      delta bX6_hours_22 at hf
      refine lv_iload_n C.1.1 C.1.2.1 dX6_hours_22 rfl (lv_at hl 2 rfl) ?_
      refine lv_iload_n C.1.1 C.1.2.1 dX6_hours_23 rfl (lv_at hl 1 rfl) ?_
      refine lv_icmp_ge (tgt := 40) C.1.1 C.1.2.1 dX6_hours_24 (by decide) (fun h9 => ?_) (fun h9 => ?_)
      · replace hf := (if_pos h9).symm.trans hf
        cases hf
        cases hx
        exact K22_40 _ _ _ _ rfl hW (lv_sub hl [0] rfl)
      · replace hf := (if_neg h9).symm.trans hf
        refine lv_aload_n C.1.1 C.1.2.1 dX6_hours_27 rfl (lv_at hl 0 rfl) ?_
        have hk1 := sh6_6 hW hk_a0
        refine gf6_6 C hW hk_a0 w_411 dX6_hours_28 ?_
        obtain ⟨σ3, hc2, hf⟩ := bd hf
        try dsimp only at hf
        refine cVv C hW (mX2_goThroughHour hk1 hc2) hk1 kvX2_goThroughHour w_808 ⟨(Nat.le_of_ble_eq_true rfl), (Nat.le_of_ble_eq_true rfl)⟩ ⟨Nat.zero_le _, Nat.zero_le _⟩ rfl hl.1 (rest := []) rfl (Nat.le_of_ble_eq_true rfl) dX6_hours_31 (fun H locs hW => ?_)
        refine lv_iinc (v := _) (lv' := [(2, .int _), (0, .ref _), (1, .int _)]) C.1.1 C.1.2.1 dX6_hours_34 hl (k := 2) rfl (ii (k := 1) (by decide)) (by decide) rfl (fun ls hl => ?_)
        refine lv_goto (tgt := 22) C.1.1 C.1.2.1 dX6_hours_37 (by decide) ?_
        cases hf
        exact ih _ _ _ _ _ _ hx hW (lv_sub hl [1, 2, 0] rfl) K22_40
  have J20 : ∀ (σ : Sg) (H : Heap) (locs : List Loc) (ls : Array Slot), jX6_hours_20 a0 p1 σ = some (r, σ') → Ws G σ s.heap H locs → lv_has ls 3 [(0, .ref (gB G + a0)), (1, .int p1)] → W p l e (rmOf 6 155) s m args below meth c H locs 0 0 Q (F0 m 20 ls []) := by
    intro σ H locs ls hf hW hl
    delta jX6_hours_20 at hf
    refine lv_iconst (v := 0) C.1.1 C.1.2.1 dX6_hours_20 (by decide) ?_
    refine lv_istore_n (lv' := [(2, .int _), (0, .ref _), (1, .int _)]) C.1.1 C.1.2.1 dX6_hours_21 rfl hl (by decide) rfl (fun ls hl => ?_)
    obtain ⟨o8, ho, hf⟩ := bd hf
    obtain ⟨n, ho⟩ := lp_it ho
    refine L22 n _ _ _ _ _ o8 ho hW (lv_sub hl [1, 2, 0] rfl) ?_
    intro  σ9 H locs ls e9 hW hl
    subst e9
    try dsimp only at hf
    refine lv_aload_n C.1.1 C.1.2.1 dX6_hours_40 rfl (lv_at hl 0 rfl) ?_
    have hk10 := sh6_6 hW hk_a0
    refine gf6_6 C hW hk_a0 w_411 dX6_hours_41 ?_
    refine gf2_1 C hW hk10 w_299 dX6_hours_44 ?_
    exact ri hQ C hr hlk hW hf (rok_i _) dX6_hours_47
  refine lv_iload_n C.1.1 C.1.2.1 dX6_hours_0 rfl (lv_at hl 1 rfl) ?_
  refine lv_if_lt (tgt := 10) C.1.1 C.1.2.1 dX6_hours_1 (by decide) (fun h9 => ?_) (fun h9 => ?_)
  · replace hf := (if_pos h9).symm.trans hf
    refine lv_iconst (v := (-1)) C.1.1 C.1.2.1 dX6_hours_10 (by decide) ?_
    exact ri hQ C hr hlk hW hf (rok_i _) dX6_hours_11
  · replace hf := (if_neg h9).symm.trans hf
    refine lv_iload_n C.1.1 C.1.2.1 dX6_hours_4 rfl (lv_at hl 1 rfl) ?_
    refine lv_bipush (v := 72) C.1.1 C.1.2.1 dX6_hours_5 (by decide) ?_
    refine lv_icmp_le (tgt := 12) C.1.1 C.1.2.1 dX6_hours_7 (by decide) (fun h9 => ?_) (fun h9 => ?_)
    · replace hf := (if_pos h9).symm.trans hf
      refine lv_iload_n C.1.1 C.1.2.1 dX6_hours_12 rfl (lv_at hl 1 rfl) ?_
      refine lv_if_le (tgt := 20) C.1.1 C.1.2.1 dX6_hours_13 (by decide) (fun h9 => ?_) (fun h9 => ?_)
      · replace hf := (if_pos h9).symm.trans hf
        exact J20 _ _ _ _ hf hW (lv_sub hl [0, 1] rfl)
      · replace hf := (if_neg h9).symm.trans hf
        refine lv_aload_n C.1.1 C.1.2.1 dX6_hours_16 rfl (lv_at hl 0 rfl) ?_
        obtain ⟨σ12, hc11, hf⟩ := bd hf
        try dsimp only at hf
        refine cVv C hW (mX6_remember hk_a0 hc11) hk_a0 kvX6_remember w_776 ⟨(Nat.le_of_ble_eq_true rfl), (Nat.le_of_ble_eq_true rfl)⟩ ⟨Nat.zero_le _, Nat.zero_le _⟩ rfl hl.1 (rest := []) rfl (Nat.le_of_ble_eq_true rfl) dX6_hours_17 (fun H locs hW => ?_)
        exact J20 _ _ _ _ hf hW (lv_sub hl [0, 1] rfl)
    · replace hf := (if_neg h9).symm.trans hf
      refine lv_iconst (v := (-1)) C.1.1 C.1.2.1 dX6_hours_10 (by decide) ?_
      exact ri hQ C hr hlk hW hf (rok_i _) dX6_hours_11
theorem kvX6_undo : KV 6 "RightKeys" yX6_undo cX6_undo 1 (some .boolean) 0 := ⟨⟨w_855, w_856, w_109, w_857⟩, ⟨rfl, by decide, by decide, by decide +kernel⟩, by decide, rfl⟩
noncomputable def jX6_undo_38 (a0 : Nat) (s0 : Nat) (s1 : Int32) (σ : Sg) : Option (Int32 × Sg) := (let σ2 := wI σ s0 10 s1; if vin (σ2.1 a0 10) 40 then (if (σ2.2.2.1 (a0 + 51) (((σ2.1 a0 10)).toNatClampNeg)) ≠ 0 then ((fX2_copyFrom (a0 + 31) (σ2.2.2.1 (a0 + 51) (((σ2.1 a0 10)).toNatClampNeg)) σ2).bind (fun σ9 => some ((1 : Int32), σ9))) else none) else none)
noncomputable def fX6_undo (a0 : Nat) (σ : Sg) : Option (Int32 × Sg) := if (σ.1 a0 11) = 0 then (some ((0 : Int32), σ)) else ((let σ1 := wI σ a0 11 ((σ.1 a0 11) - (1 : Int32)); if (σ1.1 a0 10) ≤ 0 then (jX6_undo_38 a0 a0 (39 : Int32) σ1) else (jX6_undo_38 a0 a0 ((σ1.1 a0 10) - (1 : Int32)) σ1)))
set_option maxRecDepth 100000 in
set_option maxHeartbeats 4000000 in
theorem mX6_undo {l : Launch} {G : Gm} {a0 : Nat} {σ : Sg} {r : Int32} {σ' : Sg} (hk_a0 : gK G a0 = 7) (hf : fX6_undo a0 σ = some (r, σ')) : Mi l G yX6_undo cX6_undo 1 .boolean 2 61 [.ref (gB G + a0)] σ r σ' := by
  refine of_W "RightKeys" rfl (by decide) (Nat.le_of_ble_eq_true rfl) ?_
  intro p e s m args below meth c Q hQ C hr hlk hW ls hl
  have h00 := hW.1
  have hl : lv_has ls 1 [(0, .ref (gB G + a0))] := hl
  delta fX6_undo at hf
  have J38 : ∀ (s0 : Nat) (s1 : Int32) (σ : Sg) (H : Heap) (locs : List Loc) (ls : Array Slot) (hk_s0 : gK G s0 = 7), jX6_undo_38 a0 s0 s1 σ = some (r, σ') → Ws G σ s.heap H locs → lv_has ls 1 [(0, .ref (gB G + a0))] → W p l e (rmOf 2 61) s m args below meth c H locs 0 0 Q (F0 m 38 ls [.int s1, .ref (gB G + s0)]) := by
    intro s0 s1 σ H locs ls hk_s0 hf hW hl
    delta jX6_undo_38 at hf
    refine pf6_10 C hW hk_s0 w_415 dX6_undo_38 (fun H locs hW => ?_)
    refine lv_aload_n C.1.1 C.1.2.1 dX6_undo_41 rfl (lv_at hl 0 rfl) ?_
    have hk3 := sh6_6 hW hk_a0
    refine gf6_6 C hW hk_a0 w_411 dX6_undo_42 ?_
    refine lv_aload_n C.1.1 C.1.2.1 dX6_undo_45 rfl (lv_at hl 0 rfl) ?_
    have hk4 := sh6_9 hW hk_a0
    refine gf6_9 C hW hk_a0 w_414 dX6_undo_46 ?_
    refine lv_aload_n C.1.1 C.1.2.1 dX6_undo_49 rfl (lv_at hl 0 rfl) ?_
    refine gf6_10 C hW hk_a0 w_415 dX6_undo_50 ?_
    obtain ⟨hv5, hf⟩ := gd hf
    obtain ⟨h06, hf⟩ := gd hf
    have hk7 := hW.1.2.2.2.2.1 _ _ hk4 _ h06
    refine waq C hW hk4 (vin_p hv5) h06 dX6_undo_53 ?_
    obtain ⟨σ9, hc8, hf⟩ := bd hf
    try dsimp only at hf
    refine cVv C hW (mX2_copyFrom hk3 hk7 hc8) hk3 kvX2_copyFrom w_780 ⟨(Nat.le_of_ble_eq_true rfl), (Nat.le_of_ble_eq_true rfl)⟩ ⟨Nat.zero_le _, Nat.zero_le _⟩ rfl hl.1 (rest := []) rfl (Nat.le_of_ble_eq_true rfl) dX6_undo_54 (fun H locs hW => ?_)
    refine lv_iconst (v := 1) C.1.1 C.1.2.1 dX6_undo_57 (by decide) ?_
    exact ri hQ C hr hlk hW hf (rok_z (Or.inr rfl)) dX6_undo_58
  refine lv_aload_n C.1.1 C.1.2.1 dX6_undo_0 rfl (lv_at hl 0 rfl) ?_
  refine gf6_11 C hW hk_a0 w_416 dX6_undo_1 ?_
  refine lv_if_ne (tgt := 9) C.1.1 C.1.2.1 dX6_undo_4 (by decide) (fun h9 => ?_) (fun h9 => ?_)
  · replace hf := (if_neg h9).symm.trans hf
    refine lv_aload_n C.1.1 C.1.2.1 dX6_undo_9 rfl (lv_at hl 0 rfl) ?_
    refine lv_dup C.1.1 C.1.2.1 dX6_undo_10 rfl ?_
    refine gf6_11 C hW hk_a0 w_416 dX6_undo_11 ?_
    refine lv_iconst (v := 1) C.1.1 C.1.2.1 dX6_undo_14 (by decide) ?_
    refine lv_isub C.1.1 C.1.2.1 dX6_undo_15 ?_
    refine pf6_11 C hW hk_a0 w_416 dX6_undo_16 (fun H locs hW => ?_)
    refine lv_aload_n C.1.1 C.1.2.1 dX6_undo_19 rfl (lv_at hl 0 rfl) ?_
    refine lv_aload_n C.1.1 C.1.2.1 dX6_undo_20 rfl (lv_at hl 0 rfl) ?_
    refine gf6_10 C hW hk_a0 w_415 dX6_undo_21 ?_
    refine lv_if_le (tgt := 36) C.1.1 C.1.2.1 dX6_undo_24 (by decide) (fun h9 => ?_) (fun h9 => ?_)
    · replace hf := (if_pos h9).symm.trans hf
      refine lv_bipush (v := 39) C.1.1 C.1.2.1 dX6_undo_36 (by decide) ?_
      exact J38 _ _ _ _ _ _ hk_a0 hf hW (lv_sub hl [0] rfl)
    · replace hf := (if_neg h9).symm.trans hf
      refine lv_aload_n C.1.1 C.1.2.1 dX6_undo_27 rfl (lv_at hl 0 rfl) ?_
      refine gf6_10 C hW hk_a0 w_415 dX6_undo_28 ?_
      refine lv_iconst (v := 1) C.1.1 C.1.2.1 dX6_undo_31 (by decide) ?_
      refine lv_isub C.1.1 C.1.2.1 dX6_undo_32 ?_
      refine lv_goto (tgt := 38) C.1.1 C.1.2.1 dX6_undo_33 (by decide) ?_
      exact J38 _ _ _ _ _ _ hk_a0 hf hW (lv_sub hl [0] rfl)
  · replace hf := (if_pos h9).symm.trans hf
    refine lv_iconst (v := 0) C.1.1 C.1.2.1 dX6_undo_7 (by decide) ?_
    exact ri hQ C hr hlk hW hf (rok_z (Or.inl rfl)) dX6_undo_8
theorem ksX6_isSlot : KS yX6_isSlot cX6_isSlot 1 (some .boolean) 1 := ⟨⟨w_863, w_109, w_864⟩, ⟨by decide, by decide, by decide +kernel⟩⟩
noncomputable def fX6_isSlot (p0 : Int32) (σ : Sg) : Option (Int32 × Sg) := if p0 < 0 then (some ((0 : Int32), σ)) else (if (3 : Int32) ≤ p0 then (some ((0 : Int32), σ)) else (some ((1 : Int32), σ)))
set_option maxRecDepth 100000 in
set_option maxHeartbeats 4000000 in
theorem mX6_isSlot {l : Launch} {G : Gm} {p0 : Int32} {σ : Sg} {r : Int32} {σ' : Sg}  (hf : fX6_isSlot p0 σ = some (r, σ')) : Mi l G yX6_isSlot cX6_isSlot 1 .boolean 0 0 [.int p0] σ r σ' := by
  refine of_W "RightKeys" rfl (by decide) (Nat.le_of_ble_eq_true rfl) ?_
  intro p e s m args below meth c Q hQ C hr hlk hW ls hl
  have h00 := hW.1
  have hl : lv_has ls 1 [(0, .int p0)] := hl
  delta fX6_isSlot at hf
  refine lv_iload_n C.1.1 C.1.2.1 dX6_isSlot_0 rfl (lv_at hl 0 rfl) ?_
  refine lv_if_lt (tgt := 13) C.1.1 C.1.2.1 dX6_isSlot_1 (by decide) (fun h9 => ?_) (fun h9 => ?_)
  · replace hf := (if_pos h9).symm.trans hf
    refine lv_iconst (v := 0) C.1.1 C.1.2.1 dX6_isSlot_13 (by decide) ?_
    exact ri hQ C hr hlk hW hf (rok_z (Or.inl rfl)) dX6_isSlot_14
  · replace hf := (if_neg h9).symm.trans hf
    refine lv_iload_n C.1.1 C.1.2.1 dX6_isSlot_4 rfl (lv_at hl 0 rfl) ?_
    refine lv_iconst (v := 3) C.1.1 C.1.2.1 dX6_isSlot_5 (by decide) ?_
    refine lv_icmp_ge (tgt := 13) C.1.1 C.1.2.1 dX6_isSlot_6 (by decide) (fun h9 => ?_) (fun h9 => ?_)
    · replace hf := (if_pos h9).symm.trans hf
      refine lv_iconst (v := 0) C.1.1 C.1.2.1 dX6_isSlot_13 (by decide) ?_
      exact ri hQ C hr hlk hW hf (rok_z (Or.inl rfl)) dX6_isSlot_14
    · replace hf := (if_neg h9).symm.trans hf
      refine lv_iconst (v := 1) C.1.1 C.1.2.1 dX6_isSlot_9 (by decide) ?_
      refine lv_goto (tgt := 14) C.1.1 C.1.2.1 dX6_isSlot_10 (by decide) ?_
      exact ri hQ C hr hlk hW hf (rok_z (Or.inr rfl)) dX6_isSlot_14
theorem kvX6_hold : KV 6 "RightKeys" yX6_hold cX6_hold 2 (some .boolean) 1 := ⟨⟨w_859, w_860, w_109, w_861⟩, ⟨rfl, by decide, by decide, by decide +kernel⟩, by decide, rfl⟩
noncomputable def fX6_hold (a0 : Nat) (p1 : Int32) (σ : Sg) : Option (Int32 × Sg) := (fX6_isSlot p1 σ).bind (fun q5 => let r3 := q5.1; let σ2 := q5.2; if r3 = 0 then (some ((0 : Int32), σ2)) else (if vin p1 3 then (if (σ2.2.2.1 (a0 + 52) ((p1).toNatClampNeg)) ≠ 0 then ((fX2_copyFrom (σ2.2.2.1 (a0 + 52) ((p1).toNatClampNeg)) (a0 + 31) σ2).bind (fun σ12 => (let σ16 := wI σ12 a0 13 ((σ12.1 a0 13) ||| ((1 : Int32) <<< (p1 &&& 31))); some ((1 : Int32), σ16)))) else none) else none))
set_option maxRecDepth 100000 in
set_option maxHeartbeats 4000000 in
theorem mX6_hold {l : Launch} {G : Gm} {a0 : Nat} {p1 : Int32} {σ : Sg} {r : Int32} {σ' : Sg} (hk_a0 : gK G a0 = 7) (hf : fX6_hold a0 p1 σ = some (r, σ')) : Mi l G yX6_hold cX6_hold 2 .boolean 2 61 [.ref (gB G + a0), .int p1] σ r σ' := by
  refine of_W "RightKeys" rfl (by decide) (Nat.le_of_ble_eq_true rfl) ?_
  intro p e s m args below meth c Q hQ C hr hlk hW ls hl
  have h00 := hW.1
  have hl : lv_has ls 2 [(0, .ref (gB G + a0)), (1, .int p1)] := hl
  delta fX6_hold at hf
  refine lv_iload_n C.1.1 C.1.2.1 dX6_hold_0 rfl (lv_at hl 1 rfl) ?_
  obtain ⟨⟨r3, σ2⟩, hc1, hf⟩ := bd hf
  try dsimp only at hf
  refine cSi C hW (mX6_isSlot hc1) ksX6_isSlot w_862 ⟨(Nat.le_of_ble_eq_true rfl), (Nat.le_of_ble_eq_true rfl)⟩ ⟨Nat.zero_le _, Nat.zero_le _⟩ rfl hl.1 (rest := []) rfl (Nat.le_of_ble_eq_true rfl) dX6_hold_1 (fun H locs hn4 hW => ?_)
  refine lv_if_ne (tgt := 9) C.1.1 C.1.2.1 dX6_hold_4 (by decide) (fun h9 => ?_) (fun h9 => ?_)
  · replace hf := (if_neg h9).symm.trans hf
    refine lv_aload_n C.1.1 C.1.2.1 dX6_hold_9 rfl (lv_at hl 0 rfl) ?_
    have hk6 := sh6_12 hW hk_a0
    refine gf6_12 C hW hk_a0 w_417 dX6_hold_10 ?_
    refine lv_iload_n C.1.1 C.1.2.1 dX6_hold_13 rfl (lv_at hl 1 rfl) ?_
    obtain ⟨hv7, hf⟩ := gd hf
    obtain ⟨h08, hf⟩ := gd hf
    have hk9 := hW.1.2.2.2.2.1 _ _ hk6 _ h08
    refine waq C hW hk6 (vin_p hv7) h08 dX6_hold_14 ?_
    refine lv_aload_n C.1.1 C.1.2.1 dX6_hold_15 rfl (lv_at hl 0 rfl) ?_
    have hk10 := sh6_6 hW hk_a0
    refine gf6_6 C hW hk_a0 w_411 dX6_hold_16 ?_
    obtain ⟨σ12, hc11, hf⟩ := bd hf
    try dsimp only at hf
    refine cVv C hW (mX2_copyFrom hk9 hk10 hc11) hk9 kvX2_copyFrom w_780 ⟨(Nat.le_of_ble_eq_true rfl), (Nat.le_of_ble_eq_true rfl)⟩ ⟨Nat.zero_le _, Nat.zero_le _⟩ rfl hl.1 (rest := []) rfl (Nat.le_of_ble_eq_true rfl) dX6_hold_19 (fun H locs hW => ?_)
    refine lv_aload_n C.1.1 C.1.2.1 dX6_hold_22 rfl (lv_at hl 0 rfl) ?_
    refine lv_dup C.1.1 C.1.2.1 dX6_hold_23 rfl ?_
    refine gf6_13 C hW hk_a0 w_418 dX6_hold_24 ?_
    refine lv_iconst (v := 1) C.1.1 C.1.2.1 dX6_hold_27 (by decide) ?_
    refine lv_iload_n C.1.1 C.1.2.1 dX6_hold_28 rfl (lv_at hl 1 rfl) ?_
    refine lv_ishl C.1.1 C.1.2.1 dX6_hold_29 ?_
    refine lv_ior C.1.1 C.1.2.1 dX6_hold_30 ?_
    refine pf6_13 C hW hk_a0 w_418 dX6_hold_31 (fun H locs hW => ?_)
    refine lv_iconst (v := 1) C.1.1 C.1.2.1 dX6_hold_34 (by decide) ?_
    exact ri hQ C hr hlk hW hf (rok_z (Or.inr rfl)) dX6_hold_35
  · replace hf := (if_pos h9).symm.trans hf
    refine lv_iconst (v := 0) C.1.1 C.1.2.1 dX6_hold_7 (by decide) ?_
    exact ri hQ C hr hlk hW hf (rok_z (Or.inl rfl)) dX6_hold_8
theorem kvX6_restore : KV 6 "RightKeys" yX6_restore cX6_restore 2 (some .boolean) 1 := ⟨⟨w_866, w_867, w_109, w_868⟩, ⟨rfl, by decide, by decide, by decide +kernel⟩, by decide, rfl⟩
noncomputable def fX6_restore (a0 : Nat) (p1 : Int32) (σ : Sg) : Option (Int32 × Sg) := (fX6_isSlot p1 σ).bind (fun q5 => let r3 := q5.1; let σ2 := q5.2; if r3 = 0 then (some ((0 : Int32), σ2)) else ((fX6_bit (σ2.1 a0 13) p1 σ2).bind (fun q10 => let r8 := q10.1; let σ7 := q10.2; if r8 = 0 then (some ((0 : Int32), σ7)) else (if vin p1 3 then (if (σ7.2.2.1 (a0 + 52) ((p1).toNatClampNeg)) ≠ 0 then ((fX2_copyFrom (a0 + 31) (σ7.2.2.1 (a0 + 52) ((p1).toNatClampNeg)) σ7).bind (fun σ17 => (let σ21 := wI σ17 a0 11 (0 : Int32); some ((1 : Int32), σ21)))) else none) else none))))
set_option maxRecDepth 100000 in
set_option maxHeartbeats 4000000 in
theorem mX6_restore {l : Launch} {G : Gm} {a0 : Nat} {p1 : Int32} {σ : Sg} {r : Int32} {σ' : Sg} (hk_a0 : gK G a0 = 7) (hf : fX6_restore a0 p1 σ = some (r, σ')) : Mi l G yX6_restore cX6_restore 2 .boolean 2 61 [.ref (gB G + a0), .int p1] σ r σ' := by
  refine of_W "RightKeys" rfl (by decide) (Nat.le_of_ble_eq_true rfl) ?_
  intro p e s m args below meth c Q hQ C hr hlk hW ls hl
  have h00 := hW.1
  have hl : lv_has ls 2 [(0, .ref (gB G + a0)), (1, .int p1)] := hl
  delta fX6_restore at hf
  refine lv_iload_n C.1.1 C.1.2.1 dX6_restore_0 rfl (lv_at hl 1 rfl) ?_
  obtain ⟨⟨r3, σ2⟩, hc1, hf⟩ := bd hf
  try dsimp only at hf
  refine cSi C hW (mX6_isSlot hc1) ksX6_isSlot w_862 ⟨(Nat.le_of_ble_eq_true rfl), (Nat.le_of_ble_eq_true rfl)⟩ ⟨Nat.zero_le _, Nat.zero_le _⟩ rfl hl.1 (rest := []) rfl (Nat.le_of_ble_eq_true rfl) dX6_restore_1 (fun H locs hn4 hW => ?_)
  refine lv_if_eq (tgt := 18) C.1.1 C.1.2.1 dX6_restore_4 (by decide) (fun h9 => ?_) (fun h9 => ?_)
  · replace hf := (if_pos h9).symm.trans hf
    refine lv_iconst (v := 0) C.1.1 C.1.2.1 dX6_restore_18 (by decide) ?_
    exact ri hQ C hr hlk hW hf (rok_z (Or.inl rfl)) dX6_restore_19
  · replace hf := (if_neg h9).symm.trans hf
    refine lv_aload_n C.1.1 C.1.2.1 dX6_restore_7 rfl (lv_at hl 0 rfl) ?_
    refine gf6_13 C hW hk_a0 w_418 dX6_restore_8 ?_
    refine lv_iload_n C.1.1 C.1.2.1 dX6_restore_11 rfl (lv_at hl 1 rfl) ?_
    obtain ⟨⟨r8, σ7⟩, hc6, hf⟩ := bd hf
    try dsimp only at hf
    refine cSi C hW (mX6_bit hc6) ksX6_bit w_683 ⟨(Nat.le_of_ble_eq_true rfl), (Nat.le_of_ble_eq_true rfl)⟩ ⟨Nat.zero_le _, Nat.zero_le _⟩ rfl hl.1 (rest := []) rfl (Nat.le_of_ble_eq_true rfl) dX6_restore_12 (fun H locs hn9 hW => ?_)
    refine lv_if_ne (tgt := 20) C.1.1 C.1.2.1 dX6_restore_15 (by decide) (fun h9 => ?_) (fun h9 => ?_)
    · replace hf := (if_neg h9).symm.trans hf
      refine lv_aload_n C.1.1 C.1.2.1 dX6_restore_20 rfl (lv_at hl 0 rfl) ?_
      have hk11 := sh6_6 hW hk_a0
      refine gf6_6 C hW hk_a0 w_411 dX6_restore_21 ?_
      refine lv_aload_n C.1.1 C.1.2.1 dX6_restore_24 rfl (lv_at hl 0 rfl) ?_
      have hk12 := sh6_12 hW hk_a0
      refine gf6_12 C hW hk_a0 w_417 dX6_restore_25 ?_
      refine lv_iload_n C.1.1 C.1.2.1 dX6_restore_28 rfl (lv_at hl 1 rfl) ?_
      obtain ⟨hv13, hf⟩ := gd hf
      obtain ⟨h014, hf⟩ := gd hf
      have hk15 := hW.1.2.2.2.2.1 _ _ hk12 _ h014
      refine waq C hW hk12 (vin_p hv13) h014 dX6_restore_29 ?_
      obtain ⟨σ17, hc16, hf⟩ := bd hf
      try dsimp only at hf
      refine cVv C hW (mX2_copyFrom hk11 hk15 hc16) hk11 kvX2_copyFrom w_780 ⟨(Nat.le_of_ble_eq_true rfl), (Nat.le_of_ble_eq_true rfl)⟩ ⟨Nat.zero_le _, Nat.zero_le _⟩ rfl hl.1 (rest := []) rfl (Nat.le_of_ble_eq_true rfl) dX6_restore_30 (fun H locs hW => ?_)
      refine lv_aload_n C.1.1 C.1.2.1 dX6_restore_33 rfl (lv_at hl 0 rfl) ?_
      refine lv_iconst (v := 0) C.1.1 C.1.2.1 dX6_restore_34 (by decide) ?_
      refine pf6_11 C hW hk_a0 w_416 dX6_restore_35 (fun H locs hW => ?_)
      refine lv_iconst (v := 1) C.1.1 C.1.2.1 dX6_restore_38 (by decide) ?_
      exact ri hQ C hr hlk hW hf (rok_z (Or.inr rfl)) dX6_restore_39
    · replace hf := (if_pos h9).symm.trans hf
      refine lv_iconst (v := 0) C.1.1 C.1.2.1 dX6_restore_18 (by decide) ?_
      exact ri hQ C hr hlk hW hf (rok_z (Or.inl rfl)) dX6_restore_19
theorem ksX6_isSpan : KS yX6_isSpan cX6_isSpan 1 (some .boolean) 1 := ⟨⟨w_874, w_109, w_875⟩, ⟨by decide, by decide, by decide +kernel⟩⟩
noncomputable def fX6_isSpan (p0 : Int32) (σ : Sg) : Option (Int32 × Sg) := if p0 < (1 : Int32) then (some ((0 : Int32), σ)) else (if (72 : Int32) < p0 then (some ((0 : Int32), σ)) else (some ((1 : Int32), σ)))
set_option maxRecDepth 100000 in
set_option maxHeartbeats 4000000 in
theorem mX6_isSpan {l : Launch} {G : Gm} {p0 : Int32} {σ : Sg} {r : Int32} {σ' : Sg}  (hf : fX6_isSpan p0 σ = some (r, σ')) : Mi l G yX6_isSpan cX6_isSpan 1 .boolean 0 0 [.int p0] σ r σ' := by
  refine of_W "RightKeys" rfl (by decide) (Nat.le_of_ble_eq_true rfl) ?_
  intro p e s m args below meth c Q hQ C hr hlk hW ls hl
  have h00 := hW.1
  have hl : lv_has ls 1 [(0, .int p0)] := hl
  delta fX6_isSpan at hf
  refine lv_iload_n C.1.1 C.1.2.1 dX6_isSpan_0 rfl (lv_at hl 0 rfl) ?_
  refine lv_iconst (v := 1) C.1.1 C.1.2.1 dX6_isSpan_1 (by decide) ?_
  refine lv_icmp_lt (tgt := 15) C.1.1 C.1.2.1 dX6_isSpan_2 (by decide) (fun h9 => ?_) (fun h9 => ?_)
  · replace hf := (if_pos h9).symm.trans hf
    refine lv_iconst (v := 0) C.1.1 C.1.2.1 dX6_isSpan_15 (by decide) ?_
    exact ri hQ C hr hlk hW hf (rok_z (Or.inl rfl)) dX6_isSpan_16
  · replace hf := (if_neg h9).symm.trans hf
    refine lv_iload_n C.1.1 C.1.2.1 dX6_isSpan_5 rfl (lv_at hl 0 rfl) ?_
    refine lv_bipush (v := 72) C.1.1 C.1.2.1 dX6_isSpan_6 (by decide) ?_
    refine lv_icmp_gt (tgt := 15) C.1.1 C.1.2.1 dX6_isSpan_8 (by decide) (fun h9 => ?_) (fun h9 => ?_)
    · replace hf := (if_pos h9).symm.trans hf
      refine lv_iconst (v := 0) C.1.1 C.1.2.1 dX6_isSpan_15 (by decide) ?_
      exact ri hQ C hr hlk hW hf (rok_z (Or.inl rfl)) dX6_isSpan_16
    · replace hf := (if_neg h9).symm.trans hf
      refine lv_iconst (v := 1) C.1.1 C.1.2.1 dX6_isSpan_11 (by decide) ?_
      refine lv_goto (tgt := 16) C.1.1 C.1.2.1 dX6_isSpan_12 (by decide) ?_
      exact ri hQ C hr hlk hW hf (rok_z (Or.inr rfl)) dX6_isSpan_16
theorem kvX6_startTrial : KV 6 "RightKeys" yX6_startTrial cX6_startTrial 1 none 0 := ⟨⟨w_878, w_37, w_109, w_879⟩, ⟨rfl, by decide, by decide, by decide +kernel⟩, by decide, rfl⟩
noncomputable def fX6_startTrial (a0 : Nat) (σ : Sg) : Option (Sg) := (fX2_copyFrom (a0 + 40) (a0 + 31) σ).bind (fun σ4 => (let σ9 := wI σ4 (a0 + 40) 7 (1 : Int32); some σ9))
set_option maxRecDepth 100000 in
set_option maxHeartbeats 4000000 in
theorem mX6_startTrial {l : Launch} {G : Gm} {a0 : Nat} {σ : Sg} {σ' : Sg} (hk_a0 : gK G a0 = 7) (hf : fX6_startTrial a0 σ = some σ') : Mv l G yX6_startTrial cX6_startTrial 1 2 61 [.ref (gB G + a0)] σ σ' := by
  refine of_W "RightKeys" rfl (by decide) (Nat.le_of_ble_eq_true rfl) ?_
  intro p e s m args below meth c Q hQ C hr hlk hW ls hl
  have h00 := hW.1
  have hl : lv_has ls 1 [(0, .ref (gB G + a0))] := hl
  delta fX6_startTrial at hf
  refine lv_aload_n C.1.1 C.1.2.1 dX6_startTrial_0 rfl (lv_at hl 0 rfl) ?_
  have hk1 := sh6_7 hW hk_a0
  refine gf6_7 C hW hk_a0 w_412 dX6_startTrial_1 ?_
  refine lv_aload_n C.1.1 C.1.2.1 dX6_startTrial_4 rfl (lv_at hl 0 rfl) ?_
  have hk2 := sh6_6 hW hk_a0
  refine gf6_6 C hW hk_a0 w_411 dX6_startTrial_5 ?_
  obtain ⟨σ4, hc3, hf⟩ := bd hf
  try dsimp only at hf
  refine cVv C hW (mX2_copyFrom hk1 hk2 hc3) hk1 kvX2_copyFrom w_780 ⟨(Nat.le_of_ble_eq_true rfl), (Nat.le_of_ble_eq_true rfl)⟩ ⟨Nat.zero_le _, Nat.zero_le _⟩ rfl hl.1 (rest := []) rfl (Nat.le_of_ble_eq_true rfl) dX6_startTrial_8 (fun H locs hW => ?_)
  refine lv_aload_n C.1.1 C.1.2.1 dX6_startTrial_11 rfl (lv_at hl 0 rfl) ?_
  have hk8 := sh6_7 hW hk_a0
  refine gf6_7 C hW hk_a0 w_412 dX6_startTrial_12 ?_
  refine lv_iconst (v := 1) C.1.1 C.1.2.1 dX6_startTrial_15 (by decide) ?_
  refine pf2_7 C hW hk8 w_311 (Or.inr rfl) dX6_startTrial_16 (fun H locs hW => ?_)
  exact rv hQ C hr hlk hW hf dX6_startTrial_19
theorem kvX6_stand : KV 6 "RightKeys" yX6_stand cX6_stand 3 (some .int) 2 := ⟨⟨w_870, w_871, w_109, w_872⟩, ⟨rfl, by decide, by decide, by decide +kernel⟩, by decide, rfl⟩
noncomputable def jX6_stand_22 (a0 : Nat) (p1 : Int32) (p2 : Int32) (σ : Sg) : Option (Int32 × Sg) := (fX6_startTrial a0 σ).bind (fun σ7 => (fX5_follow (a0 + 49) (a0 + 40) p2 σ7).bind (fun σ14 => if p1 = (-1 : Int32) then (some ((σ14.1 (a0 + 49) 1), σ14)) else (if vin p1 8 then (some ((σ14.1 ((a0 + 49) + 1) ((p1).toNatClampNeg)), σ14)) else none)))
noncomputable def fX6_stand (a0 : Nat) (p1 : Int32) (p2 : Int32) (σ : Sg) : Option (Int32 × Sg) := (fX6_isSpan p2 σ).bind (fun q5 => let r3 := q5.1; let σ2 := q5.2; if r3 = 0 then (some ((-1 : Int32), σ2)) else (if p1 = (-1 : Int32) then (jX6_stand_22 a0 p1 p2 σ2) else ((fX6_isHouse a0 p1 σ2).bind (fun q26 => let r24 := q26.1; let σ23 := q26.2; if r24 = 0 then (some ((-1 : Int32), σ23)) else (jX6_stand_22 a0 p1 p2 σ23)))))
set_option maxRecDepth 100000 in
set_option maxHeartbeats 4000000 in
theorem mX6_stand {l : Launch} {G : Gm} {a0 : Nat} {p1 : Int32} {p2 : Int32} {σ : Sg} {r : Int32} {σ' : Sg} (hk_a0 : gK G a0 = 7) (hf : fX6_stand a0 p1 p2 σ = some (r, σ')) : Mi l G yX6_stand cX6_stand 3 .int 7 178 [.ref (gB G + a0), .int p1, .int p2] σ r σ' := by
  refine of_W "RightKeys" rfl (by decide) (Nat.le_of_ble_eq_true rfl) ?_
  intro p e s m args below meth c Q hQ C hr hlk hW ls hl
  have h00 := hW.1
  have hl : lv_has ls 3 [(0, .ref (gB G + a0)), (1, .int p1), (2, .int p2)] := hl
  delta fX6_stand at hf
  have J22 : ∀ (σ : Sg) (H : Heap) (locs : List Loc) (ls : Array Slot), jX6_stand_22 a0 p1 p2 σ = some (r, σ') → Ws G σ s.heap H locs → lv_has ls 3 [(0, .ref (gB G + a0)), (1, .int p1), (2, .int p2)] → W p l e (rmOf 7 178) s m args below meth c H locs 0 0 Q (F0 m 22 ls []) := by
    intro σ H locs ls hf hW hl
    delta jX6_stand_22 at hf
    refine lv_aload_n C.1.1 C.1.2.1 dX6_stand_22 rfl (lv_at hl 0 rfl) ?_
    obtain ⟨σ7, hc6, hf⟩ := bd hf
    try dsimp only at hf
    refine cVv C hW (mX6_startTrial hk_a0 hc6) hk_a0 kvX6_startTrial w_876 ⟨(Nat.le_of_ble_eq_true rfl), (Nat.le_of_ble_eq_true rfl)⟩ ⟨Nat.zero_le _, Nat.zero_le _⟩ rfl hl.1 (rest := []) rfl (Nat.le_of_ble_eq_true rfl) dX6_stand_23 (fun H locs hW => ?_)
    refine lv_aload_n C.1.1 C.1.2.1 dX6_stand_26 rfl (lv_at hl 0 rfl) ?_
    have hk11 := sh6_8 hW hk_a0
    refine gf6_8 C hW hk_a0 w_413 dX6_stand_27 ?_
    refine lv_aload_n C.1.1 C.1.2.1 dX6_stand_30 rfl (lv_at hl 0 rfl) ?_
    have hk12 := sh6_7 hW hk_a0
    refine gf6_7 C hW hk_a0 w_412 dX6_stand_31 ?_
    refine lv_iload_n C.1.1 C.1.2.1 dX6_stand_34 rfl (lv_at hl 2 rfl) ?_
    obtain ⟨σ14, hc13, hf⟩ := bd hf
    try dsimp only at hf
    refine cVv C hW (mX5_follow hk11 hk12 hc13) hk11 kvX5_follow w_880 ⟨(Nat.le_of_ble_eq_true rfl), (Nat.le_of_ble_eq_true rfl)⟩ ⟨Nat.zero_le _, Nat.zero_le _⟩ rfl hl.1 (rest := []) rfl (Nat.le_of_ble_eq_true rfl) dX6_stand_35 (fun H locs hW => ?_)
    refine lv_iload_n C.1.1 C.1.2.1 dX6_stand_38 rfl (lv_at hl 1 rfl) ?_
    refine lv_iconst (v := (-1)) C.1.1 C.1.2.1 dX6_stand_39 (by decide) ?_
    refine lv_icmp_ne (tgt := 53) C.1.1 C.1.2.1 dX6_stand_40 (by decide) (fun h9 => ?_) (fun h9 => ?_)
    · replace hf := (if_neg h9).symm.trans hf
      refine lv_aload_n C.1.1 C.1.2.1 dX6_stand_53 rfl (lv_at hl 0 rfl) ?_
      have hk18 := sh6_8 hW hk_a0
      refine gf6_8 C hW hk_a0 w_413 dX6_stand_54 ?_
      have hk19 := sh5_0 hW hk18
      refine gf5_0 C hW hk18 w_384 dX6_stand_57 ?_
      refine lv_iload_n C.1.1 C.1.2.1 dX6_stand_60 rfl (lv_at hl 1 rfl) ?_
      obtain ⟨hv20, hf⟩ := gd hf
      refine wai C hW hk19 (vin_p hv20) dX6_stand_61 ?_
      exact ri hQ C hr hlk hW hf (rok_i _) dX6_stand_62
    · replace hf := (if_pos h9).symm.trans hf
      refine lv_aload_n C.1.1 C.1.2.1 dX6_stand_43 rfl (lv_at hl 0 rfl) ?_
      have hk21 := sh6_8 hW hk_a0
      refine gf6_8 C hW hk_a0 w_413 dX6_stand_44 ?_
      refine gf5_1 C hW hk21 w_386 dX6_stand_47 ?_
      refine lv_goto (tgt := 62) C.1.1 C.1.2.1 dX6_stand_50 (by decide) ?_
      exact ri hQ C hr hlk hW hf (rok_i _) dX6_stand_62
  refine lv_iload_n C.1.1 C.1.2.1 dX6_stand_0 rfl (lv_at hl 2 rfl) ?_
  obtain ⟨⟨r3, σ2⟩, hc1, hf⟩ := bd hf
  try dsimp only at hf
  refine cSi C hW (mX6_isSpan hc1) ksX6_isSpan w_873 ⟨(Nat.le_of_ble_eq_true rfl), (Nat.le_of_ble_eq_true rfl)⟩ ⟨Nat.zero_le _, Nat.zero_le _⟩ rfl hl.1 (rest := []) rfl (Nat.le_of_ble_eq_true rfl) dX6_stand_1 (fun H locs hn4 hW => ?_)
  refine lv_if_eq (tgt := 20) C.1.1 C.1.2.1 dX6_stand_4 (by decide) (fun h9 => ?_) (fun h9 => ?_)
  · replace hf := (if_pos h9).symm.trans hf
    refine lv_iconst (v := (-1)) C.1.1 C.1.2.1 dX6_stand_20 (by decide) ?_
    exact ri hQ C hr hlk hW hf (rok_i _) dX6_stand_21
  · replace hf := (if_neg h9).symm.trans hf
    refine lv_iload_n C.1.1 C.1.2.1 dX6_stand_7 rfl (lv_at hl 1 rfl) ?_
    refine lv_iconst (v := (-1)) C.1.1 C.1.2.1 dX6_stand_8 (by decide) ?_
    refine lv_icmp_eq (tgt := 22) C.1.1 C.1.2.1 dX6_stand_9 (by decide) (fun h9 => ?_) (fun h9 => ?_)
    · replace hf := (if_pos h9).symm.trans hf
      exact J22 _ _ _ _ hf hW (lv_sub hl [0, 1, 2] rfl)
    · replace hf := (if_neg h9).symm.trans hf
      refine lv_aload_n C.1.1 C.1.2.1 dX6_stand_12 rfl (lv_at hl 0 rfl) ?_
      refine lv_iload_n C.1.1 C.1.2.1 dX6_stand_13 rfl (lv_at hl 1 rfl) ?_
      obtain ⟨⟨r24, σ23⟩, hc22, hf⟩ := bd hf
      try dsimp only at hf
      refine cVi C hW (mX6_isHouse hk_a0 hc22) hk_a0 kvX6_isHouse w_674 ⟨(Nat.le_of_ble_eq_true rfl), (Nat.le_of_ble_eq_true rfl)⟩ ⟨Nat.zero_le _, Nat.zero_le _⟩ rfl hl.1 (rest := []) rfl (Nat.le_of_ble_eq_true rfl) dX6_stand_14 (fun H locs hn25 hW => ?_)
      refine lv_if_ne (tgt := 22) C.1.1 C.1.2.1 dX6_stand_17 (by decide) (fun h9 => ?_) (fun h9 => ?_)
      · replace hf := (if_neg h9).symm.trans hf
        exact J22 _ _ _ _ hf hW (lv_sub hl [0, 1, 2] rfl)
      · replace hf := (if_pos h9).symm.trans hf
        refine lv_iconst (v := (-1)) C.1.1 C.1.2.1 dX6_stand_20 (by decide) ?_
        exact ri hQ C hr hlk hW hf (rok_i _) dX6_stand_21
theorem kvX6_firstStand : KV 6 "RightKeys" yX6_firstStand cX6_firstStand 2 (some .int) 1 := ⟨⟨w_893, w_894, w_109, w_895⟩, ⟨rfl, by decide, by decide, by decide +kernel⟩, by decide, rfl⟩
noncomputable def fX6_firstStand (a0 : Nat) (p1 : Int32) (σ : Sg) : Option (Int32 × Sg) := (fX6_isSpan p1 σ).bind (fun q5 => let r3 := q5.1; let σ2 := q5.2; if r3 = 0 then (some ((-1 : Int32), σ2)) else ((fX6_startTrial a0 σ2).bind (fun σ7 => (fX5_firstHour (a0 + 49) (a0 + 40) p1 σ7).bind (fun q17 => let r15 := q17.1; let σ14 := q17.2; some (r15, σ14)))))
set_option maxRecDepth 100000 in
set_option maxHeartbeats 4000000 in
theorem mX6_firstStand {l : Launch} {G : Gm} {a0 : Nat} {p1 : Int32} {σ : Sg} {r : Int32} {σ' : Sg} (hk_a0 : gK G a0 = 7) (hf : fX6_firstStand a0 p1 σ = some (r, σ')) : Mi l G yX6_firstStand cX6_firstStand 2 .int 7 178 [.ref (gB G + a0), .int p1] σ r σ' := by
  refine of_W "RightKeys" rfl (by decide) (Nat.le_of_ble_eq_true rfl) ?_
  intro p e s m args below meth c Q hQ C hr hlk hW ls hl
  have h00 := hW.1
  have hl : lv_has ls 2 [(0, .ref (gB G + a0)), (1, .int p1)] := hl
  delta fX6_firstStand at hf
  refine lv_iload_n C.1.1 C.1.2.1 dX6_firstStand_0 rfl (lv_at hl 1 rfl) ?_
  obtain ⟨⟨r3, σ2⟩, hc1, hf⟩ := bd hf
  try dsimp only at hf
  refine cSi C hW (mX6_isSpan hc1) ksX6_isSpan w_873 ⟨(Nat.le_of_ble_eq_true rfl), (Nat.le_of_ble_eq_true rfl)⟩ ⟨Nat.zero_le _, Nat.zero_le _⟩ rfl hl.1 (rest := []) rfl (Nat.le_of_ble_eq_true rfl) dX6_firstStand_1 (fun H locs hn4 hW => ?_)
  refine lv_if_ne (tgt := 9) C.1.1 C.1.2.1 dX6_firstStand_4 (by decide) (fun h9 => ?_) (fun h9 => ?_)
  · replace hf := (if_neg h9).symm.trans hf
    refine lv_aload_n C.1.1 C.1.2.1 dX6_firstStand_9 rfl (lv_at hl 0 rfl) ?_
    obtain ⟨σ7, hc6, hf⟩ := bd hf
    try dsimp only at hf
    refine cVv C hW (mX6_startTrial hk_a0 hc6) hk_a0 kvX6_startTrial w_876 ⟨(Nat.le_of_ble_eq_true rfl), (Nat.le_of_ble_eq_true rfl)⟩ ⟨Nat.zero_le _, Nat.zero_le _⟩ rfl hl.1 (rest := []) rfl (Nat.le_of_ble_eq_true rfl) dX6_firstStand_10 (fun H locs hW => ?_)
    refine lv_aload_n C.1.1 C.1.2.1 dX6_firstStand_13 rfl (lv_at hl 0 rfl) ?_
    have hk11 := sh6_8 hW hk_a0
    refine gf6_8 C hW hk_a0 w_413 dX6_firstStand_14 ?_
    refine lv_aload_n C.1.1 C.1.2.1 dX6_firstStand_17 rfl (lv_at hl 0 rfl) ?_
    have hk12 := sh6_7 hW hk_a0
    refine gf6_7 C hW hk_a0 w_412 dX6_firstStand_18 ?_
    refine lv_iload_n C.1.1 C.1.2.1 dX6_firstStand_21 rfl (lv_at hl 1 rfl) ?_
    obtain ⟨⟨r15, σ14⟩, hc13, hf⟩ := bd hf
    try dsimp only at hf
    refine cVi C hW (mX5_firstHour hk11 hk12 hc13) hk11 kvX5_firstHour w_896 ⟨(Nat.le_of_ble_eq_true rfl), (Nat.le_of_ble_eq_true rfl)⟩ ⟨Nat.zero_le _, Nat.zero_le _⟩ rfl hl.1 (rest := []) rfl (Nat.le_of_ble_eq_true rfl) dX6_firstStand_22 (fun H locs hn16 hW => ?_)
    exact ri hQ C hr hlk hW hf (rok_i _) dX6_firstStand_25
  · replace hf := (if_pos h9).symm.trans hf
    refine lv_iconst (v := (-1)) C.1.1 C.1.2.1 dX6_firstStand_7 (by decide) ?_
    exact ri hQ C hr hlk hW hf (rok_i _) dX6_firstStand_8
theorem ksX6_isEither : KS yX6_isEither cX6_isEither 1 (some .boolean) 1 := ⟨⟨w_905, w_109, w_906⟩, ⟨by decide, by decide, by decide +kernel⟩⟩
noncomputable def jX6_isEither_9 (p0 : Int32) (σ : Sg) : Option (Int32 × Sg) := some ((1 : Int32), σ)
noncomputable def fX6_isEither (p0 : Int32) (σ : Sg) : Option (Int32 × Sg) := if p0 = 0 then (jX6_isEither_9 p0 σ) else (if p0 = (1 : Int32) then (jX6_isEither_9 p0 σ) else (some ((0 : Int32), σ)))
set_option maxRecDepth 100000 in
set_option maxHeartbeats 4000000 in
theorem mX6_isEither {l : Launch} {G : Gm} {p0 : Int32} {σ : Sg} {r : Int32} {σ' : Sg}  (hf : fX6_isEither p0 σ = some (r, σ')) : Mi l G yX6_isEither cX6_isEither 1 .boolean 0 0 [.int p0] σ r σ' := by
  refine of_W "RightKeys" rfl (by decide) (Nat.le_of_ble_eq_true rfl) ?_
  intro p e s m args below meth c Q hQ C hr hlk hW ls hl
  have h00 := hW.1
  have hl : lv_has ls 1 [(0, .int p0)] := hl
  delta fX6_isEither at hf
  have J9 : ∀ (σ : Sg) (H : Heap) (locs : List Loc) (ls : Array Slot), jX6_isEither_9 p0 σ = some (r, σ') → Ws G σ s.heap H locs → lv_has ls 1 [] → W p l e (rmOf 0 0) s m args below meth c H locs 0 0 Q (F0 m 9 ls []) := by
    intro σ H locs ls hf hW hl
    delta jX6_isEither_9 at hf
    refine lv_iconst (v := 1) C.1.1 C.1.2.1 dX6_isEither_9 (by decide) ?_
    refine lv_goto (tgt := 14) C.1.1 C.1.2.1 dX6_isEither_10 (by decide) ?_
    exact ri hQ C hr hlk hW hf (rok_z (Or.inr rfl)) dX6_isEither_14
  refine lv_iload_n C.1.1 C.1.2.1 dX6_isEither_0 rfl (lv_at hl 0 rfl) ?_
  refine lv_if_eq (tgt := 9) C.1.1 C.1.2.1 dX6_isEither_1 (by decide) (fun h9 => ?_) (fun h9 => ?_)
  · replace hf := (if_pos h9).symm.trans hf
    exact J9 _ _ _ _ hf hW (lv_sub hl [] rfl)
  · replace hf := (if_neg h9).symm.trans hf
    refine lv_iload_n C.1.1 C.1.2.1 dX6_isEither_4 rfl (lv_at hl 0 rfl) ?_
    refine lv_iconst (v := 1) C.1.1 C.1.2.1 dX6_isEither_5 (by decide) ?_
    refine lv_icmp_ne (tgt := 13) C.1.1 C.1.2.1 dX6_isEither_6 (by decide) (fun h9 => ?_) (fun h9 => ?_)
    · replace hf := (if_neg h9).symm.trans hf
      refine lv_iconst (v := 0) C.1.1 C.1.2.1 dX6_isEither_13 (by decide) ?_
      exact ri hQ C hr hlk hW hf (rok_z (Or.inl rfl)) dX6_isEither_14
    · replace hf := (if_pos h9).symm.trans hf
      exact J9 _ _ _ _ hf hW (lv_sub hl [] rfl)
theorem kvX6_stay : KV 6 "RightKeys" yX6_stay cX6_stay 5 (some .int) 1 := ⟨⟨w_901, w_902, w_109, w_903⟩, ⟨rfl, by decide, by decide, by decide +kernel⟩, by decide, rfl⟩
noncomputable def jX6_stay_105 (a0 : Nat) (p1 : Int32) (x2 : Int32) (x3 : Int32) (x4 : Int32) (σ : Sg) : Option ((Int32 × Sg) ⊕ ((Int32 × Sg) ⊕ (Sg))) := (let x4_17 := x4 + (1 : Int32); some (Sum.inl (x4_17, σ)))
noncomputable def bX6_stay_30 (a0 : Nat) (p1 : Int32) (x2 : Int32) (x3 : Int32) (x4 : Int32) (σ : Sg) : Option ((Int32 × Sg) ⊕ ((Int32 × Sg) ⊕ (Sg))) := if x2 < x4 then (some (Sum.inr (Sum.inr σ))) else ((fJ6_bitCount_0f7a4 x4 σ).bind (fun q16 => let r14 := q16.1; let σ13 := q16.2; if r14 = x3 then (if (x4 &&& (σ13.1 (a0 + 31) 4)) = 0 then ((fX6_startTrial a0 σ13).bind (fun σ20 => (let σ25 := wI σ20 (a0 + 40) 4 ((σ20.1 (a0 + 40) 4) ||| x4); (fX5_firstHour (a0 + 49) (a0 + 40) (72 : Int32) σ25).bind (fun q32 => let r30 := q32.1; let σ29 := q32.2; if r30 = (-2 : Int32) then (some (Sum.inr (Sum.inl (x4, σ29)))) else (jX6_stay_105 a0 p1 x2 x3 x4 σ29))))) else (jX6_stay_105 a0 p1 x2 x3 x4 σ13)) else (jX6_stay_105 a0 p1 x2 x3 x4 σ13)))
noncomputable def bX6_stay_16 (a0 : Nat) (p1 : Int32) (x2 : Int32) (x3 : Int32) (σ : Sg) : Option ((Int32 × Sg) ⊕ ((Int32 × Int32 × Sg) ⊕ (Sg))) := if (σ.1 (σ.2.2.1 a0 3) 0) < x3 then (some (Sum.inr (Sum.inr σ))) else ((lp (fun st => bX6_stay_30 a0 p1 x2 x3 st.1 st.2) ((0 : Int32), σ)).bind (fun o33 => Sum.elim (fun q36 => let y35 := q36.1; let σ34 := q36.2;  some (Sum.inr (Sum.inl (x3, y35, σ34)))) (fun o33_ => (fun σ37 => (let x3_38 := x3 + (1 : Int32); some (Sum.inl (x3_38, σ37)))) o33_) o33))
noncomputable def fX6_stay (a0 : Nat) (p1 : Int32) (σ : Sg) : Option (Int32 × Sg) := (fX6_isEither p1 σ).bind (fun q5 => let r3 := q5.1; let σ2 := q5.2; if r3 = 0 then (some ((-1 : Int32), σ2)) else ((fX6_allHouses a0 σ2).bind (fun q10 => let r8 := q10.1; let σ7 := q10.2; (lp (fun st => bX6_stay_16 a0 p1 r8 st.1 st.2) ((0 : Int32), σ7)).bind (fun o39 => Sum.elim (fun q43 => let y41 := q43.1; let y42 := q43.2.1; let σ40 := q43.2.2;  if p1 = 0 then (some (y41, σ40)) else (some (y42, σ40))) (fun o39_ => (fun σ44 => some ((-2 : Int32), σ44)) o39_) o39))))
set_option maxRecDepth 100000 in
set_option maxHeartbeats 4000000 in
theorem mX6_stay {l : Launch} {G : Gm} {a0 : Nat} {p1 : Int32} {σ : Sg} {r : Int32} {σ' : Sg} (hk_a0 : gK G a0 = 7) (hf : fX6_stay a0 p1 σ = some (r, σ')) : Mi l G yX6_stay cX6_stay 5 .int 7 178 [.ref (gB G + a0), .int p1] σ r σ' := by
  refine of_W "RightKeys" rfl (by decide) (Nat.le_of_ble_eq_true rfl) ?_
  intro p e s m args below meth c Q hQ C hr hlk hW ls hl
  have h00 := hW.1
  have hl : lv_has ls 5 [(0, .ref (gB G + a0)), (1, .int p1)] := hl
  delta fX6_stay at hf
  have L16 : ∀ (x2 : Int32) (n : Nat) (x3 : Int32) (σ : Sg) (H : Heap) (locs : List Loc) (ls : Array Slot) (out : ((Int32 × Int32 × Sg) ⊕ (Sg))), iter (fun st => bX6_stay_16 a0 p1 x2 st.1 st.2) n (x3, σ) = some out → Ws G σ s.heap H locs → lv_has ls 5 [(0, .ref (gB G + a0)), (1, .int p1), (2, .int x2), (3, .int x3)] → (∀ (y3 : Int32) (y4 : Int32) (σ : Sg) (H : Heap) (locs : List Loc) (ls : Array Slot), out = (Sum.inl (y3, y4, σ)) → Ws G σ s.heap H locs → lv_has ls 5 [(1, .int p1), (3, .int y3), (4, .int y4)] → W p l e (rmOf 7 178) s m args below meth c H locs 0 0 Q (F0 m 94 ls [])) → (∀ (σ : Sg) (H : Heap) (locs : List Loc) (ls : Array Slot), out = (Sum.inr σ) → Ws G σ s.heap H locs → lv_has ls 5 [] → W p l e (rmOf 7 178) s m args below meth c H locs 0 0 Q (F0 m 117 ls [])) → W p l e (rmOf 7 178) s m args below meth c H locs 0 0 Q (F0 m 16 ls []) := by
    intro x2 n
    induction n with
    | zero =>
      intro x3 σ H locs ls out hf
      exact (it_0 hf).elim
    | succ n ih =>
      intro x3 σ H locs ls out hf hW hl K16_94 K16_117
      obtain ⟨x, hf, hx⟩ := it_s hf
      have hf : bX6_stay_16 a0 p1 x2 x3 σ = some x := hf
      delta bX6_stay_16 at hf
      have L30 : ∀ (x2 : Int32) (x3 : Int32) (n : Nat) (x4 : Int32) (σ : Sg) (H : Heap) (locs : List Loc) (ls : Array Slot) (out : ((Int32 × Sg) ⊕ (Sg))), iter (fun st => bX6_stay_30 a0 p1 x2 x3 st.1 st.2) n (x4, σ) = some out → Ws G σ s.heap H locs → lv_has ls 5 [(0, .ref (gB G + a0)), (1, .int p1), (2, .int x2), (3, .int x3), (4, .int x4)] → (∀ (y4 : Int32) (σ : Sg) (H : Heap) (locs : List Loc) (ls : Array Slot), out = (Sum.inl (y4, σ)) → Ws G σ s.heap H locs → lv_has ls 5 [(1, .int p1), (3, .int x3), (4, .int y4)] → W p l e (rmOf 7 178) s m args below meth c H locs 0 0 Q (F0 m 94 ls [])) → (∀ (σ : Sg) (H : Heap) (locs : List Loc) (ls : Array Slot), out = (Sum.inr σ) → Ws G σ s.heap H locs → lv_has ls 5 [(0, .ref (gB G + a0)), (1, .int p1), (2, .int x2), (3, .int x3)] → W p l e (rmOf 7 178) s m args below meth c H locs 0 0 Q (F0 m 111 ls [])) → W p l e (rmOf 7 178) s m args below meth c H locs 0 0 Q (F0 m 30 ls []) := by
        intro x2 x3 n
        induction n with
        | zero =>
          intro x4 σ H locs ls out hf
          exact (it_0 hf).elim
        | succ n ih =>
          intro x4 σ H locs ls out hf hW hl K30_94 K30_111
          obtain ⟨x, hf, hx⟩ := it_s hf
          have hf : bX6_stay_30 a0 p1 x2 x3 x4 σ = some x := hf
          delta bX6_stay_30 at hf
          have J105 : ∀ (x4 : Int32) (σ : Sg) (H : Heap) (locs : List Loc) (ls : Array Slot), jX6_stay_105 a0 p1 x2 x3 x4 σ = some x → Ws G σ s.heap H locs → lv_has ls 5 [(0, .ref (gB G + a0)), (1, .int p1), (2, .int x2), (3, .int x3), (4, .int x4)] → W p l e (rmOf 7 178) s m args below meth c H locs 0 0 Q (F0 m 105 ls []) := by
            intro x4 σ H locs ls hf hW hl
            delta jX6_stay_105 at hf
            refine lv_iinc (v := _) (lv' := [(4, .int _), (0, .ref _), (1, .int _), (2, .int _), (3, .int _)]) C.1.1 C.1.2.1 dX6_stay_105 hl (k := 4) rfl (ii (k := 1) (by decide)) (by decide) rfl (fun ls hl => ?_)
            refine lv_goto (tgt := 30) C.1.1 C.1.2.1 dX6_stay_108 (by decide) ?_
            cases hf
            exact ih _ _ _ _ _ _ hx hW (lv_sub hl [1, 2, 3, 4, 0] rfl) K30_94 K30_111
          refine lv_iload C.1.1 C.1.2.1 dX6_stay_30 (lv_at hl 4 rfl) ?_
          refine lv_iload_n C.1.1 C.1.2.1 dX6_stay_32 rfl (lv_at hl 2 rfl) ?_
          refine lv_icmp_gt (tgt := 111) C.1.1 C.1.2.1 dX6_stay_33 (by decide) (fun h9 => ?_) (fun h9 => ?_)
          · replace hf := (if_pos h9).symm.trans hf
            cases hf
            cases hx
            exact K30_111 _ _ _ _ rfl hW (lv_sub hl [0, 1, 2, 3] rfl)
          · replace hf := (if_neg h9).symm.trans hf
            refine lv_iload C.1.1 C.1.2.1 dX6_stay_36 (lv_at hl 4 rfl) ?_
            obtain ⟨⟨r14, σ13⟩, hc12, hf⟩ := bd hf
            try dsimp only at hf
            refine cSi C hW (mJ6_bitCount_0f7a4 hc12) ksJ6_bitCount_0f7a4 w_762 ⟨(Nat.le_of_ble_eq_true rfl), (Nat.le_of_ble_eq_true rfl)⟩ ⟨Nat.zero_le _, Nat.zero_le _⟩ rfl hl.1 (rest := []) rfl (Nat.le_of_ble_eq_true rfl) dX6_stay_38 (fun H locs hn15 hW => ?_)
            refine lv_iload_n C.1.1 C.1.2.1 dX6_stay_41 rfl (lv_at hl 3 rfl) ?_
            refine lv_icmp_ne (tgt := 105) C.1.1 C.1.2.1 dX6_stay_42 (by decide) (fun h9 => ?_) (fun h9 => ?_)
            · replace hf := (if_neg h9).symm.trans hf
              exact J105 _ _ _ _ _ hf hW (lv_sub hl [0, 1, 2, 3, 4] rfl)
            · replace hf := (if_pos h9).symm.trans hf
              refine lv_iload C.1.1 C.1.2.1 dX6_stay_45 (lv_at hl 4 rfl) ?_
              refine lv_aload_n C.1.1 C.1.2.1 dX6_stay_47 rfl (lv_at hl 0 rfl) ?_
              have hk18 := sh6_6 hW hk_a0
              refine gf6_6 C hW hk_a0 w_411 dX6_stay_48 ?_
              refine gf2_4 C hW hk18 w_306 dX6_stay_51 ?_
              refine lv_iand C.1.1 C.1.2.1 dX6_stay_54 ?_
              refine lv_if_ne (tgt := 105) C.1.1 C.1.2.1 dX6_stay_55 (by decide) (fun h9 => ?_) (fun h9 => ?_)
              · replace hf := (if_neg h9).symm.trans hf
                exact J105 _ _ _ _ _ hf hW (lv_sub hl [0, 1, 2, 3, 4] rfl)
              · replace hf := (if_pos h9).symm.trans hf
                refine lv_aload_n C.1.1 C.1.2.1 dX6_stay_58 rfl (lv_at hl 0 rfl) ?_
                obtain ⟨σ20, hc19, hf⟩ := bd hf
                try dsimp only at hf
                refine cVv C hW (mX6_startTrial hk_a0 hc19) hk_a0 kvX6_startTrial w_876 ⟨(Nat.le_of_ble_eq_true rfl), (Nat.le_of_ble_eq_true rfl)⟩ ⟨Nat.zero_le _, Nat.zero_le _⟩ rfl hl.1 (rest := []) rfl (Nat.le_of_ble_eq_true rfl) dX6_stay_59 (fun H locs hW => ?_)
                refine lv_aload_n C.1.1 C.1.2.1 dX6_stay_62 rfl (lv_at hl 0 rfl) ?_
                have hk24 := sh6_7 hW hk_a0
                refine gf6_7 C hW hk_a0 w_412 dX6_stay_63 ?_
                refine lv_dup C.1.1 C.1.2.1 dX6_stay_66 rfl ?_
                refine gf2_4 C hW hk24 w_306 dX6_stay_67 ?_
                refine lv_iload C.1.1 C.1.2.1 dX6_stay_70 (lv_at hl 4 rfl) ?_
                refine lv_ior C.1.1 C.1.2.1 dX6_stay_72 ?_
                refine pf2_4 C hW hk24 w_306 dX6_stay_73 (fun H locs hW => ?_)
                refine lv_aload_n C.1.1 C.1.2.1 dX6_stay_76 rfl (lv_at hl 0 rfl) ?_
                have hk26 := sh6_8 hW hk_a0
                refine gf6_8 C hW hk_a0 w_413 dX6_stay_77 ?_
                refine lv_aload_n C.1.1 C.1.2.1 dX6_stay_80 rfl (lv_at hl 0 rfl) ?_
                have hk27 := sh6_7 hW hk_a0
                refine gf6_7 C hW hk_a0 w_412 dX6_stay_81 ?_
                refine lv_bipush (v := 72) C.1.1 C.1.2.1 dX6_stay_84 (by decide) ?_
                obtain ⟨⟨r30, σ29⟩, hc28, hf⟩ := bd hf
                try dsimp only at hf
                refine cVi C hW (mX5_firstHour hk26 hk27 hc28) hk26 kvX5_firstHour w_896 ⟨(Nat.le_of_ble_eq_true rfl), (Nat.le_of_ble_eq_true rfl)⟩ ⟨Nat.zero_le _, Nat.zero_le _⟩ rfl hl.1 (rest := []) rfl (Nat.le_of_ble_eq_true rfl) dX6_stay_86 (fun H locs hn31 hW => ?_)
                refine lv_bipush (v := (-2)) C.1.1 C.1.2.1 dX6_stay_89 (by decide) ?_
                refine lv_icmp_ne (tgt := 105) C.1.1 C.1.2.1 dX6_stay_91 (by decide) (fun h9 => ?_) (fun h9 => ?_)
                · replace hf := (if_neg h9).symm.trans hf
                  exact J105 _ _ _ _ _ hf hW (lv_sub hl [0, 1, 2, 3, 4] rfl)
                · replace hf := (if_pos h9).symm.trans hf
                  cases hf
                  cases hx
                  exact K30_94 _ _ _ _ _ rfl hW (lv_sub hl [1, 3, 4] rfl)
      refine lv_iload_n C.1.1 C.1.2.1 dX6_stay_16 rfl (lv_at hl 3 rfl) ?_
      refine lv_aload_n C.1.1 C.1.2.1 dX6_stay_17 rfl (lv_at hl 0 rfl) ?_
      have hk11 := sh6_3 hW hk_a0
      refine gf6_3 C hW hk_a0 w_408 dX6_stay_18 ?_
      refine gf3_0 C hW hk11 w_182 dX6_stay_21 ?_
      refine lv_icmp_gt (tgt := 117) C.1.1 C.1.2.1 dX6_stay_24 (by decide) (fun h9 => ?_) (fun h9 => ?_)
      · replace hf := (if_pos h9).symm.trans hf
        cases hf
        cases hx
        exact K16_117 _ _ _ _ rfl hW (lv_sub hl [] rfl)
      · replace hf := (if_neg h9).symm.trans hf
        refine lv_iconst (v := 0) C.1.1 C.1.2.1 dX6_stay_27 (by decide) ?_
        refine lv_istore (lv' := [(4, .int _), (0, .ref _), (1, .int _), (2, .int _), (3, .int _)]) C.1.1 C.1.2.1 dX6_stay_28 hl (by decide) rfl (fun ls hl => ?_)
        obtain ⟨o33, ho, hf⟩ := bd hf
        obtain ⟨n, ho⟩ := lp_it ho
        refine L30 _ _ n _ _ _ _ _ o33 ho hW (lv_sub hl [1, 2, 3, 4, 0] rfl) ?_ ?_
        · intro y35 σ34 H locs ls e9 hW hl
          subst e9
          try dsimp only at hf
          cases hf
          cases hx
          exact K16_94 _ _ _ _ _ _ rfl hW (lv_sub hl [0, 1, 2] rfl)
        · intro  σ37 H locs ls e9 hW hl
          subst e9
          try dsimp only at hf
          refine lv_iinc (v := _) (lv' := [(3, .int _), (0, .ref _), (1, .int _), (2, .int _)]) C.1.1 C.1.2.1 dX6_stay_111 hl (k := 3) rfl (ii (k := 1) (by decide)) (by decide) rfl (fun ls hl => ?_)
          refine lv_goto (tgt := 16) C.1.1 C.1.2.1 dX6_stay_114 (by decide) ?_
          cases hf
          exact ih _ _ _ _ _ _ hx hW (lv_sub hl [1, 2, 3, 0] rfl) K16_94 K16_117
  refine lv_iload_n C.1.1 C.1.2.1 dX6_stay_0 rfl (lv_at hl 1 rfl) ?_
  obtain ⟨⟨r3, σ2⟩, hc1, hf⟩ := bd hf
  try dsimp only at hf
  refine cSi C hW (mX6_isEither hc1) ksX6_isEither w_904 ⟨(Nat.le_of_ble_eq_true rfl), (Nat.le_of_ble_eq_true rfl)⟩ ⟨Nat.zero_le _, Nat.zero_le _⟩ rfl hl.1 (rest := []) rfl (Nat.le_of_ble_eq_true rfl) dX6_stay_1 (fun H locs hn4 hW => ?_)
  refine lv_if_ne (tgt := 9) C.1.1 C.1.2.1 dX6_stay_4 (by decide) (fun h9 => ?_) (fun h9 => ?_)
  · replace hf := (if_neg h9).symm.trans hf
    refine lv_aload_n C.1.1 C.1.2.1 dX6_stay_9 rfl (lv_at hl 0 rfl) ?_
    obtain ⟨⟨r8, σ7⟩, hc6, hf⟩ := bd hf
    try dsimp only at hf
    refine cVi C hW (mX6_allHouses hk_a0 hc6) hk_a0 kvX6_allHouses w_758 ⟨(Nat.le_of_ble_eq_true rfl), (Nat.le_of_ble_eq_true rfl)⟩ ⟨Nat.zero_le _, Nat.zero_le _⟩ rfl hl.1 (rest := []) rfl (Nat.le_of_ble_eq_true rfl) dX6_stay_10 (fun H locs hn9 hW => ?_)
    refine lv_istore_n (lv' := [(2, .int _), (0, .ref _), (1, .int _)]) C.1.1 C.1.2.1 dX6_stay_13 rfl hl (by decide) rfl (fun ls hl => ?_)
    refine lv_iconst (v := 0) C.1.1 C.1.2.1 dX6_stay_14 (by decide) ?_
    refine lv_istore_n (lv' := [(3, .int _), (2, .int _), (0, .ref _), (1, .int _)]) C.1.1 C.1.2.1 dX6_stay_15 rfl hl (by decide) rfl (fun ls hl => ?_)
    obtain ⟨o39, ho, hf⟩ := bd hf
    obtain ⟨n, ho⟩ := lp_it ho
    refine L16 _ n _ _ _ _ _ o39 ho hW (lv_sub hl [2, 3, 1, 0] rfl) ?_ ?_
    · intro y41 y42 σ40 H locs ls e9 hW hl
      subst e9
      try dsimp only at hf
      refine lv_iload_n C.1.1 C.1.2.1 dX6_stay_94 rfl (lv_at hl 0 rfl) ?_
      refine lv_if_ne (tgt := 102) C.1.1 C.1.2.1 dX6_stay_95 (by decide) (fun h9 => ?_) (fun h9 => ?_)
      · replace hf := (if_neg h9).symm.trans hf
        refine lv_iload C.1.1 C.1.2.1 dX6_stay_102 (lv_at hl 2 rfl) ?_
        exact ri hQ C hr hlk hW hf (rok_i _) dX6_stay_104
      · replace hf := (if_pos h9).symm.trans hf
        refine lv_iload_n C.1.1 C.1.2.1 dX6_stay_98 rfl (lv_at hl 1 rfl) ?_
        refine lv_goto (tgt := 104) C.1.1 C.1.2.1 dX6_stay_99 (by decide) ?_
        exact ri hQ C hr hlk hW hf (rok_i _) dX6_stay_104
    · intro  σ44 H locs ls e9 hW hl
      subst e9
      try dsimp only at hf
      refine lv_bipush (v := (-2)) C.1.1 C.1.2.1 dX6_stay_117 (by decide) ?_
      exact ri hQ C hr hlk hW hf (rok_i _) dX6_stay_119
  · replace hf := (if_pos h9).symm.trans hf
    refine lv_iconst (v := (-1)) C.1.1 C.1.2.1 dX6_stay_7 (by decide) ?_
    exact ri hQ C hr hlk hW hf (rok_i _) dX6_stay_8
theorem kvX6_shift : KV 6 "RightKeys" yX6_shift cX6_shift 9 (some .int) 2 := ⟨⟨w_908, w_909, w_109, w_910⟩, ⟨rfl, by decide, by decide, by decide +kernel⟩, by decide, rfl⟩
noncomputable def jX6_shift_141 (a0 : Nat) (p1 : Int32) (p2 : Int32) (x3 : Int32) (x4 : Int32) (x5 : Int32) (x6 : Int32) (σ : Sg) : Option ((Int32 × Int32 × Int32 × Int32 × Sg) ⊕ (Int32 × Int32 × Sg)) := (let x6_34 := x6 + (1 : Int32); some (Sum.inl (x3, x4, x5, x6_34, σ)))
noncomputable def jX6_shift_125 (a0 : Nat) (p1 : Int32) (p2 : Int32) (x6 : Int32) (x8 : Int32) (σ : Sg) : Option ((Int32 × Int32 × Int32 × Int32 × Sg) ⊕ (Int32 × Int32 × Sg)) := (let x4_33 := (σ.1 (a0 + 49) 1); jX6_shift_141 a0 p1 p2 x6 x4_33 x8 x6 σ)
noncomputable def bX6_shift_30 (a0 : Nat) (p1 : Int32) (p2 : Int32) (x3 : Int32) (x4 : Int32) (x5 : Int32) (x6 : Int32) (σ : Sg) : Option ((Int32 × Int32 × Int32 × Int32 × Sg) ⊕ (Int32 × Int32 × Sg)) := if (24 : Int32) ≤ x6 then (some (Sum.inr (x3, x4, σ))) else ((fX6_startTrial a0 σ).bind (fun σ12 => if vin p1 8 then (let σ19 := wI σ12 ((a0 + 40) + 2) ((p1).toNatClampNeg) x6; (fX5_follow (a0 + 49) (a0 + 40) (72 : Int32) σ19).bind (fun σ23 => (let x7_29 := (iabs (x6 - (σ23.1 ((a0 + 31) + 2) ((p1).toNatClampNeg)))); let x8_30 := (imin x7_29 ((24 : Int32) - x7_29)); if (σ23.1 (a0 + 49) 1) < x4 then (jX6_shift_125 a0 p1 p2 x6 x8_30 σ23) else (if (σ23.1 (a0 + 49) 1) = x4 then (if x5 ≤ x8_30 then (jX6_shift_141 a0 p1 p2 x3 x4 x5 x6 σ23) else (jX6_shift_125 a0 p1 p2 x6 x8_30 σ23)) else (jX6_shift_141 a0 p1 p2 x3 x4 x5 x6 σ23))))) else none))
noncomputable def fX6_shift (a0 : Nat) (p1 : Int32) (p2 : Int32) (σ : Sg) : Option (Int32 × Sg) := (fX6_isHouse a0 p1 σ).bind (fun q5 => let r3 := q5.1; let σ2 := q5.2; if r3 = 0 then (some ((-1 : Int32), σ2)) else ((fX6_isEither p2 σ2).bind (fun q10 => let r8 := q10.1; let σ7 := q10.2; if r8 = 0 then (some ((-1 : Int32), σ7)) else ((lp (fun st => bX6_shift_30 a0 p1 p2 st.1 st.2.1 st.2.2.1 st.2.2.2.1 st.2.2.2.2) ((0 : Int32), (1000000 : Int32), (24 : Int32), (0 : Int32), σ7)).bind (fun q40 => let y38 := q40.1; let y39 := q40.2.1; let σ37 := q40.2.2;  if p2 = 0 then (some (y38, σ37)) else (some (y39, σ37)))))))
set_option maxRecDepth 100000 in
set_option maxHeartbeats 4000000 in
theorem mX6_shift {l : Launch} {G : Gm} {a0 : Nat} {p1 : Int32} {p2 : Int32} {σ : Sg} {r : Int32} {σ' : Sg} (hk_a0 : gK G a0 = 7) (hf : fX6_shift a0 p1 p2 σ = some (r, σ')) : Mi l G yX6_shift cX6_shift 9 .int 7 178 [.ref (gB G + a0), .int p1, .int p2] σ r σ' := by
  refine of_W "RightKeys" rfl (by decide) (Nat.le_of_ble_eq_true rfl) ?_
  intro p e s m args below meth c Q hQ C hr hlk hW ls hl
  have h00 := hW.1
  have hl : lv_has ls 9 [(0, .ref (gB G + a0)), (1, .int p1), (2, .int p2)] := hl
  delta fX6_shift at hf
  have L30 : ∀ (n : Nat) (x3 : Int32) (x4 : Int32) (x5 : Int32) (x6 : Int32) (σ : Sg) (H : Heap) (locs : List Loc) (ls : Array Slot) (out : (Int32 × Int32 × Sg)), iter (fun st => bX6_shift_30 a0 p1 p2 st.1 st.2.1 st.2.2.1 st.2.2.2.1 st.2.2.2.2) n (x3, x4, x5, x6, σ) = some out → Ws G σ s.heap H locs → lv_has ls 9 [(0, .ref (gB G + a0)), (1, .int p1), (2, .int p2), (3, .int x3), (4, .int x4), (5, .int x5), (6, .int x6)] → (∀ (y3 : Int32) (y4 : Int32) (σ : Sg) (H : Heap) (locs : List Loc) (ls : Array Slot), out = (y3, y4, σ) → Ws G σ s.heap H locs → lv_has ls 9 [(2, .int p2), (3, .int y3), (4, .int y4)] → W p l e (rmOf 7 178) s m args below meth c H locs 0 0 Q (F0 m 147 ls [])) → W p l e (rmOf 7 178) s m args below meth c H locs 0 0 Q (F0 m 30 ls []) := by
    intro n
    induction n with
    | zero =>
      intro x3 x4 x5 x6 σ H locs ls out hf
      exact (it_0 hf).elim
    | succ n ih =>
      intro x3 x4 x5 x6 σ H locs ls out hf hW hl K30_147
      obtain ⟨x, hf, hx⟩ := it_s hf
      have hf : bX6_shift_30 a0 p1 p2 x3 x4 x5 x6 σ = some x := hf
      delta bX6_shift_30 at hf
      have J141 : ∀ (x3 : Int32) (x4 : Int32) (x5 : Int32) (x6 : Int32) (σ : Sg) (H : Heap) (locs : List Loc) (ls : Array Slot), jX6_shift_141 a0 p1 p2 x3 x4 x5 x6 σ = some x → Ws G σ s.heap H locs → lv_has ls 9 [(0, .ref (gB G + a0)), (1, .int p1), (2, .int p2), (3, .int x3), (4, .int x4), (5, .int x5), (6, .int x6)] → W p l e (rmOf 7 178) s m args below meth c H locs 0 0 Q (F0 m 141 ls []) := by
        intro x3 x4 x5 x6 σ H locs ls hf hW hl
        delta jX6_shift_141 at hf
        refine lv_iinc (v := _) (lv' := [(6, .int _), (0, .ref _), (1, .int _), (2, .int _), (3, .int _), (4, .int _), (5, .int _)]) C.1.1 C.1.2.1 dX6_shift_141 hl (k := 6) rfl (ii (k := 1) (by decide)) (by decide) rfl (fun ls hl => ?_)
        refine lv_goto (tgt := 30) C.1.1 C.1.2.1 dX6_shift_144 (by decide) ?_
        cases hf
        exact ih _ _ _ _ _ _ _ _ _ hx hW (lv_sub hl [1, 2, 3, 4, 5, 6, 0] rfl) K30_147
      have J125 : ∀ (x6 : Int32) (x8 : Int32) (σ : Sg) (H : Heap) (locs : List Loc) (ls : Array Slot), jX6_shift_125 a0 p1 p2 x6 x8 σ = some x → Ws G σ s.heap H locs → lv_has ls 9 [(0, .ref (gB G + a0)), (1, .int p1), (2, .int p2), (6, .int x6), (8, .int x8)] → W p l e (rmOf 7 178) s m args below meth c H locs 0 0 Q (F0 m 125 ls []) := by
        intro x6 x8 σ H locs ls hf hW hl
        delta jX6_shift_125 at hf
        refine lv_iload C.1.1 C.1.2.1 dX6_shift_125 (lv_at hl 3 rfl) ?_
        refine lv_istore_n (lv' := [(3, .int _), (0, .ref _), (1, .int _), (2, .int _), (6, .int _), (8, .int _)]) C.1.1 C.1.2.1 dX6_shift_127 rfl hl (by decide) rfl (fun ls hl => ?_)
        refine lv_aload_n C.1.1 C.1.2.1 dX6_shift_128 rfl (lv_at hl 1 rfl) ?_
        have hk32 := sh6_8 hW hk_a0
        refine gf6_8 C hW hk_a0 w_413 dX6_shift_129 ?_
        refine gf5_1 C hW hk32 w_386 dX6_shift_132 ?_
        refine lv_istore (lv' := [(4, .int _), (3, .int _), (0, .ref _), (1, .int _), (2, .int _), (6, .int _), (8, .int _)]) C.1.1 C.1.2.1 dX6_shift_135 hl (by decide) rfl (fun ls hl => ?_)
        refine lv_iload C.1.1 C.1.2.1 dX6_shift_137 (lv_at hl 6 rfl) ?_
        refine lv_istore (lv' := [(5, .int _), (4, .int _), (3, .int _), (0, .ref _), (1, .int _), (2, .int _), (6, .int _), (8, .int _)]) C.1.1 C.1.2.1 dX6_shift_139 hl (by decide) rfl (fun ls hl => ?_)
        exact J141 _ _ _ _ _ _ _ _ hf hW (lv_sub hl [3, 4, 5, 2, 1, 0, 6] rfl)
      refine lv_iload C.1.1 C.1.2.1 dX6_shift_30 (lv_at hl 6 rfl) ?_
      refine lv_bipush (v := 24) C.1.1 C.1.2.1 dX6_shift_32 (by decide) ?_
      refine lv_icmp_ge (tgt := 147) C.1.1 C.1.2.1 dX6_shift_34 (by decide) (fun h9 => ?_) (fun h9 => ?_)
      · replace hf := (if_pos h9).symm.trans hf
        cases hf
        cases hx
        exact K30_147 _ _ _ _ _ _ rfl hW (lv_sub hl [2, 3, 4] rfl)
      · replace hf := (if_neg h9).symm.trans hf
        refine lv_aload_n C.1.1 C.1.2.1 dX6_shift_37 rfl (lv_at hl 0 rfl) ?_
        obtain ⟨σ12, hc11, hf⟩ := bd hf
        try dsimp only at hf
        refine cVv C hW (mX6_startTrial hk_a0 hc11) hk_a0 kvX6_startTrial w_876 ⟨(Nat.le_of_ble_eq_true rfl), (Nat.le_of_ble_eq_true rfl)⟩ ⟨Nat.zero_le _, Nat.zero_le _⟩ rfl hl.1 (rest := []) rfl (Nat.le_of_ble_eq_true rfl) dX6_shift_38 (fun H locs hW => ?_)
        refine lv_aload_n C.1.1 C.1.2.1 dX6_shift_41 rfl (lv_at hl 0 rfl) ?_
        have hk16 := sh6_7 hW hk_a0
        refine gf6_7 C hW hk_a0 w_412 dX6_shift_42 ?_
        have hk17 := sh2_13 hW hk16
        refine gf2_13 C hW hk16 w_323 dX6_shift_45 ?_
        refine lv_iload_n C.1.1 C.1.2.1 dX6_shift_48 rfl (lv_at hl 1 rfl) ?_
        refine lv_iload C.1.1 C.1.2.1 dX6_shift_49 (lv_at hl 6 rfl) ?_
        obtain ⟨hv18, hf⟩ := gd hf
        refine wsi C hW hk17 (vin_p hv18) dX6_shift_51 (fun H locs hW => ?_)
        refine lv_aload_n C.1.1 C.1.2.1 dX6_shift_52 rfl (lv_at hl 0 rfl) ?_
        have hk20 := sh6_8 hW hk_a0
        refine gf6_8 C hW hk_a0 w_413 dX6_shift_53 ?_
        refine lv_aload_n C.1.1 C.1.2.1 dX6_shift_56 rfl (lv_at hl 0 rfl) ?_
        have hk21 := sh6_7 hW hk_a0
        refine gf6_7 C hW hk_a0 w_412 dX6_shift_57 ?_
        refine lv_bipush (v := 72) C.1.1 C.1.2.1 dX6_shift_60 (by decide) ?_
        obtain ⟨σ23, hc22, hf⟩ := bd hf
        try dsimp only at hf
        refine cVv C hW (mX5_follow hk20 hk21 hc22) hk20 kvX5_follow w_880 ⟨(Nat.le_of_ble_eq_true rfl), (Nat.le_of_ble_eq_true rfl)⟩ ⟨Nat.zero_le _, Nat.zero_le _⟩ rfl hl.1 (rest := []) rfl (Nat.le_of_ble_eq_true rfl) dX6_shift_62 (fun H locs hW => ?_)
        refine lv_iload C.1.1 C.1.2.1 dX6_shift_65 (lv_at hl 6 rfl) ?_
        refine lv_aload_n C.1.1 C.1.2.1 dX6_shift_67 rfl (lv_at hl 0 rfl) ?_
        have hk27 := sh6_6 hW hk_a0
        refine gf6_6 C hW hk_a0 w_411 dX6_shift_68 ?_
        have hk28 := sh2_13 hW hk27
        refine gf2_13 C hW hk27 w_323 dX6_shift_71 ?_
        refine lv_iload_n C.1.1 C.1.2.1 dX6_shift_74 rfl (lv_at hl 1 rfl) ?_
        refine wai C hW hk28 (vin_p hv18) dX6_shift_75 ?_
        refine lv_isub C.1.1 C.1.2.1 dX6_shift_76 ?_
        refine cAbs C w_912 w_913 w_121 w_914 hl.1 (Nat.le_of_ble_eq_true rfl) (Nat.le_of_ble_eq_true rfl) ⟨Nat.zero_le _, Nat.zero_le _⟩ dX6_shift_77 ?_
        refine lv_istore (lv' := [(7, .int _), (0, .ref _), (1, .int _), (2, .int _), (3, .int _), (4, .int _), (5, .int _), (6, .int _)]) C.1.1 C.1.2.1 dX6_shift_80 hl (by decide) rfl (fun ls hl => ?_)
        refine lv_iload C.1.1 C.1.2.1 dX6_shift_82 (lv_at hl 0 rfl) ?_
        refine lv_bipush (v := 24) C.1.1 C.1.2.1 dX6_shift_84 (by decide) ?_
        refine lv_iload C.1.1 C.1.2.1 dX6_shift_86 (lv_at hl 0 rfl) ?_
        refine lv_isub C.1.1 C.1.2.1 dX6_shift_88 ?_
        refine cMin C w_784 w_559 w_121 w_560 hl.1 (Nat.le_of_ble_eq_true rfl) (Nat.le_of_ble_eq_true rfl) ⟨Nat.zero_le _, Nat.zero_le _⟩ dX6_shift_89 ?_
        refine lv_istore (lv' := [(8, .int _), (7, .int _), (0, .ref _), (1, .int _), (2, .int _), (3, .int _), (4, .int _), (5, .int _), (6, .int _)]) C.1.1 C.1.2.1 dX6_shift_92 hl (by decide) rfl (fun ls hl => ?_)
        refine lv_aload_n C.1.1 C.1.2.1 dX6_shift_94 rfl (lv_at hl 2 rfl) ?_
        have hk31 := sh6_8 hW hk_a0
        refine gf6_8 C hW hk_a0 w_413 dX6_shift_95 ?_
        refine gf5_1 C hW hk31 w_386 dX6_shift_98 ?_
        refine lv_iload C.1.1 C.1.2.1 dX6_shift_101 (lv_at hl 6 rfl) ?_
        refine lv_icmp_lt (tgt := 125) C.1.1 C.1.2.1 dX6_shift_103 (by decide) (fun h9 => ?_) (fun h9 => ?_)
        · replace hf := (if_pos h9).symm.trans hf
          exact J125 _ _ _ _ _ _ hf hW (lv_sub hl [2, 3, 4, 8, 0] rfl)
        · replace hf := (if_neg h9).symm.trans hf
          refine lv_aload_n C.1.1 C.1.2.1 dX6_shift_106 rfl (lv_at hl 2 rfl) ?_
          have hk35 := sh6_8 hW hk_a0
          refine gf6_8 C hW hk_a0 w_413 dX6_shift_107 ?_
          refine gf5_1 C hW hk35 w_386 dX6_shift_110 ?_
          refine lv_iload C.1.1 C.1.2.1 dX6_shift_113 (lv_at hl 6 rfl) ?_
          refine lv_icmp_ne (tgt := 141) C.1.1 C.1.2.1 dX6_shift_115 (by decide) (fun h9 => ?_) (fun h9 => ?_)
          · replace hf := (if_neg h9).symm.trans hf
            exact J141 _ _ _ _ _ _ _ _ hf hW (lv_sub hl [2, 3, 4, 5, 6, 7, 8] rfl)
          · replace hf := (if_pos h9).symm.trans hf
            refine lv_iload C.1.1 C.1.2.1 dX6_shift_118 (lv_at hl 0 rfl) ?_
            refine lv_iload C.1.1 C.1.2.1 dX6_shift_120 (lv_at hl 7 rfl) ?_
            refine lv_icmp_ge (tgt := 141) C.1.1 C.1.2.1 dX6_shift_122 (by decide) (fun h9 => ?_) (fun h9 => ?_)
            · replace hf := (if_pos h9).symm.trans hf
              exact J141 _ _ _ _ _ _ _ _ hf hW (lv_sub hl [2, 3, 4, 5, 6, 7, 8] rfl)
            · replace hf := (if_neg h9).symm.trans hf
              exact J125 _ _ _ _ _ _ hf hW (lv_sub hl [2, 3, 4, 8, 0] rfl)
  refine lv_aload_n C.1.1 C.1.2.1 dX6_shift_0 rfl (lv_at hl 0 rfl) ?_
  refine lv_iload_n C.1.1 C.1.2.1 dX6_shift_1 rfl (lv_at hl 1 rfl) ?_
  obtain ⟨⟨r3, σ2⟩, hc1, hf⟩ := bd hf
  try dsimp only at hf
  refine cVi C hW (mX6_isHouse hk_a0 hc1) hk_a0 kvX6_isHouse w_674 ⟨(Nat.le_of_ble_eq_true rfl), (Nat.le_of_ble_eq_true rfl)⟩ ⟨Nat.zero_le _, Nat.zero_le _⟩ rfl hl.1 (rest := []) rfl (Nat.le_of_ble_eq_true rfl) dX6_shift_2 (fun H locs hn4 hW => ?_)
  refine lv_if_eq (tgt := 15) C.1.1 C.1.2.1 dX6_shift_5 (by decide) (fun h9 => ?_) (fun h9 => ?_)
  · replace hf := (if_pos h9).symm.trans hf
    refine lv_iconst (v := (-1)) C.1.1 C.1.2.1 dX6_shift_15 (by decide) ?_
    exact ri hQ C hr hlk hW hf (rok_i _) dX6_shift_16
  · replace hf := (if_neg h9).symm.trans hf
    refine lv_iload_n C.1.1 C.1.2.1 dX6_shift_8 rfl (lv_at hl 2 rfl) ?_
    obtain ⟨⟨r8, σ7⟩, hc6, hf⟩ := bd hf
    try dsimp only at hf
    refine cSi C hW (mX6_isEither hc6) ksX6_isEither w_904 ⟨(Nat.le_of_ble_eq_true rfl), (Nat.le_of_ble_eq_true rfl)⟩ ⟨Nat.zero_le _, Nat.zero_le _⟩ rfl hl.1 (rest := []) rfl (Nat.le_of_ble_eq_true rfl) dX6_shift_9 (fun H locs hn9 hW => ?_)
    refine lv_if_ne (tgt := 17) C.1.1 C.1.2.1 dX6_shift_12 (by decide) (fun h9 => ?_) (fun h9 => ?_)
    · replace hf := (if_neg h9).symm.trans hf
      refine lv_iconst (v := 0) C.1.1 C.1.2.1 dX6_shift_17 (by decide) ?_
      refine lv_istore_n (lv' := [(3, .int _), (0, .ref _), (1, .int _), (2, .int _)]) C.1.1 C.1.2.1 dX6_shift_18 rfl hl (by decide) rfl (fun ls hl => ?_)
      refine lv_ldc (v := 1000000) C.1.1 C.1.2.1 C.1.2.2.2.1 (C.w w_911) dX6_shift_19 ?_
      refine lv_istore (lv' := [(4, .int _), (3, .int _), (0, .ref _), (1, .int _), (2, .int _)]) C.1.1 C.1.2.1 dX6_shift_21 hl (by decide) rfl (fun ls hl => ?_)
      refine lv_bipush (v := 24) C.1.1 C.1.2.1 dX6_shift_23 (by decide) ?_
      refine lv_istore (lv' := [(5, .int _), (4, .int _), (3, .int _), (0, .ref _), (1, .int _), (2, .int _)]) C.1.1 C.1.2.1 dX6_shift_25 hl (by decide) rfl (fun ls hl => ?_)
      refine lv_iconst (v := 0) C.1.1 C.1.2.1 dX6_shift_27 (by decide) ?_
      refine lv_istore (lv' := [(6, .int _), (5, .int _), (4, .int _), (3, .int _), (0, .ref _), (1, .int _), (2, .int _)]) C.1.1 C.1.2.1 dX6_shift_28 hl (by decide) rfl (fun ls hl => ?_)
      obtain ⟨o36, ho, hf⟩ := bd hf
      obtain ⟨n, ho⟩ := lp_it ho
      refine L30 n _ _ _ _ _ _ _ _ o36 ho hW (lv_sub hl [4, 5, 6, 3, 2, 1, 0] rfl) ?_
      intro y38 y39 σ37 H locs ls e9 hW hl
      subst e9
      try dsimp only at hf
      refine lv_iload_n C.1.1 C.1.2.1 dX6_shift_147 rfl (lv_at hl 0 rfl) ?_
      refine lv_if_ne (tgt := 155) C.1.1 C.1.2.1 dX6_shift_148 (by decide) (fun h9 => ?_) (fun h9 => ?_)
      · replace hf := (if_neg h9).symm.trans hf
        refine lv_iload C.1.1 C.1.2.1 dX6_shift_155 (lv_at hl 2 rfl) ?_
        exact ri hQ C hr hlk hW hf (rok_i _) dX6_shift_157
      · replace hf := (if_pos h9).symm.trans hf
        refine lv_iload_n C.1.1 C.1.2.1 dX6_shift_151 rfl (lv_at hl 1 rfl) ?_
        refine lv_goto (tgt := 157) C.1.1 C.1.2.1 dX6_shift_152 (by decide) ?_
        exact ri hQ C hr hlk hW hf (rok_i _) dX6_shift_157
    · replace hf := (if_pos h9).symm.trans hf
      refine lv_iconst (v := (-1)) C.1.1 C.1.2.1 dX6_shift_15 (by decide) ?_
      exact ri hQ C hr hlk hW hf (rok_i _) dX6_shift_16
theorem kvX6_changeBest : KV 6 "RightKeys" yX6_changeBest cX6_changeBest 6 (some .int) 1 := ⟨⟨w_916, w_917, w_109, w_918⟩, ⟨rfl, by decide, by decide, by decide +kernel⟩, by decide, rfl⟩
noncomputable def jX6_changeBest_140 (a0 : Nat) (p1 : Int32) (x4 : Int32) (x2 : Int32) (x3 : Int32) (x5 : Int32) (σ : Sg) : Option ((Int32 × Int32 × Int32 × Sg) ⊕ (Int32 × Int32 × Sg)) := (let x5_29 := x5 + (1 : Int32); some (Sum.inl (x2, x3, x5_29, σ)))
noncomputable def bX6_changeBest_58 (a0 : Nat) (p1 : Int32) (x4 : Int32) (x2 : Int32) (x3 : Int32) (x5 : Int32) (σ : Sg) : Option ((Int32 × Int32 × Int32 × Sg) ⊕ (Int32 × Int32 × Sg)) := if (σ.1 (σ.2.2.1 a0 3) 0) ≤ x5 then (some (Sum.inr (x2, x3, σ))) else ((fX2_bothIn (a0 + 31) x4 x5 σ).bind (fun q28 => let r26 := q28.1; let σ25 := q28.2; if r26 = 0 then (jX6_changeBest_140 a0 p1 x4 x2 x3 x5 σ25) else ((fX6_startTrial a0 σ25).bind (fun σ31 => (fX2_swapPeople (a0 + 40) x4 x5 σ31).bind (fun σ37 => (fX5_follow (a0 + 49) (a0 + 40) (72 : Int32) σ37).bind (fun σ44 => if x2 ≤ (σ44.1 (a0 + 49) 1) then (jX6_changeBest_140 a0 p1 x4 x2 x3 x5 σ44) else ((let x2_50 := (σ44.1 (a0 + 49) 1); let x3_51 := (((10 : Int32) * x4) + x5); jX6_changeBest_140 a0 p1 x4 x2_50 x3_51 x5 σ44))))))))
noncomputable def bX6_changeBest_40 (a0 : Nat) (p1 : Int32) (x2 : Int32) (x3 : Int32) (x4 : Int32) (σ : Sg) : Option ((Int32 × Int32 × Int32 × Sg) ⊕ (Int32 × Int32 × Sg)) := if (σ.1 (σ.2.2.1 a0 3) 0) ≤ x4 then (some (Sum.inr (x2, x3, σ))) else ((let x5_21 := (x4 + (1 : Int32)); (lp (fun st => bX6_changeBest_58 a0 p1 x4 st.1 st.2.1 st.2.2.1 st.2.2.2) (x2, x3, x5_21, σ)).bind (fun q57 => let y54 := q57.1; let y55 := q57.2.1; let σ53 := q57.2.2;  (let x4_56 := x4 + (1 : Int32); some (Sum.inl (y54, y55, x4_56, σ53))))))
noncomputable def jX6_changeBest_162 (a0 : Nat) (p1 : Int32) (x3 : Int32) (σ : Sg) : Option (Int32 × Sg) := some (x3, σ)
noncomputable def fX6_changeBest (a0 : Nat) (p1 : Int32) (σ : Sg) : Option (Int32 × Sg) := (fX6_isEither p1 σ).bind (fun q5 => let r3 := q5.1; let σ2 := q5.2; if r3 = 0 then (some ((-1 : Int32), σ2)) else ((fX6_startTrial a0 σ2).bind (fun σ7 => (fX5_follow (a0 + 49) (a0 + 40) (72 : Int32) σ7).bind (fun σ14 => (let x2_19 := (σ14.1 (a0 + 49) 1); (lp (fun st => bX6_changeBest_40 a0 p1 st.1 st.2.1 st.2.2.1 st.2.2.2) (x2_19, (-2 : Int32), (0 : Int32), σ14)).bind (fun q62 => let y60 := q62.1; let y61 := q62.2.1; let σ59 := q62.2.2;  if p1 = 0 then (jX6_changeBest_162 a0 p1 y61 σ59) else (if y61 = (-2 : Int32) then (jX6_changeBest_162 a0 p1 y61 σ59) else (some (y60, σ59)))))))))
set_option maxRecDepth 100000 in
set_option maxHeartbeats 4000000 in
theorem mX6_changeBest {l : Launch} {G : Gm} {a0 : Nat} {p1 : Int32} {σ : Sg} {r : Int32} {σ' : Sg} (hk_a0 : gK G a0 = 7) (hf : fX6_changeBest a0 p1 σ = some (r, σ')) : Mi l G yX6_changeBest cX6_changeBest 6 .int 7 178 [.ref (gB G + a0), .int p1] σ r σ' := by
  refine of_W "RightKeys" rfl (by decide) (Nat.le_of_ble_eq_true rfl) ?_
  intro p e s m args below meth c Q hQ C hr hlk hW ls hl
  have h00 := hW.1
  have hl : lv_has ls 6 [(0, .ref (gB G + a0)), (1, .int p1)] := hl
  delta fX6_changeBest at hf
  have L40 : ∀ (n : Nat) (x2 : Int32) (x3 : Int32) (x4 : Int32) (σ : Sg) (H : Heap) (locs : List Loc) (ls : Array Slot) (out : (Int32 × Int32 × Sg)), iter (fun st => bX6_changeBest_40 a0 p1 st.1 st.2.1 st.2.2.1 st.2.2.2) n (x2, x3, x4, σ) = some out → Ws G σ s.heap H locs → lv_has ls 6 [(0, .ref (gB G + a0)), (1, .int p1), (2, .int x2), (3, .int x3), (4, .int x4)] → (∀ (y2 : Int32) (y3 : Int32) (σ : Sg) (H : Heap) (locs : List Loc) (ls : Array Slot), out = (y2, y3, σ) → Ws G σ s.heap H locs → lv_has ls 6 [(1, .int p1), (2, .int y2), (3, .int y3)] → W p l e (rmOf 7 178) s m args below meth c H locs 0 0 Q (F0 m 152 ls [])) → W p l e (rmOf 7 178) s m args below meth c H locs 0 0 Q (F0 m 40 ls []) := by
    intro n
    induction n with
    | zero =>
      intro x2 x3 x4 σ H locs ls out hf
      exact (it_0 hf).elim
    | succ n ih =>
      intro x2 x3 x4 σ H locs ls out hf hW hl K40_152
      obtain ⟨x, hf, hx⟩ := it_s hf
      have hf : bX6_changeBest_40 a0 p1 x2 x3 x4 σ = some x := hf
      delta bX6_changeBest_40 at hf
      have L58 : ∀ (x4 : Int32) (n : Nat) (x2 : Int32) (x3 : Int32) (x5 : Int32) (σ : Sg) (H : Heap) (locs : List Loc) (ls : Array Slot) (out : (Int32 × Int32 × Sg)), iter (fun st => bX6_changeBest_58 a0 p1 x4 st.1 st.2.1 st.2.2.1 st.2.2.2) n (x2, x3, x5, σ) = some out → Ws G σ s.heap H locs → lv_has ls 6 [(0, .ref (gB G + a0)), (1, .int p1), (2, .int x2), (3, .int x3), (4, .int x4), (5, .int x5)] → (∀ (y2 : Int32) (y3 : Int32) (σ : Sg) (H : Heap) (locs : List Loc) (ls : Array Slot), out = (y2, y3, σ) → Ws G σ s.heap H locs → lv_has ls 6 [(0, .ref (gB G + a0)), (1, .int p1), (2, .int y2), (3, .int y3), (4, .int x4)] → W p l e (rmOf 7 178) s m args below meth c H locs 0 0 Q (F0 m 146 ls [])) → W p l e (rmOf 7 178) s m args below meth c H locs 0 0 Q (F0 m 58 ls []) := by
        intro x4 n
        induction n with
        | zero =>
          intro x2 x3 x5 σ H locs ls out hf
          exact (it_0 hf).elim
        | succ n ih =>
          intro x2 x3 x5 σ H locs ls out hf hW hl K58_146
          obtain ⟨x, hf, hx⟩ := it_s hf
          have hf : bX6_changeBest_58 a0 p1 x4 x2 x3 x5 σ = some x := hf
          delta bX6_changeBest_58 at hf
          have J140 : ∀ (x2 : Int32) (x3 : Int32) (x5 : Int32) (σ : Sg) (H : Heap) (locs : List Loc) (ls : Array Slot), jX6_changeBest_140 a0 p1 x4 x2 x3 x5 σ = some x → Ws G σ s.heap H locs → lv_has ls 6 [(0, .ref (gB G + a0)), (1, .int p1), (2, .int x2), (3, .int x3), (4, .int x4), (5, .int x5)] → W p l e (rmOf 7 178) s m args below meth c H locs 0 0 Q (F0 m 140 ls []) := by
            intro x2 x3 x5 σ H locs ls hf hW hl
            delta jX6_changeBest_140 at hf
            refine lv_iinc (v := _) (lv' := [(5, .int _), (0, .ref _), (1, .int _), (2, .int _), (3, .int _), (4, .int _)]) C.1.1 C.1.2.1 dX6_changeBest_140 hl (k := 5) rfl (ii (k := 1) (by decide)) (by decide) rfl (fun ls hl => ?_)
            refine lv_goto (tgt := 58) C.1.1 C.1.2.1 dX6_changeBest_143 (by decide) ?_
            cases hf
            exact ih _ _ _ _ _ _ _ _ hx hW (lv_sub hl [1, 2, 3, 4, 5, 0] rfl) K58_146
          refine lv_iload C.1.1 C.1.2.1 dX6_changeBest_58 (lv_at hl 5 rfl) ?_
          refine lv_aload_n C.1.1 C.1.2.1 dX6_changeBest_60 rfl (lv_at hl 0 rfl) ?_
          have hk22 := sh6_3 hW hk_a0
          refine gf6_3 C hW hk_a0 w_408 dX6_changeBest_61 ?_
          refine gf3_0 C hW hk22 w_182 dX6_changeBest_64 ?_
          refine lv_icmp_ge (tgt := 146) C.1.1 C.1.2.1 dX6_changeBest_67 (by decide) (fun h9 => ?_) (fun h9 => ?_)
          · replace hf := (if_pos h9).symm.trans hf
            cases hf
            cases hx
            exact K58_146 _ _ _ _ _ _ rfl hW (lv_sub hl [0, 1, 2, 3, 4] rfl)
          · replace hf := (if_neg h9).symm.trans hf
            refine lv_aload_n C.1.1 C.1.2.1 dX6_changeBest_70 rfl (lv_at hl 0 rfl) ?_
            have hk23 := sh6_6 hW hk_a0
            refine gf6_6 C hW hk_a0 w_411 dX6_changeBest_71 ?_
            refine lv_iload C.1.1 C.1.2.1 dX6_changeBest_74 (lv_at hl 4 rfl) ?_
            refine lv_iload C.1.1 C.1.2.1 dX6_changeBest_76 (lv_at hl 5 rfl) ?_
            obtain ⟨⟨r26, σ25⟩, hc24, hf⟩ := bd hf
            try dsimp only at hf
            refine cVi C hW (mX2_bothIn hk23 hc24) hk23 kvX2_bothIn w_793 ⟨(Nat.le_of_ble_eq_true rfl), (Nat.le_of_ble_eq_true rfl)⟩ ⟨Nat.zero_le _, Nat.zero_le _⟩ rfl hl.1 (rest := []) rfl (Nat.le_of_ble_eq_true rfl) dX6_changeBest_78 (fun H locs hn27 hW => ?_)
            refine lv_if_eq (tgt := 140) C.1.1 C.1.2.1 dX6_changeBest_81 (by decide) (fun h9 => ?_) (fun h9 => ?_)
            · replace hf := (if_pos h9).symm.trans hf
              exact J140 _ _ _ _ _ _ _ hf hW (lv_sub hl [0, 1, 2, 3, 4, 5] rfl)
            · replace hf := (if_neg h9).symm.trans hf
              refine lv_aload_n C.1.1 C.1.2.1 dX6_changeBest_84 rfl (lv_at hl 0 rfl) ?_
              obtain ⟨σ31, hc30, hf⟩ := bd hf
              try dsimp only at hf
              refine cVv C hW (mX6_startTrial hk_a0 hc30) hk_a0 kvX6_startTrial w_876 ⟨(Nat.le_of_ble_eq_true rfl), (Nat.le_of_ble_eq_true rfl)⟩ ⟨Nat.zero_le _, Nat.zero_le _⟩ rfl hl.1 (rest := []) rfl (Nat.le_of_ble_eq_true rfl) dX6_changeBest_85 (fun H locs hW => ?_)
              refine lv_aload_n C.1.1 C.1.2.1 dX6_changeBest_88 rfl (lv_at hl 0 rfl) ?_
              have hk35 := sh6_7 hW hk_a0
              refine gf6_7 C hW hk_a0 w_412 dX6_changeBest_89 ?_
              refine lv_iload C.1.1 C.1.2.1 dX6_changeBest_92 (lv_at hl 4 rfl) ?_
              refine lv_iload C.1.1 C.1.2.1 dX6_changeBest_94 (lv_at hl 5 rfl) ?_
              obtain ⟨σ37, hc36, hf⟩ := bd hf
              try dsimp only at hf
              refine cVv C hW (mX2_swapPeople hk35 hc36) hk35 kvX2_swapPeople w_797 ⟨(Nat.le_of_ble_eq_true rfl), (Nat.le_of_ble_eq_true rfl)⟩ ⟨Nat.zero_le _, Nat.zero_le _⟩ rfl hl.1 (rest := []) rfl (Nat.le_of_ble_eq_true rfl) dX6_changeBest_96 (fun H locs hW => ?_)
              refine lv_aload_n C.1.1 C.1.2.1 dX6_changeBest_99 rfl (lv_at hl 0 rfl) ?_
              have hk41 := sh6_8 hW hk_a0
              refine gf6_8 C hW hk_a0 w_413 dX6_changeBest_100 ?_
              refine lv_aload_n C.1.1 C.1.2.1 dX6_changeBest_103 rfl (lv_at hl 0 rfl) ?_
              have hk42 := sh6_7 hW hk_a0
              refine gf6_7 C hW hk_a0 w_412 dX6_changeBest_104 ?_
              refine lv_bipush (v := 72) C.1.1 C.1.2.1 dX6_changeBest_107 (by decide) ?_
              obtain ⟨σ44, hc43, hf⟩ := bd hf
              try dsimp only at hf
              refine cVv C hW (mX5_follow hk41 hk42 hc43) hk41 kvX5_follow w_880 ⟨(Nat.le_of_ble_eq_true rfl), (Nat.le_of_ble_eq_true rfl)⟩ ⟨Nat.zero_le _, Nat.zero_le _⟩ rfl hl.1 (rest := []) rfl (Nat.le_of_ble_eq_true rfl) dX6_changeBest_109 (fun H locs hW => ?_)
              refine lv_aload_n C.1.1 C.1.2.1 dX6_changeBest_112 rfl (lv_at hl 0 rfl) ?_
              have hk48 := sh6_8 hW hk_a0
              refine gf6_8 C hW hk_a0 w_413 dX6_changeBest_113 ?_
              refine gf5_1 C hW hk48 w_386 dX6_changeBest_116 ?_
              refine lv_iload_n C.1.1 C.1.2.1 dX6_changeBest_119 rfl (lv_at hl 2 rfl) ?_
              refine lv_icmp_ge (tgt := 140) C.1.1 C.1.2.1 dX6_changeBest_120 (by decide) (fun h9 => ?_) (fun h9 => ?_)
              · replace hf := (if_pos h9).symm.trans hf
                exact J140 _ _ _ _ _ _ _ hf hW (lv_sub hl [0, 1, 2, 3, 4, 5] rfl)
              · replace hf := (if_neg h9).symm.trans hf
                refine lv_aload_n C.1.1 C.1.2.1 dX6_changeBest_123 rfl (lv_at hl 0 rfl) ?_
                have hk49 := sh6_8 hW hk_a0
                refine gf6_8 C hW hk_a0 w_413 dX6_changeBest_124 ?_
                refine gf5_1 C hW hk49 w_386 dX6_changeBest_127 ?_
                refine lv_istore_n (lv' := [(2, .int _), (0, .ref _), (1, .int _), (3, .int _), (4, .int _), (5, .int _)]) C.1.1 C.1.2.1 dX6_changeBest_130 rfl hl (by decide) rfl (fun ls hl => ?_)
                refine lv_bipush (v := 10) C.1.1 C.1.2.1 dX6_changeBest_131 (by decide) ?_
                refine lv_iload C.1.1 C.1.2.1 dX6_changeBest_133 (lv_at hl 4 rfl) ?_
                refine lv_imul C.1.1 C.1.2.1 dX6_changeBest_135 ?_
                refine lv_iload C.1.1 C.1.2.1 dX6_changeBest_136 (lv_at hl 5 rfl) ?_
                refine lv_iadd C.1.1 C.1.2.1 dX6_changeBest_138 ?_
                refine lv_istore_n (lv' := [(3, .int _), (2, .int _), (0, .ref _), (1, .int _), (4, .int _), (5, .int _)]) C.1.1 C.1.2.1 dX6_changeBest_139 rfl hl (by decide) rfl (fun ls hl => ?_)
                exact J140 _ _ _ _ _ _ _ hf hW (lv_sub hl [2, 3, 1, 0, 4, 5] rfl)
      refine lv_iload C.1.1 C.1.2.1 dX6_changeBest_40 (lv_at hl 4 rfl) ?_
      refine lv_aload_n C.1.1 C.1.2.1 dX6_changeBest_42 rfl (lv_at hl 0 rfl) ?_
      have hk20 := sh6_3 hW hk_a0
      refine gf6_3 C hW hk_a0 w_408 dX6_changeBest_43 ?_
      refine gf3_0 C hW hk20 w_182 dX6_changeBest_46 ?_
      refine lv_icmp_ge (tgt := 152) C.1.1 C.1.2.1 dX6_changeBest_49 (by decide) (fun h9 => ?_) (fun h9 => ?_)
      · replace hf := (if_pos h9).symm.trans hf
        cases hf
        cases hx
        exact K40_152 _ _ _ _ _ _ rfl hW (lv_sub hl [1, 2, 3] rfl)
      · replace hf := (if_neg h9).symm.trans hf
        refine lv_iload C.1.1 C.1.2.1 dX6_changeBest_52 (lv_at hl 4 rfl) ?_
        refine lv_iconst (v := 1) C.1.1 C.1.2.1 dX6_changeBest_54 (by decide) ?_
        refine lv_iadd C.1.1 C.1.2.1 dX6_changeBest_55 ?_
        refine lv_istore (lv' := [(5, .int _), (0, .ref _), (1, .int _), (2, .int _), (3, .int _), (4, .int _)]) C.1.1 C.1.2.1 dX6_changeBest_56 hl (by decide) rfl (fun ls hl => ?_)
        obtain ⟨o52, ho, hf⟩ := bd hf
        obtain ⟨n, ho⟩ := lp_it ho
        refine L58 _ n _ _ _ _ _ _ _ o52 ho hW (lv_sub hl [1, 2, 3, 4, 5, 0] rfl) ?_
        intro y54 y55 σ53 H locs ls e9 hW hl
        subst e9
        try dsimp only at hf
        refine lv_iinc (v := _) (lv' := [(4, .int _), (0, .ref _), (1, .int _), (2, .int _), (3, .int _)]) C.1.1 C.1.2.1 dX6_changeBest_146 hl (k := 4) rfl (ii (k := 1) (by decide)) (by decide) rfl (fun ls hl => ?_)
        refine lv_goto (tgt := 40) C.1.1 C.1.2.1 dX6_changeBest_149 (by decide) ?_
        cases hf
        exact ih _ _ _ _ _ _ _ _ hx hW (lv_sub hl [1, 2, 3, 4, 0] rfl) K40_152
  have J162 : ∀ (x3 : Int32) (σ : Sg) (H : Heap) (locs : List Loc) (ls : Array Slot), jX6_changeBest_162 a0 p1 x3 σ = some (r, σ') → Ws G σ s.heap H locs → lv_has ls 6 [(3, .int x3)] → W p l e (rmOf 7 178) s m args below meth c H locs 0 0 Q (F0 m 162 ls []) := by
    intro x3 σ H locs ls hf hW hl
    delta jX6_changeBest_162 at hf
    refine lv_iload_n C.1.1 C.1.2.1 dX6_changeBest_162 rfl (lv_at hl 0 rfl) ?_
    refine lv_goto (tgt := 167) C.1.1 C.1.2.1 dX6_changeBest_163 (by decide) ?_
    exact ri hQ C hr hlk hW hf (rok_i _) dX6_changeBest_167
  refine lv_iload_n C.1.1 C.1.2.1 dX6_changeBest_0 rfl (lv_at hl 1 rfl) ?_
  obtain ⟨⟨r3, σ2⟩, hc1, hf⟩ := bd hf
  try dsimp only at hf
  refine cSi C hW (mX6_isEither hc1) ksX6_isEither w_904 ⟨(Nat.le_of_ble_eq_true rfl), (Nat.le_of_ble_eq_true rfl)⟩ ⟨Nat.zero_le _, Nat.zero_le _⟩ rfl hl.1 (rest := []) rfl (Nat.le_of_ble_eq_true rfl) dX6_changeBest_1 (fun H locs hn4 hW => ?_)
  refine lv_if_ne (tgt := 9) C.1.1 C.1.2.1 dX6_changeBest_4 (by decide) (fun h9 => ?_) (fun h9 => ?_)
  · replace hf := (if_neg h9).symm.trans hf
    refine lv_aload_n C.1.1 C.1.2.1 dX6_changeBest_9 rfl (lv_at hl 0 rfl) ?_
    obtain ⟨σ7, hc6, hf⟩ := bd hf
    try dsimp only at hf
    refine cVv C hW (mX6_startTrial hk_a0 hc6) hk_a0 kvX6_startTrial w_876 ⟨(Nat.le_of_ble_eq_true rfl), (Nat.le_of_ble_eq_true rfl)⟩ ⟨Nat.zero_le _, Nat.zero_le _⟩ rfl hl.1 (rest := []) rfl (Nat.le_of_ble_eq_true rfl) dX6_changeBest_10 (fun H locs hW => ?_)
    refine lv_aload_n C.1.1 C.1.2.1 dX6_changeBest_13 rfl (lv_at hl 0 rfl) ?_
    have hk11 := sh6_8 hW hk_a0
    refine gf6_8 C hW hk_a0 w_413 dX6_changeBest_14 ?_
    refine lv_aload_n C.1.1 C.1.2.1 dX6_changeBest_17 rfl (lv_at hl 0 rfl) ?_
    have hk12 := sh6_7 hW hk_a0
    refine gf6_7 C hW hk_a0 w_412 dX6_changeBest_18 ?_
    refine lv_bipush (v := 72) C.1.1 C.1.2.1 dX6_changeBest_21 (by decide) ?_
    obtain ⟨σ14, hc13, hf⟩ := bd hf
    try dsimp only at hf
    refine cVv C hW (mX5_follow hk11 hk12 hc13) hk11 kvX5_follow w_880 ⟨(Nat.le_of_ble_eq_true rfl), (Nat.le_of_ble_eq_true rfl)⟩ ⟨Nat.zero_le _, Nat.zero_le _⟩ rfl hl.1 (rest := []) rfl (Nat.le_of_ble_eq_true rfl) dX6_changeBest_23 (fun H locs hW => ?_)
    refine lv_aload_n C.1.1 C.1.2.1 dX6_changeBest_26 rfl (lv_at hl 0 rfl) ?_
    have hk18 := sh6_8 hW hk_a0
    refine gf6_8 C hW hk_a0 w_413 dX6_changeBest_27 ?_
    refine gf5_1 C hW hk18 w_386 dX6_changeBest_30 ?_
    refine lv_istore_n (lv' := [(2, .int _), (0, .ref _), (1, .int _)]) C.1.1 C.1.2.1 dX6_changeBest_33 rfl hl (by decide) rfl (fun ls hl => ?_)
    refine lv_bipush (v := (-2)) C.1.1 C.1.2.1 dX6_changeBest_34 (by decide) ?_
    refine lv_istore_n (lv' := [(3, .int _), (2, .int _), (0, .ref _), (1, .int _)]) C.1.1 C.1.2.1 dX6_changeBest_36 rfl hl (by decide) rfl (fun ls hl => ?_)
    refine lv_iconst (v := 0) C.1.1 C.1.2.1 dX6_changeBest_37 (by decide) ?_
    refine lv_istore (lv' := [(4, .int _), (3, .int _), (2, .int _), (0, .ref _), (1, .int _)]) C.1.1 C.1.2.1 dX6_changeBest_38 hl (by decide) rfl (fun ls hl => ?_)
    obtain ⟨o58, ho, hf⟩ := bd hf
    obtain ⟨n, ho⟩ := lp_it ho
    refine L40 n _ _ _ _ _ _ _ o58 ho hW (lv_sub hl [3, 4, 2, 1, 0] rfl) ?_
    intro y60 y61 σ59 H locs ls e9 hW hl
    subst e9
    try dsimp only at hf
    refine lv_iload_n C.1.1 C.1.2.1 dX6_changeBest_152 rfl (lv_at hl 0 rfl) ?_
    refine lv_if_eq (tgt := 162) C.1.1 C.1.2.1 dX6_changeBest_153 (by decide) (fun h9 => ?_) (fun h9 => ?_)
    · replace hf := (if_pos h9).symm.trans hf
      exact J162 _ _ _ _ _ hf hW (lv_sub hl [2] rfl)
    · replace hf := (if_neg h9).symm.trans hf
      refine lv_iload_n C.1.1 C.1.2.1 dX6_changeBest_156 rfl (lv_at hl 2 rfl) ?_
      refine lv_bipush (v := (-2)) C.1.1 C.1.2.1 dX6_changeBest_157 (by decide) ?_
      refine lv_icmp_ne (tgt := 166) C.1.1 C.1.2.1 dX6_changeBest_159 (by decide) (fun h9 => ?_) (fun h9 => ?_)
      · replace hf := (if_neg h9).symm.trans hf
        refine lv_iload_n C.1.1 C.1.2.1 dX6_changeBest_166 rfl (lv_at hl 1 rfl) ?_
        exact ri hQ C hr hlk hW hf (rok_i _) dX6_changeBest_167
      · replace hf := (if_pos h9).symm.trans hf
        exact J162 _ _ _ _ _ hf hW (lv_sub hl [2] rfl)
  · replace hf := (if_pos h9).symm.trans hf
    refine lv_iconst (v := (-1)) C.1.1 C.1.2.1 dX6_changeBest_7 (by decide) ?_
    exact ri hQ C hr hlk hW hf (rok_i _) dX6_changeBest_8
theorem kvX6_frees : KV 6 "RightKeys" yX6_frees cX6_frees 3 (some .int) 1 := ⟨⟨w_920, w_921, w_109, w_922⟩, ⟨rfl, by decide, by decide, by decide +kernel⟩, by decide, rfl⟩
noncomputable def fX6_frees (a0 : Nat) (p1 : Int32) (σ : Sg) : Option (Int32 × Sg) := (fX6_isHouse a0 p1 σ).bind (fun q5 => let r3 := q5.1; let σ2 := q5.2; if r3 = 0 then (some ((-1 : Int32), σ2)) else ((fX6_startTrial a0 σ2).bind (fun σ7 => (fX2_bringIn (a0 + 40) p1 σ7).bind (fun σ13 => (let x2_18 := (σ13.1 (a0 + 40) 10); (fX2_letPeopleIn (a0 + 40) σ13).bind (fun σ21 => some (((σ21.1 (a0 + 40) 10) - x2_18), σ21)))))))
set_option maxRecDepth 100000 in
set_option maxHeartbeats 4000000 in
theorem mX6_frees {l : Launch} {G : Gm} {a0 : Nat} {p1 : Int32} {σ : Sg} {r : Int32} {σ' : Sg} (hk_a0 : gK G a0 = 7) (hf : fX6_frees a0 p1 σ = some (r, σ')) : Mi l G yX6_frees cX6_frees 3 .int 5 134 [.ref (gB G + a0), .int p1] σ r σ' := by
  refine of_W "RightKeys" rfl (by decide) (Nat.le_of_ble_eq_true rfl) ?_
  intro p e s m args below meth c Q hQ C hr hlk hW ls hl
  have h00 := hW.1
  have hl : lv_has ls 3 [(0, .ref (gB G + a0)), (1, .int p1)] := hl
  delta fX6_frees at hf
  refine lv_aload_n C.1.1 C.1.2.1 dX6_frees_0 rfl (lv_at hl 0 rfl) ?_
  refine lv_iload_n C.1.1 C.1.2.1 dX6_frees_1 rfl (lv_at hl 1 rfl) ?_
  obtain ⟨⟨r3, σ2⟩, hc1, hf⟩ := bd hf
  try dsimp only at hf
  refine cVi C hW (mX6_isHouse hk_a0 hc1) hk_a0 kvX6_isHouse w_674 ⟨(Nat.le_of_ble_eq_true rfl), (Nat.le_of_ble_eq_true rfl)⟩ ⟨Nat.zero_le _, Nat.zero_le _⟩ rfl hl.1 (rest := []) rfl (Nat.le_of_ble_eq_true rfl) dX6_frees_2 (fun H locs hn4 hW => ?_)
  refine lv_if_ne (tgt := 10) C.1.1 C.1.2.1 dX6_frees_5 (by decide) (fun h9 => ?_) (fun h9 => ?_)
  · replace hf := (if_neg h9).symm.trans hf
    refine lv_aload_n C.1.1 C.1.2.1 dX6_frees_10 rfl (lv_at hl 0 rfl) ?_
    obtain ⟨σ7, hc6, hf⟩ := bd hf
    try dsimp only at hf
    refine cVv C hW (mX6_startTrial hk_a0 hc6) hk_a0 kvX6_startTrial w_876 ⟨(Nat.le_of_ble_eq_true rfl), (Nat.le_of_ble_eq_true rfl)⟩ ⟨Nat.zero_le _, Nat.zero_le _⟩ rfl hl.1 (rest := []) rfl (Nat.le_of_ble_eq_true rfl) dX6_frees_11 (fun H locs hW => ?_)
    refine lv_aload_n C.1.1 C.1.2.1 dX6_frees_14 rfl (lv_at hl 0 rfl) ?_
    have hk11 := sh6_7 hW hk_a0
    refine gf6_7 C hW hk_a0 w_412 dX6_frees_15 ?_
    refine lv_iload_n C.1.1 C.1.2.1 dX6_frees_18 rfl (lv_at hl 1 rfl) ?_
    obtain ⟨σ13, hc12, hf⟩ := bd hf
    try dsimp only at hf
    refine cVv C hW (mX2_bringIn hk11 hc12) hk11 kvX2_bringIn w_923 ⟨(Nat.le_of_ble_eq_true rfl), (Nat.le_of_ble_eq_true rfl)⟩ ⟨Nat.zero_le _, Nat.zero_le _⟩ rfl hl.1 (rest := []) rfl (Nat.le_of_ble_eq_true rfl) dX6_frees_19 (fun H locs hW => ?_)
    refine lv_aload_n C.1.1 C.1.2.1 dX6_frees_22 rfl (lv_at hl 0 rfl) ?_
    have hk17 := sh6_7 hW hk_a0
    refine gf6_7 C hW hk_a0 w_412 dX6_frees_23 ?_
    refine gf2_10 C hW hk17 w_317 dX6_frees_26 ?_
    refine lv_istore_n (lv' := [(2, .int _), (0, .ref _), (1, .int _)]) C.1.1 C.1.2.1 dX6_frees_29 rfl hl (by decide) rfl (fun ls hl => ?_)
    refine lv_aload_n C.1.1 C.1.2.1 dX6_frees_30 rfl (lv_at hl 1 rfl) ?_
    have hk19 := sh6_7 hW hk_a0
    refine gf6_7 C hW hk_a0 w_412 dX6_frees_31 ?_
    obtain ⟨σ21, hc20, hf⟩ := bd hf
    try dsimp only at hf
    refine cVv C hW (mX2_letPeopleIn hk19 hc20) hk19 kvX2_letPeopleIn w_924 ⟨(Nat.le_of_ble_eq_true rfl), (Nat.le_of_ble_eq_true rfl)⟩ ⟨Nat.zero_le _, Nat.zero_le _⟩ rfl hl.1 (rest := []) rfl (Nat.le_of_ble_eq_true rfl) dX6_frees_34 (fun H locs hW => ?_)
    refine lv_aload_n C.1.1 C.1.2.1 dX6_frees_37 rfl (lv_at hl 1 rfl) ?_
    have hk25 := sh6_7 hW hk_a0
    refine gf6_7 C hW hk_a0 w_412 dX6_frees_38 ?_
    refine gf2_10 C hW hk25 w_317 dX6_frees_41 ?_
    refine lv_iload_n C.1.1 C.1.2.1 dX6_frees_44 rfl (lv_at hl 0 rfl) ?_
    refine lv_isub C.1.1 C.1.2.1 dX6_frees_45 ?_
    exact ri hQ C hr hlk hW hf (rok_i _) dX6_frees_46
  · replace hf := (if_pos h9).symm.trans hf
    refine lv_iconst (v := (-1)) C.1.1 C.1.2.1 dX6_frees_8 (by decide) ?_
    exact ri hQ C hr hlk hW hf (rok_i _) dX6_frees_9
theorem kvX6_worst : KV 6 "RightKeys" yX6_worst cX6_worst 5 (some .int) 2 := ⟨⟨w_926, w_927, w_109, w_928⟩, ⟨rfl, by decide, by decide, by decide +kernel⟩, by decide, rfl⟩
noncomputable def jX6_worst_87 (a0 : Nat) (p1 : Int32) (p2 : Int32) (x3 : Int32) (x4 : Int32) (σ : Sg) : Option ((Int32 × Int32 × Sg) ⊕ (Int32 × Sg)) := (let x4_31 := x4 + (1 : Int32); some (Sum.inl (x3, x4_31, σ)))
noncomputable def bX6_worst_50 (a0 : Nat) (p1 : Int32) (p2 : Int32) (x3 : Int32) (x4 : Int32) (σ : Sg) : Option ((Int32 × Int32 × Sg) ⊕ (Int32 × Sg)) := if (σ.1 (σ.2.2.1 a0 3) 0) ≤ x4 then (some (Sum.inr (x3, σ))) else (if vin x4 8 then (if vin x3 8 then (if (σ.1 ((a0 + 49) + 1) ((x4).toNatClampNeg)) ≤ (σ.1 ((a0 + 49) + 1) ((x3).toNatClampNeg)) then (jX6_worst_87 a0 p1 p2 x3 x4 σ) else (jX6_worst_87 a0 p1 p2 x4 x4 σ)) else none) else none)
noncomputable def fX6_worst (a0 : Nat) (p1 : Int32) (p2 : Int32) (σ : Sg) : Option (Int32 × Sg) := (fX6_isSpan p1 σ).bind (fun q5 => let r3 := q5.1; let σ2 := q5.2; if r3 = 0 then (some ((-1 : Int32), σ2)) else ((fX6_isEither p2 σ2).bind (fun q10 => let r8 := q10.1; let σ7 := q10.2; if r8 = 0 then (some ((-1 : Int32), σ7)) else (if (σ7.1 (σ7.2.2.1 a0 3) 0) = 0 then (some ((-2 : Int32), σ7)) else ((fX6_startTrial a0 σ7).bind (fun σ13 => (fX5_follow (a0 + 49) (a0 + 40) p1 σ13).bind (fun σ20 => (lp (fun st => bX6_worst_50 a0 p1 p2 st.1 st.2.1 st.2.2) ((0 : Int32), (1 : Int32), σ20)).bind (fun q38 => let y34 := q38.1; let σ33 := q38.2;  if p2 = 0 then (some (y34, σ33)) else (if vin y34 8 then (some ((σ33.1 ((a0 + 49) + 1) ((y34).toNatClampNeg)), σ33)) else none)))))))))
set_option maxRecDepth 100000 in
set_option maxHeartbeats 4000000 in
theorem mX6_worst {l : Launch} {G : Gm} {a0 : Nat} {p1 : Int32} {p2 : Int32} {σ : Sg} {r : Int32} {σ' : Sg} (hk_a0 : gK G a0 = 7) (hf : fX6_worst a0 p1 p2 σ = some (r, σ')) : Mi l G yX6_worst cX6_worst 5 .int 7 178 [.ref (gB G + a0), .int p1, .int p2] σ r σ' := by
  refine of_W "RightKeys" rfl (by decide) (Nat.le_of_ble_eq_true rfl) ?_
  intro p e s m args below meth c Q hQ C hr hlk hW ls hl
  have h00 := hW.1
  have hl : lv_has ls 5 [(0, .ref (gB G + a0)), (1, .int p1), (2, .int p2)] := hl
  delta fX6_worst at hf
  have L50 : ∀ (n : Nat) (x3 : Int32) (x4 : Int32) (σ : Sg) (H : Heap) (locs : List Loc) (ls : Array Slot) (out : (Int32 × Sg)), iter (fun st => bX6_worst_50 a0 p1 p2 st.1 st.2.1 st.2.2) n (x3, x4, σ) = some out → Ws G σ s.heap H locs → lv_has ls 5 [(0, .ref (gB G + a0)), (2, .int p2), (3, .int x3), (4, .int x4)] → (∀ (y3 : Int32) (σ : Sg) (H : Heap) (locs : List Loc) (ls : Array Slot), out = (y3, σ) → Ws G σ s.heap H locs → lv_has ls 5 [(0, .ref (gB G + a0)), (2, .int p2), (3, .int y3)] → W p l e (rmOf 7 178) s m args below meth c H locs 0 0 Q (F0 m 93 ls [])) → W p l e (rmOf 7 178) s m args below meth c H locs 0 0 Q (F0 m 50 ls []) := by
    intro n
    induction n with
    | zero =>
      intro x3 x4 σ H locs ls out hf
      exact (it_0 hf).elim
    | succ n ih =>
      intro x3 x4 σ H locs ls out hf hW hl K50_93
      obtain ⟨x, hf, hx⟩ := it_s hf
      have hf : bX6_worst_50 a0 p1 p2 x3 x4 σ = some x := hf
      delta bX6_worst_50 at hf
      have J87 : ∀ (x3 : Int32) (x4 : Int32) (σ : Sg) (H : Heap) (locs : List Loc) (ls : Array Slot), jX6_worst_87 a0 p1 p2 x3 x4 σ = some x → Ws G σ s.heap H locs → lv_has ls 5 [(0, .ref (gB G + a0)), (2, .int p2), (3, .int x3), (4, .int x4)] → W p l e (rmOf 7 178) s m args below meth c H locs 0 0 Q (F0 m 87 ls []) := by
        intro x3 x4 σ H locs ls hf hW hl
        delta jX6_worst_87 at hf
        refine lv_iinc (v := _) (lv' := [(4, .int _), (0, .ref _), (2, .int _), (3, .int _)]) C.1.1 C.1.2.1 dX6_worst_87 hl (k := 3) rfl (ii (k := 1) (by decide)) (by decide) rfl (fun ls hl => ?_)
        refine lv_goto (tgt := 50) C.1.1 C.1.2.1 dX6_worst_90 (by decide) ?_
        cases hf
        exact ih _ _ _ _ _ _ _ hx hW (lv_sub hl [1, 2, 3, 0] rfl) K50_93
      refine lv_iload C.1.1 C.1.2.1 dX6_worst_50 (lv_at hl 3 rfl) ?_
      refine lv_aload_n C.1.1 C.1.2.1 dX6_worst_52 rfl (lv_at hl 0 rfl) ?_
      have hk24 := sh6_3 hW hk_a0
      refine gf6_3 C hW hk_a0 w_408 dX6_worst_53 ?_
      refine gf3_0 C hW hk24 w_182 dX6_worst_56 ?_
      refine lv_icmp_ge (tgt := 93) C.1.1 C.1.2.1 dX6_worst_59 (by decide) (fun h9 => ?_) (fun h9 => ?_)
      · replace hf := (if_pos h9).symm.trans hf
        cases hf
        cases hx
        exact K50_93 _ _ _ _ _ rfl hW (lv_sub hl [0, 1, 2] rfl)
      · replace hf := (if_neg h9).symm.trans hf
        refine lv_aload_n C.1.1 C.1.2.1 dX6_worst_62 rfl (lv_at hl 0 rfl) ?_
        have hk25 := sh6_8 hW hk_a0
        refine gf6_8 C hW hk_a0 w_413 dX6_worst_63 ?_
        have hk26 := sh5_0 hW hk25
        refine gf5_0 C hW hk25 w_384 dX6_worst_66 ?_
        refine lv_iload C.1.1 C.1.2.1 dX6_worst_69 (lv_at hl 3 rfl) ?_
        obtain ⟨hv27, hf⟩ := gd hf
        refine wai C hW hk26 (vin_p hv27) dX6_worst_71 ?_
        refine lv_aload_n C.1.1 C.1.2.1 dX6_worst_72 rfl (lv_at hl 0 rfl) ?_
        have hk28 := sh6_8 hW hk_a0
        refine gf6_8 C hW hk_a0 w_413 dX6_worst_73 ?_
        have hk29 := sh5_0 hW hk28
        refine gf5_0 C hW hk28 w_384 dX6_worst_76 ?_
        refine lv_iload_n C.1.1 C.1.2.1 dX6_worst_79 rfl (lv_at hl 2 rfl) ?_
        obtain ⟨hv30, hf⟩ := gd hf
        refine wai C hW hk29 (vin_p hv30) dX6_worst_80 ?_
        refine lv_icmp_le (tgt := 87) C.1.1 C.1.2.1 dX6_worst_81 (by decide) (fun h9 => ?_) (fun h9 => ?_)
        · replace hf := (if_pos h9).symm.trans hf
          exact J87 _ _ _ _ _ _ hf hW (lv_sub hl [0, 1, 2, 3] rfl)
        · replace hf := (if_neg h9).symm.trans hf
          refine lv_iload C.1.1 C.1.2.1 dX6_worst_84 (lv_at hl 3 rfl) ?_
          refine lv_istore_n (lv' := [(3, .int _), (0, .ref _), (2, .int _), (4, .int _)]) C.1.1 C.1.2.1 dX6_worst_86 rfl hl (by decide) rfl (fun ls hl => ?_)
          exact J87 _ _ _ _ _ _ hf hW (lv_sub hl [1, 2, 0, 3] rfl)
  refine lv_iload_n C.1.1 C.1.2.1 dX6_worst_0 rfl (lv_at hl 1 rfl) ?_
  obtain ⟨⟨r3, σ2⟩, hc1, hf⟩ := bd hf
  try dsimp only at hf
  refine cSi C hW (mX6_isSpan hc1) ksX6_isSpan w_873 ⟨(Nat.le_of_ble_eq_true rfl), (Nat.le_of_ble_eq_true rfl)⟩ ⟨Nat.zero_le _, Nat.zero_le _⟩ rfl hl.1 (rest := []) rfl (Nat.le_of_ble_eq_true rfl) dX6_worst_1 (fun H locs hn4 hW => ?_)
  refine lv_if_eq (tgt := 14) C.1.1 C.1.2.1 dX6_worst_4 (by decide) (fun h9 => ?_) (fun h9 => ?_)
  · replace hf := (if_pos h9).symm.trans hf
    refine lv_iconst (v := (-1)) C.1.1 C.1.2.1 dX6_worst_14 (by decide) ?_
    exact ri hQ C hr hlk hW hf (rok_i _) dX6_worst_15
  · replace hf := (if_neg h9).symm.trans hf
    refine lv_iload_n C.1.1 C.1.2.1 dX6_worst_7 rfl (lv_at hl 2 rfl) ?_
    obtain ⟨⟨r8, σ7⟩, hc6, hf⟩ := bd hf
    try dsimp only at hf
    refine cSi C hW (mX6_isEither hc6) ksX6_isEither w_904 ⟨(Nat.le_of_ble_eq_true rfl), (Nat.le_of_ble_eq_true rfl)⟩ ⟨Nat.zero_le _, Nat.zero_le _⟩ rfl hl.1 (rest := []) rfl (Nat.le_of_ble_eq_true rfl) dX6_worst_8 (fun H locs hn9 hW => ?_)
    refine lv_if_ne (tgt := 16) C.1.1 C.1.2.1 dX6_worst_11 (by decide) (fun h9 => ?_) (fun h9 => ?_)
    · replace hf := (if_neg h9).symm.trans hf
      refine lv_aload_n C.1.1 C.1.2.1 dX6_worst_16 rfl (lv_at hl 0 rfl) ?_
      have hk11 := sh6_3 hW hk_a0
      refine gf6_3 C hW hk_a0 w_408 dX6_worst_17 ?_
      refine gf3_0 C hW hk11 w_182 dX6_worst_20 ?_
      refine lv_if_ne (tgt := 29) C.1.1 C.1.2.1 dX6_worst_23 (by decide) (fun h9 => ?_) (fun h9 => ?_)
      · replace hf := (if_neg h9).symm.trans hf
        refine lv_aload_n C.1.1 C.1.2.1 dX6_worst_29 rfl (lv_at hl 0 rfl) ?_
        obtain ⟨σ13, hc12, hf⟩ := bd hf
        try dsimp only at hf
        refine cVv C hW (mX6_startTrial hk_a0 hc12) hk_a0 kvX6_startTrial w_876 ⟨(Nat.le_of_ble_eq_true rfl), (Nat.le_of_ble_eq_true rfl)⟩ ⟨Nat.zero_le _, Nat.zero_le _⟩ rfl hl.1 (rest := []) rfl (Nat.le_of_ble_eq_true rfl) dX6_worst_30 (fun H locs hW => ?_)
        refine lv_aload_n C.1.1 C.1.2.1 dX6_worst_33 rfl (lv_at hl 0 rfl) ?_
        have hk17 := sh6_8 hW hk_a0
        refine gf6_8 C hW hk_a0 w_413 dX6_worst_34 ?_
        refine lv_aload_n C.1.1 C.1.2.1 dX6_worst_37 rfl (lv_at hl 0 rfl) ?_
        have hk18 := sh6_7 hW hk_a0
        refine gf6_7 C hW hk_a0 w_412 dX6_worst_38 ?_
        refine lv_iload_n C.1.1 C.1.2.1 dX6_worst_41 rfl (lv_at hl 1 rfl) ?_
        obtain ⟨σ20, hc19, hf⟩ := bd hf
        try dsimp only at hf
        refine cVv C hW (mX5_follow hk17 hk18 hc19) hk17 kvX5_follow w_880 ⟨(Nat.le_of_ble_eq_true rfl), (Nat.le_of_ble_eq_true rfl)⟩ ⟨Nat.zero_le _, Nat.zero_le _⟩ rfl hl.1 (rest := []) rfl (Nat.le_of_ble_eq_true rfl) dX6_worst_42 (fun H locs hW => ?_)
        refine lv_iconst (v := 0) C.1.1 C.1.2.1 dX6_worst_45 (by decide) ?_
        refine lv_istore_n (lv' := [(3, .int _), (0, .ref _), (1, .int _), (2, .int _)]) C.1.1 C.1.2.1 dX6_worst_46 rfl hl (by decide) rfl (fun ls hl => ?_)
        refine lv_iconst (v := 1) C.1.1 C.1.2.1 dX6_worst_47 (by decide) ?_
        refine lv_istore (lv' := [(4, .int _), (3, .int _), (0, .ref _), (1, .int _), (2, .int _)]) C.1.1 C.1.2.1 dX6_worst_48 hl (by decide) rfl (fun ls hl => ?_)
        obtain ⟨o32, ho, hf⟩ := bd hf
        obtain ⟨n, ho⟩ := lp_it ho
        refine L50 n _ _ _ _ _ _ o32 ho hW (lv_sub hl [2, 4, 1, 0] rfl) ?_
        intro y34 σ33 H locs ls e9 hW hl
        subst e9
        try dsimp only at hf
        refine lv_iload_n C.1.1 C.1.2.1 dX6_worst_93 rfl (lv_at hl 1 rfl) ?_
        refine lv_if_ne (tgt := 101) C.1.1 C.1.2.1 dX6_worst_94 (by decide) (fun h9 => ?_) (fun h9 => ?_)
        · replace hf := (if_neg h9).symm.trans hf
          refine lv_aload_n C.1.1 C.1.2.1 dX6_worst_101 rfl (lv_at hl 0 rfl) ?_
          have hk35 := sh6_8 hW hk_a0
          refine gf6_8 C hW hk_a0 w_413 dX6_worst_102 ?_
          have hk36 := sh5_0 hW hk35
          refine gf5_0 C hW hk35 w_384 dX6_worst_105 ?_
          refine lv_iload_n C.1.1 C.1.2.1 dX6_worst_108 rfl (lv_at hl 2 rfl) ?_
          obtain ⟨hv37, hf⟩ := gd hf
          refine wai C hW hk36 (vin_p hv37) dX6_worst_109 ?_
          exact ri hQ C hr hlk hW hf (rok_i _) dX6_worst_110
        · replace hf := (if_pos h9).symm.trans hf
          refine lv_iload_n C.1.1 C.1.2.1 dX6_worst_97 rfl (lv_at hl 2 rfl) ?_
          refine lv_goto (tgt := 110) C.1.1 C.1.2.1 dX6_worst_98 (by decide) ?_
          exact ri hQ C hr hlk hW hf (rok_i _) dX6_worst_110
      · replace hf := (if_pos h9).symm.trans hf
        refine lv_bipush (v := (-2)) C.1.1 C.1.2.1 dX6_worst_26 (by decide) ?_
        exact ri hQ C hr hlk hW hf (rok_i _) dX6_worst_28
    · replace hf := (if_pos h9).symm.trans hf
      refine lv_iconst (v := (-1)) C.1.1 C.1.2.1 dX6_worst_14 (by decide) ?_
      exact ri hQ C hr hlk hW hf (rok_i _) dX6_worst_15
theorem kvX6_peak : KV 6 "RightKeys" yX6_peak cX6_peak 3 (some .int) 2 := ⟨⟨w_930, w_931, w_109, w_932⟩, ⟨rfl, by decide, by decide, by decide +kernel⟩, by decide, rfl⟩
noncomputable def fX6_peak (a0 : Nat) (p1 : Int32) (p2 : Int32) (σ : Sg) : Option (Int32 × Sg) := (fX6_isSpan p1 σ).bind (fun q5 => let r3 := q5.1; let σ2 := q5.2; if r3 = 0 then (some ((-1 : Int32), σ2)) else ((fX6_isEither p2 σ2).bind (fun q10 => let r8 := q10.1; let σ7 := q10.2; if r8 = 0 then (some ((-1 : Int32), σ7)) else ((fX6_startTrial a0 σ7).bind (fun σ12 => (fX5_follow (a0 + 49) (a0 + 40) p1 σ12).bind (fun σ19 => if p2 = 0 then (some ((σ19.1 (a0 + 49) 3), σ19)) else (some ((σ19.1 (a0 + 49) 2), σ19))))))))
set_option maxRecDepth 100000 in
set_option maxHeartbeats 4000000 in
theorem mX6_peak {l : Launch} {G : Gm} {a0 : Nat} {p1 : Int32} {p2 : Int32} {σ : Sg} {r : Int32} {σ' : Sg} (hk_a0 : gK G a0 = 7) (hf : fX6_peak a0 p1 p2 σ = some (r, σ')) : Mi l G yX6_peak cX6_peak 3 .int 7 178 [.ref (gB G + a0), .int p1, .int p2] σ r σ' := by
  refine of_W "RightKeys" rfl (by decide) (Nat.le_of_ble_eq_true rfl) ?_
  intro p e s m args below meth c Q hQ C hr hlk hW ls hl
  have h00 := hW.1
  have hl : lv_has ls 3 [(0, .ref (gB G + a0)), (1, .int p1), (2, .int p2)] := hl
  delta fX6_peak at hf
  refine lv_iload_n C.1.1 C.1.2.1 dX6_peak_0 rfl (lv_at hl 1 rfl) ?_
  obtain ⟨⟨r3, σ2⟩, hc1, hf⟩ := bd hf
  try dsimp only at hf
  refine cSi C hW (mX6_isSpan hc1) ksX6_isSpan w_873 ⟨(Nat.le_of_ble_eq_true rfl), (Nat.le_of_ble_eq_true rfl)⟩ ⟨Nat.zero_le _, Nat.zero_le _⟩ rfl hl.1 (rest := []) rfl (Nat.le_of_ble_eq_true rfl) dX6_peak_1 (fun H locs hn4 hW => ?_)
  refine lv_if_eq (tgt := 14) C.1.1 C.1.2.1 dX6_peak_4 (by decide) (fun h9 => ?_) (fun h9 => ?_)
  · replace hf := (if_pos h9).symm.trans hf
    refine lv_iconst (v := (-1)) C.1.1 C.1.2.1 dX6_peak_14 (by decide) ?_
    exact ri hQ C hr hlk hW hf (rok_i _) dX6_peak_15
  · replace hf := (if_neg h9).symm.trans hf
    refine lv_iload_n C.1.1 C.1.2.1 dX6_peak_7 rfl (lv_at hl 2 rfl) ?_
    obtain ⟨⟨r8, σ7⟩, hc6, hf⟩ := bd hf
    try dsimp only at hf
    refine cSi C hW (mX6_isEither hc6) ksX6_isEither w_904 ⟨(Nat.le_of_ble_eq_true rfl), (Nat.le_of_ble_eq_true rfl)⟩ ⟨Nat.zero_le _, Nat.zero_le _⟩ rfl hl.1 (rest := []) rfl (Nat.le_of_ble_eq_true rfl) dX6_peak_8 (fun H locs hn9 hW => ?_)
    refine lv_if_ne (tgt := 16) C.1.1 C.1.2.1 dX6_peak_11 (by decide) (fun h9 => ?_) (fun h9 => ?_)
    · replace hf := (if_neg h9).symm.trans hf
      refine lv_aload_n C.1.1 C.1.2.1 dX6_peak_16 rfl (lv_at hl 0 rfl) ?_
      obtain ⟨σ12, hc11, hf⟩ := bd hf
      try dsimp only at hf
      refine cVv C hW (mX6_startTrial hk_a0 hc11) hk_a0 kvX6_startTrial w_876 ⟨(Nat.le_of_ble_eq_true rfl), (Nat.le_of_ble_eq_true rfl)⟩ ⟨Nat.zero_le _, Nat.zero_le _⟩ rfl hl.1 (rest := []) rfl (Nat.le_of_ble_eq_true rfl) dX6_peak_17 (fun H locs hW => ?_)
      refine lv_aload_n C.1.1 C.1.2.1 dX6_peak_20 rfl (lv_at hl 0 rfl) ?_
      have hk16 := sh6_8 hW hk_a0
      refine gf6_8 C hW hk_a0 w_413 dX6_peak_21 ?_
      refine lv_aload_n C.1.1 C.1.2.1 dX6_peak_24 rfl (lv_at hl 0 rfl) ?_
      have hk17 := sh6_7 hW hk_a0
      refine gf6_7 C hW hk_a0 w_412 dX6_peak_25 ?_
      refine lv_iload_n C.1.1 C.1.2.1 dX6_peak_28 rfl (lv_at hl 1 rfl) ?_
      obtain ⟨σ19, hc18, hf⟩ := bd hf
      try dsimp only at hf
      refine cVv C hW (mX5_follow hk16 hk17 hc18) hk16 kvX5_follow w_880 ⟨(Nat.le_of_ble_eq_true rfl), (Nat.le_of_ble_eq_true rfl)⟩ ⟨Nat.zero_le _, Nat.zero_le _⟩ rfl hl.1 (rest := []) rfl (Nat.le_of_ble_eq_true rfl) dX6_peak_29 (fun H locs hW => ?_)
      refine lv_iload_n C.1.1 C.1.2.1 dX6_peak_32 rfl (lv_at hl 2 rfl) ?_
      refine lv_if_ne (tgt := 46) C.1.1 C.1.2.1 dX6_peak_33 (by decide) (fun h9 => ?_) (fun h9 => ?_)
      · replace hf := (if_neg h9).symm.trans hf
        refine lv_aload_n C.1.1 C.1.2.1 dX6_peak_46 rfl (lv_at hl 0 rfl) ?_
        have hk23 := sh6_8 hW hk_a0
        refine gf6_8 C hW hk_a0 w_413 dX6_peak_47 ?_
        refine gf5_2 C hW hk23 w_388 dX6_peak_50 ?_
        exact ri hQ C hr hlk hW hf (rok_i _) dX6_peak_53
      · replace hf := (if_pos h9).symm.trans hf
        refine lv_aload_n C.1.1 C.1.2.1 dX6_peak_36 rfl (lv_at hl 0 rfl) ?_
        have hk24 := sh6_8 hW hk_a0
        refine gf6_8 C hW hk_a0 w_413 dX6_peak_37 ?_
        refine gf5_3 C hW hk24 w_390 dX6_peak_40 ?_
        refine lv_goto (tgt := 53) C.1.1 C.1.2.1 dX6_peak_43 (by decide) ?_
        exact ri hQ C hr hlk hW hf (rok_i _) dX6_peak_53
    · replace hf := (if_pos h9).symm.trans hf
      refine lv_iconst (v := (-1)) C.1.1 C.1.2.1 dX6_peak_14 (by decide) ?_
      exact ri hQ C hr hlk hW hf (rok_i _) dX6_peak_15
theorem kvX6_gain : KV 6 "RightKeys" yX6_gain cX6_gain 3 (some .int) 1 := ⟨⟨w_934, w_935, w_109, w_936⟩, ⟨rfl, by decide, by decide, by decide +kernel⟩, by decide, rfl⟩
noncomputable def fX6_gain (a0 : Nat) (p1 : Int32) (σ : Sg) : Option (Int32 × Sg) := (fX6_isSpare a0 p1 σ).bind (fun q5 => let r3 := q5.1; let σ2 := q5.2; if r3 = 0 then (some ((-100000 : Int32), σ2)) else ((fX6_startTrial a0 σ2).bind (fun σ7 => (fX5_follow (a0 + 49) (a0 + 40) (72 : Int32) σ7).bind (fun σ14 => (let x2_19 := (σ14.1 (a0 + 49) 1); (fX6_startTrial a0 σ14).bind (fun σ21 => if vin p1 6 then ((let σ30 := wI σ21 ((a0 + 40) + 7) ((p1).toNatClampNeg) (σ21.1 ((σ21.2.2.1 a0 3) + 5) ((p1).toNatClampNeg)); (fX5_follow (a0 + 49) (a0 + 40) (72 : Int32) σ30).bind (fun σ34 => some ((x2_19 - (σ34.1 (a0 + 49) 1)), σ34)))) else none))))))
set_option maxRecDepth 100000 in
set_option maxHeartbeats 4000000 in
theorem mX6_gain {l : Launch} {G : Gm} {a0 : Nat} {p1 : Int32} {σ : Sg} {r : Int32} {σ' : Sg} (hk_a0 : gK G a0 = 7) (hf : fX6_gain a0 p1 σ = some (r, σ')) : Mi l G yX6_gain cX6_gain 3 .int 7 178 [.ref (gB G + a0), .int p1] σ r σ' := by
  refine of_W "RightKeys" rfl (by decide) (Nat.le_of_ble_eq_true rfl) ?_
  intro p e s m args below meth c Q hQ C hr hlk hW ls hl
  have h00 := hW.1
  have hl : lv_has ls 3 [(0, .ref (gB G + a0)), (1, .int p1)] := hl
  delta fX6_gain at hf
  refine lv_aload_n C.1.1 C.1.2.1 dX6_gain_0 rfl (lv_at hl 0 rfl) ?_
  refine lv_iload_n C.1.1 C.1.2.1 dX6_gain_1 rfl (lv_at hl 1 rfl) ?_
  obtain ⟨⟨r3, σ2⟩, hc1, hf⟩ := bd hf
  try dsimp only at hf
  refine cVi C hW (mX6_isSpare hk_a0 hc1) hk_a0 kvX6_isSpare w_714 ⟨(Nat.le_of_ble_eq_true rfl), (Nat.le_of_ble_eq_true rfl)⟩ ⟨Nat.zero_le _, Nat.zero_le _⟩ rfl hl.1 (rest := []) rfl (Nat.le_of_ble_eq_true rfl) dX6_gain_2 (fun H locs hn4 hW => ?_)
  refine lv_if_ne (tgt := 12) C.1.1 C.1.2.1 dX6_gain_5 (by decide) (fun h9 => ?_) (fun h9 => ?_)
  · replace hf := (if_neg h9).symm.trans hf
    refine lv_aload_n C.1.1 C.1.2.1 dX6_gain_12 rfl (lv_at hl 0 rfl) ?_
    obtain ⟨σ7, hc6, hf⟩ := bd hf
    try dsimp only at hf
    refine cVv C hW (mX6_startTrial hk_a0 hc6) hk_a0 kvX6_startTrial w_876 ⟨(Nat.le_of_ble_eq_true rfl), (Nat.le_of_ble_eq_true rfl)⟩ ⟨Nat.zero_le _, Nat.zero_le _⟩ rfl hl.1 (rest := []) rfl (Nat.le_of_ble_eq_true rfl) dX6_gain_13 (fun H locs hW => ?_)
    refine lv_aload_n C.1.1 C.1.2.1 dX6_gain_16 rfl (lv_at hl 0 rfl) ?_
    have hk11 := sh6_8 hW hk_a0
    refine gf6_8 C hW hk_a0 w_413 dX6_gain_17 ?_
    refine lv_aload_n C.1.1 C.1.2.1 dX6_gain_20 rfl (lv_at hl 0 rfl) ?_
    have hk12 := sh6_7 hW hk_a0
    refine gf6_7 C hW hk_a0 w_412 dX6_gain_21 ?_
    refine lv_bipush (v := 72) C.1.1 C.1.2.1 dX6_gain_24 (by decide) ?_
    obtain ⟨σ14, hc13, hf⟩ := bd hf
    try dsimp only at hf
    refine cVv C hW (mX5_follow hk11 hk12 hc13) hk11 kvX5_follow w_880 ⟨(Nat.le_of_ble_eq_true rfl), (Nat.le_of_ble_eq_true rfl)⟩ ⟨Nat.zero_le _, Nat.zero_le _⟩ rfl hl.1 (rest := []) rfl (Nat.le_of_ble_eq_true rfl) dX6_gain_26 (fun H locs hW => ?_)
    refine lv_aload_n C.1.1 C.1.2.1 dX6_gain_29 rfl (lv_at hl 0 rfl) ?_
    have hk18 := sh6_8 hW hk_a0
    refine gf6_8 C hW hk_a0 w_413 dX6_gain_30 ?_
    refine gf5_1 C hW hk18 w_386 dX6_gain_33 ?_
    refine lv_istore_n (lv' := [(2, .int _), (0, .ref _), (1, .int _)]) C.1.1 C.1.2.1 dX6_gain_36 rfl hl (by decide) rfl (fun ls hl => ?_)
    refine lv_aload_n C.1.1 C.1.2.1 dX6_gain_37 rfl (lv_at hl 1 rfl) ?_
    obtain ⟨σ21, hc20, hf⟩ := bd hf
    try dsimp only at hf
    refine cVv C hW (mX6_startTrial hk_a0 hc20) hk_a0 kvX6_startTrial w_876 ⟨(Nat.le_of_ble_eq_true rfl), (Nat.le_of_ble_eq_true rfl)⟩ ⟨Nat.zero_le _, Nat.zero_le _⟩ rfl hl.1 (rest := []) rfl (Nat.le_of_ble_eq_true rfl) dX6_gain_38 (fun H locs hW => ?_)
    refine lv_aload_n C.1.1 C.1.2.1 dX6_gain_41 rfl (lv_at hl 1 rfl) ?_
    have hk25 := sh6_7 hW hk_a0
    refine gf6_7 C hW hk_a0 w_412 dX6_gain_42 ?_
    have hk26 := sh2_18 hW hk25
    refine gf2_18 C hW hk25 w_333 dX6_gain_45 ?_
    refine lv_iload_n C.1.1 C.1.2.1 dX6_gain_48 rfl (lv_at hl 2 rfl) ?_
    refine lv_aload_n C.1.1 C.1.2.1 dX6_gain_49 rfl (lv_at hl 1 rfl) ?_
    have hk27 := sh6_3 hW hk_a0
    refine gf6_3 C hW hk_a0 w_408 dX6_gain_50 ?_
    have hk28 := sh3_8 hW hk27
    refine gf3_8 C hW hk27 w_208 dX6_gain_53 ?_
    refine lv_iload_n C.1.1 C.1.2.1 dX6_gain_56 rfl (lv_at hl 2 rfl) ?_
    obtain ⟨hv29, hf⟩ := gd hf
    refine wai C hW hk28 (vin_p hv29) dX6_gain_57 ?_
    refine wsi C hW hk26 (vin_p hv29) dX6_gain_58 (fun H locs hW => ?_)
    refine lv_aload_n C.1.1 C.1.2.1 dX6_gain_59 rfl (lv_at hl 1 rfl) ?_
    have hk31 := sh6_8 hW hk_a0
    refine gf6_8 C hW hk_a0 w_413 dX6_gain_60 ?_
    refine lv_aload_n C.1.1 C.1.2.1 dX6_gain_63 rfl (lv_at hl 1 rfl) ?_
    have hk32 := sh6_7 hW hk_a0
    refine gf6_7 C hW hk_a0 w_412 dX6_gain_64 ?_
    refine lv_bipush (v := 72) C.1.1 C.1.2.1 dX6_gain_67 (by decide) ?_
    obtain ⟨σ34, hc33, hf⟩ := bd hf
    try dsimp only at hf
    refine cVv C hW (mX5_follow hk31 hk32 hc33) hk31 kvX5_follow w_880 ⟨(Nat.le_of_ble_eq_true rfl), (Nat.le_of_ble_eq_true rfl)⟩ ⟨Nat.zero_le _, Nat.zero_le _⟩ rfl hl.1 (rest := []) rfl (Nat.le_of_ble_eq_true rfl) dX6_gain_69 (fun H locs hW => ?_)
    refine lv_iload_n C.1.1 C.1.2.1 dX6_gain_72 rfl (lv_at hl 0 rfl) ?_
    refine lv_aload_n C.1.1 C.1.2.1 dX6_gain_73 rfl (lv_at hl 1 rfl) ?_
    have hk38 := sh6_8 hW hk_a0
    refine gf6_8 C hW hk_a0 w_413 dX6_gain_74 ?_
    refine gf5_1 C hW hk38 w_386 dX6_gain_77 ?_
    refine lv_isub C.1.1 C.1.2.1 dX6_gain_80 ?_
    exact ri hQ C hr hlk hW hf (rok_i _) dX6_gain_81
  · replace hf := (if_pos h9).symm.trans hf
    refine lv_ldcw (v := (-100000)) C.1.1 C.1.2.1 C.1.2.2.2.1 (C.w w_937) dX6_gain_8 ?_
    exact ri hQ C hr hlk hW hf (rok_i _) dX6_gain_11
theorem kvX6_shut : KV 6 "RightKeys" yX6_shut cX6_shut 3 (some .int) 1 := ⟨⟨w_939, w_940, w_109, w_941⟩, ⟨rfl, by decide, by decide, by decide +kernel⟩, by decide, rfl⟩
noncomputable def fX6_shut (a0 : Nat) (p1 : Int32) (σ : Sg) : Option (Int32 × Sg) := (fX6_isHouse a0 p1 σ).bind (fun q5 => let r3 := q5.1; let σ2 := q5.2; if r3 = 0 then (some ((-1 : Int32), σ2)) else ((fX6_startTrial a0 σ2).bind (fun σ7 => (fX5_follow (a0 + 49) (a0 + 40) (24 : Int32) σ7).bind (fun σ14 => (let x2_19 := (σ14.1 (a0 + 49) 4); (fX6_startTrial a0 σ14).bind (fun σ21 => (fX2_sendAway (a0 + 40) p1 σ21).bind (fun σ27 => (fX5_follow (a0 + 49) (a0 + 40) (24 : Int32) σ27).bind (fun σ34 => some (((σ34.1 (a0 + 49) 4) &&& (x2_19 ^^^ (-1 : Int32))), σ34)))))))))
set_option maxRecDepth 100000 in
set_option maxHeartbeats 4000000 in
theorem mX6_shut {l : Launch} {G : Gm} {a0 : Nat} {p1 : Int32} {σ : Sg} {r : Int32} {σ' : Sg} (hk_a0 : gK G a0 = 7) (hf : fX6_shut a0 p1 σ = some (r, σ')) : Mi l G yX6_shut cX6_shut 3 .int 7 178 [.ref (gB G + a0), .int p1] σ r σ' := by
  refine of_W "RightKeys" rfl (by decide) (Nat.le_of_ble_eq_true rfl) ?_
  intro p e s m args below meth c Q hQ C hr hlk hW ls hl
  have h00 := hW.1
  have hl : lv_has ls 3 [(0, .ref (gB G + a0)), (1, .int p1)] := hl
  delta fX6_shut at hf
  refine lv_aload_n C.1.1 C.1.2.1 dX6_shut_0 rfl (lv_at hl 0 rfl) ?_
  refine lv_iload_n C.1.1 C.1.2.1 dX6_shut_1 rfl (lv_at hl 1 rfl) ?_
  obtain ⟨⟨r3, σ2⟩, hc1, hf⟩ := bd hf
  try dsimp only at hf
  refine cVi C hW (mX6_isHouse hk_a0 hc1) hk_a0 kvX6_isHouse w_674 ⟨(Nat.le_of_ble_eq_true rfl), (Nat.le_of_ble_eq_true rfl)⟩ ⟨Nat.zero_le _, Nat.zero_le _⟩ rfl hl.1 (rest := []) rfl (Nat.le_of_ble_eq_true rfl) dX6_shut_2 (fun H locs hn4 hW => ?_)
  refine lv_if_ne (tgt := 10) C.1.1 C.1.2.1 dX6_shut_5 (by decide) (fun h9 => ?_) (fun h9 => ?_)
  · replace hf := (if_neg h9).symm.trans hf
    refine lv_aload_n C.1.1 C.1.2.1 dX6_shut_10 rfl (lv_at hl 0 rfl) ?_
    obtain ⟨σ7, hc6, hf⟩ := bd hf
    try dsimp only at hf
    refine cVv C hW (mX6_startTrial hk_a0 hc6) hk_a0 kvX6_startTrial w_876 ⟨(Nat.le_of_ble_eq_true rfl), (Nat.le_of_ble_eq_true rfl)⟩ ⟨Nat.zero_le _, Nat.zero_le _⟩ rfl hl.1 (rest := []) rfl (Nat.le_of_ble_eq_true rfl) dX6_shut_11 (fun H locs hW => ?_)
    refine lv_aload_n C.1.1 C.1.2.1 dX6_shut_14 rfl (lv_at hl 0 rfl) ?_
    have hk11 := sh6_8 hW hk_a0
    refine gf6_8 C hW hk_a0 w_413 dX6_shut_15 ?_
    refine lv_aload_n C.1.1 C.1.2.1 dX6_shut_18 rfl (lv_at hl 0 rfl) ?_
    have hk12 := sh6_7 hW hk_a0
    refine gf6_7 C hW hk_a0 w_412 dX6_shut_19 ?_
    refine lv_bipush (v := 24) C.1.1 C.1.2.1 dX6_shut_22 (by decide) ?_
    obtain ⟨σ14, hc13, hf⟩ := bd hf
    try dsimp only at hf
    refine cVv C hW (mX5_follow hk11 hk12 hc13) hk11 kvX5_follow w_880 ⟨(Nat.le_of_ble_eq_true rfl), (Nat.le_of_ble_eq_true rfl)⟩ ⟨Nat.zero_le _, Nat.zero_le _⟩ rfl hl.1 (rest := []) rfl (Nat.le_of_ble_eq_true rfl) dX6_shut_24 (fun H locs hW => ?_)
    refine lv_aload_n C.1.1 C.1.2.1 dX6_shut_27 rfl (lv_at hl 0 rfl) ?_
    have hk18 := sh6_8 hW hk_a0
    refine gf6_8 C hW hk_a0 w_413 dX6_shut_28 ?_
    refine gf5_4 C hW hk18 w_392 dX6_shut_31 ?_
    refine lv_istore_n (lv' := [(2, .int _), (0, .ref _), (1, .int _)]) C.1.1 C.1.2.1 dX6_shut_34 rfl hl (by decide) rfl (fun ls hl => ?_)
    refine lv_aload_n C.1.1 C.1.2.1 dX6_shut_35 rfl (lv_at hl 1 rfl) ?_
    obtain ⟨σ21, hc20, hf⟩ := bd hf
    try dsimp only at hf
    refine cVv C hW (mX6_startTrial hk_a0 hc20) hk_a0 kvX6_startTrial w_876 ⟨(Nat.le_of_ble_eq_true rfl), (Nat.le_of_ble_eq_true rfl)⟩ ⟨Nat.zero_le _, Nat.zero_le _⟩ rfl hl.1 (rest := []) rfl (Nat.le_of_ble_eq_true rfl) dX6_shut_36 (fun H locs hW => ?_)
    refine lv_aload_n C.1.1 C.1.2.1 dX6_shut_39 rfl (lv_at hl 1 rfl) ?_
    have hk25 := sh6_7 hW hk_a0
    refine gf6_7 C hW hk_a0 w_412 dX6_shut_40 ?_
    refine lv_iload_n C.1.1 C.1.2.1 dX6_shut_43 rfl (lv_at hl 2 rfl) ?_
    obtain ⟨σ27, hc26, hf⟩ := bd hf
    try dsimp only at hf
    refine cVv C hW (mX2_sendAway hk25 hc26) hk25 kvX2_sendAway w_942 ⟨(Nat.le_of_ble_eq_true rfl), (Nat.le_of_ble_eq_true rfl)⟩ ⟨Nat.zero_le _, Nat.zero_le _⟩ rfl hl.1 (rest := []) rfl (Nat.le_of_ble_eq_true rfl) dX6_shut_44 (fun H locs hW => ?_)
    refine lv_aload_n C.1.1 C.1.2.1 dX6_shut_47 rfl (lv_at hl 1 rfl) ?_
    have hk31 := sh6_8 hW hk_a0
    refine gf6_8 C hW hk_a0 w_413 dX6_shut_48 ?_
    refine lv_aload_n C.1.1 C.1.2.1 dX6_shut_51 rfl (lv_at hl 1 rfl) ?_
    have hk32 := sh6_7 hW hk_a0
    refine gf6_7 C hW hk_a0 w_412 dX6_shut_52 ?_
    refine lv_bipush (v := 24) C.1.1 C.1.2.1 dX6_shut_55 (by decide) ?_
    obtain ⟨σ34, hc33, hf⟩ := bd hf
    try dsimp only at hf
    refine cVv C hW (mX5_follow hk31 hk32 hc33) hk31 kvX5_follow w_880 ⟨(Nat.le_of_ble_eq_true rfl), (Nat.le_of_ble_eq_true rfl)⟩ ⟨Nat.zero_le _, Nat.zero_le _⟩ rfl hl.1 (rest := []) rfl (Nat.le_of_ble_eq_true rfl) dX6_shut_57 (fun H locs hW => ?_)
    refine lv_aload_n C.1.1 C.1.2.1 dX6_shut_60 rfl (lv_at hl 1 rfl) ?_
    have hk38 := sh6_8 hW hk_a0
    refine gf6_8 C hW hk_a0 w_413 dX6_shut_61 ?_
    refine gf5_4 C hW hk38 w_392 dX6_shut_64 ?_
    refine lv_iload_n C.1.1 C.1.2.1 dX6_shut_67 rfl (lv_at hl 0 rfl) ?_
    refine lv_iconst (v := (-1)) C.1.1 C.1.2.1 dX6_shut_68 (by decide) ?_
    refine lv_ixor C.1.1 C.1.2.1 dX6_shut_69 ?_
    refine lv_iand C.1.1 C.1.2.1 dX6_shut_70 ?_
    exact ri hQ C hr hlk hW hf (rok_i _) dX6_shut_71
  · replace hf := (if_pos h9).symm.trans hf
    refine lv_iconst (v := (-1)) C.1.1 C.1.2.1 dX6_shut_8 (by decide) ?_
    exact ri hQ C hr hlk hW hf (rok_i _) dX6_shut_9
theorem kvX6_days : KV 6 "RightKeys" yX6_days cX6_days 3 (some .int) 2 := ⟨⟨w_947, w_948, w_109, w_949⟩, ⟨rfl, by decide, by decide, by decide +kernel⟩, by decide, rfl⟩
noncomputable def fX6_days (a0 : Nat) (p1 : Int32) (p2 : Int32) (σ : Sg) : Option (Int32 × Sg) := (fX6_isSpare a0 p1 σ).bind (fun q5 => let r3 := q5.1; let σ2 := q5.2; if r3 = 0 then (some ((-1 : Int32), σ2)) else ((fX6_isHouse a0 p2 σ2).bind (fun q10 => let r8 := q10.1; let σ7 := q10.2; if r8 = 0 then (some ((-1 : Int32), σ7)) else ((fX2_waysOf (a0 + 31) p1 p2 σ7).bind (fun q16 => let r14 := q16.1; let σ13 := q16.2; some (r14, σ13))))))
set_option maxRecDepth 100000 in
set_option maxHeartbeats 4000000 in
theorem mX6_days {l : Launch} {G : Gm} {a0 : Nat} {p1 : Int32} {p2 : Int32} {σ : Sg} {r : Int32} {σ' : Sg} (hk_a0 : gK G a0 = 7) (hf : fX6_days a0 p1 p2 σ = some (r, σ')) : Mi l G yX6_days cX6_days 3 .int 1 23 [.ref (gB G + a0), .int p1, .int p2] σ r σ' := by
  refine of_W "RightKeys" rfl (by decide) (Nat.le_of_ble_eq_true rfl) ?_
  intro p e s m args below meth c Q hQ C hr hlk hW ls hl
  have h00 := hW.1
  have hl : lv_has ls 3 [(0, .ref (gB G + a0)), (1, .int p1), (2, .int p2)] := hl
  delta fX6_days at hf
  refine lv_aload_n C.1.1 C.1.2.1 dX6_days_0 rfl (lv_at hl 0 rfl) ?_
  refine lv_iload_n C.1.1 C.1.2.1 dX6_days_1 rfl (lv_at hl 1 rfl) ?_
  obtain ⟨⟨r3, σ2⟩, hc1, hf⟩ := bd hf
  try dsimp only at hf
  refine cVi C hW (mX6_isSpare hk_a0 hc1) hk_a0 kvX6_isSpare w_714 ⟨(Nat.le_of_ble_eq_true rfl), (Nat.le_of_ble_eq_true rfl)⟩ ⟨Nat.zero_le _, Nat.zero_le _⟩ rfl hl.1 (rest := []) rfl (Nat.le_of_ble_eq_true rfl) dX6_days_2 (fun H locs hn4 hW => ?_)
  refine lv_if_eq (tgt := 28) C.1.1 C.1.2.1 dX6_days_5 (by decide) (fun h9 => ?_) (fun h9 => ?_)
  · replace hf := (if_pos h9).symm.trans hf
    refine lv_iconst (v := (-1)) C.1.1 C.1.2.1 dX6_days_28 (by decide) ?_
    exact ri hQ C hr hlk hW hf (rok_i _) dX6_days_29
  · replace hf := (if_neg h9).symm.trans hf
    refine lv_aload_n C.1.1 C.1.2.1 dX6_days_8 rfl (lv_at hl 0 rfl) ?_
    refine lv_iload_n C.1.1 C.1.2.1 dX6_days_9 rfl (lv_at hl 2 rfl) ?_
    obtain ⟨⟨r8, σ7⟩, hc6, hf⟩ := bd hf
    try dsimp only at hf
    refine cVi C hW (mX6_isHouse hk_a0 hc6) hk_a0 kvX6_isHouse w_674 ⟨(Nat.le_of_ble_eq_true rfl), (Nat.le_of_ble_eq_true rfl)⟩ ⟨Nat.zero_le _, Nat.zero_le _⟩ rfl hl.1 (rest := []) rfl (Nat.le_of_ble_eq_true rfl) dX6_days_10 (fun H locs hn9 hW => ?_)
    refine lv_if_eq (tgt := 28) C.1.1 C.1.2.1 dX6_days_13 (by decide) (fun h9 => ?_) (fun h9 => ?_)
    · replace hf := (if_pos h9).symm.trans hf
      refine lv_iconst (v := (-1)) C.1.1 C.1.2.1 dX6_days_28 (by decide) ?_
      exact ri hQ C hr hlk hW hf (rok_i _) dX6_days_29
    · replace hf := (if_neg h9).symm.trans hf
      refine lv_aload_n C.1.1 C.1.2.1 dX6_days_16 rfl (lv_at hl 0 rfl) ?_
      have hk11 := sh6_6 hW hk_a0
      refine gf6_6 C hW hk_a0 w_411 dX6_days_17 ?_
      refine lv_iload_n C.1.1 C.1.2.1 dX6_days_20 rfl (lv_at hl 1 rfl) ?_
      refine lv_iload_n C.1.1 C.1.2.1 dX6_days_21 rfl (lv_at hl 2 rfl) ?_
      obtain ⟨⟨r14, σ13⟩, hc12, hf⟩ := bd hf
      try dsimp only at hf
      refine cVi C hW (mX2_waysOf hk11 hc12) hk11 kvX2_waysOf w_950 ⟨(Nat.le_of_ble_eq_true rfl), (Nat.le_of_ble_eq_true rfl)⟩ ⟨Nat.zero_le _, Nat.zero_le _⟩ rfl hl.1 (rest := []) rfl (Nat.le_of_ble_eq_true rfl) dX6_days_22 (fun H locs hn15 hW => ?_)
      refine lv_goto (tgt := 29) C.1.1 C.1.2.1 dX6_days_25 (by decide) ?_
      exact ri hQ C hr hlk hW hf (rok_i _) dX6_days_29
theorem kvX6_soonest : KV 6 "RightKeys" yX6_soonest cX6_soonest 7 (some .int) 2 := ⟨⟨w_955, w_956, w_109, w_957⟩, ⟨rfl, by decide, by decide, by decide +kernel⟩, by decide, rfl⟩
noncomputable def jX6_soonest_85 (a0 : Nat) (p1 : Int32) (p2 : Int32) (x3 : Int32) (x4 : Int32) (x5 : Int32) (σ : Sg) : Option ((Int32 × Int32 × Int32 × Sg) ⊕ (Int32 × Int32 × Sg)) := (let x5_15 := x5 + (1 : Int32); some (Sum.inl (x3, x4, x5_15, σ)))
noncomputable def jX6_soonest_78 (a0 : Nat) (p1 : Int32) (p2 : Int32) (x5 : Int32) (x6 : Int32) (σ : Sg) : Option ((Int32 × Int32 × Int32 × Sg) ⊕ (Int32 × Int32 × Sg)) := jX6_soonest_85 a0 p1 p2 x5 x6 x5 σ
noncomputable def bX6_soonest_27 (a0 : Nat) (p1 : Int32) (p2 : Int32) (x3 : Int32) (x4 : Int32) (x5 : Int32) (σ : Sg) : Option ((Int32 × Int32 × Int32 × Sg) ⊕ (Int32 × Int32 × Sg)) := if (σ.1 (σ.2.2.1 a0 3) 1) ≤ x5 then (some (Sum.inr (x3, x4, σ))) else (if vin x5 6 then (if (σ.1 ((σ.2.2.1 a0 3) + 5) ((x5).toNatClampNeg)) = p1 then ((fX2_waysOf (a0 + 31) x5 p1 σ).bind (fun q21 => let r19 := q21.1; let σ18 := q21.2; if x3 = (-2 : Int32) then (jX6_soonest_78 a0 p1 p2 x5 r19 σ18) else (if x4 ≤ r19 then (jX6_soonest_85 a0 p1 p2 x3 x4 x5 σ18) else (jX6_soonest_78 a0 p1 p2 x5 r19 σ18)))) else (jX6_soonest_85 a0 p1 p2 x3 x4 x5 σ)) else none)
noncomputable def fX6_soonest (a0 : Nat) (p1 : Int32) (p2 : Int32) (σ : Sg) : Option (Int32 × Sg) := (fX6_isHouse a0 p1 σ).bind (fun q5 => let r3 := q5.1; let σ2 := q5.2; if r3 = 0 then (some ((-1 : Int32), σ2)) else ((fX6_isEither p2 σ2).bind (fun q10 => let r8 := q10.1; let σ7 := q10.2; if r8 = 0 then (some ((-1 : Int32), σ7)) else ((lp (fun st => bX6_soonest_27 a0 p1 p2 st.1 st.2.1 st.2.2.1 st.2.2.2) ((-2 : Int32), (-2 : Int32), (0 : Int32), σ7)).bind (fun q26 => let y24 := q26.1; let y25 := q26.2.1; let σ23 := q26.2.2;  if p2 = 0 then (some (y24, σ23)) else (some (y25, σ23)))))))
set_option maxRecDepth 100000 in
set_option maxHeartbeats 4000000 in
theorem mX6_soonest {l : Launch} {G : Gm} {a0 : Nat} {p1 : Int32} {p2 : Int32} {σ : Sg} {r : Int32} {σ' : Sg} (hk_a0 : gK G a0 = 7) (hf : fX6_soonest a0 p1 p2 σ = some (r, σ')) : Mi l G yX6_soonest cX6_soonest 7 .int 1 23 [.ref (gB G + a0), .int p1, .int p2] σ r σ' := by
  refine of_W "RightKeys" rfl (by decide) (Nat.le_of_ble_eq_true rfl) ?_
  intro p e s m args below meth c Q hQ C hr hlk hW ls hl
  have h00 := hW.1
  have hl : lv_has ls 7 [(0, .ref (gB G + a0)), (1, .int p1), (2, .int p2)] := hl
  delta fX6_soonest at hf
  have L27 : ∀ (n : Nat) (x3 : Int32) (x4 : Int32) (x5 : Int32) (σ : Sg) (H : Heap) (locs : List Loc) (ls : Array Slot) (out : (Int32 × Int32 × Sg)), iter (fun st => bX6_soonest_27 a0 p1 p2 st.1 st.2.1 st.2.2.1 st.2.2.2) n (x3, x4, x5, σ) = some out → Ws G σ s.heap H locs → lv_has ls 7 [(0, .ref (gB G + a0)), (1, .int p1), (2, .int p2), (3, .int x3), (4, .int x4), (5, .int x5)] → (∀ (y3 : Int32) (y4 : Int32) (σ : Sg) (H : Heap) (locs : List Loc) (ls : Array Slot), out = (y3, y4, σ) → Ws G σ s.heap H locs → lv_has ls 7 [(2, .int p2), (3, .int y3), (4, .int y4)] → W p l e (rmOf 1 23) s m args below meth c H locs 0 0 Q (F0 m 91 ls [])) → W p l e (rmOf 1 23) s m args below meth c H locs 0 0 Q (F0 m 27 ls []) := by
    intro n
    induction n with
    | zero =>
      intro x3 x4 x5 σ H locs ls out hf
      exact (it_0 hf).elim
    | succ n ih =>
      intro x3 x4 x5 σ H locs ls out hf hW hl K27_91
      obtain ⟨x, hf, hx⟩ := it_s hf
      have hf : bX6_soonest_27 a0 p1 p2 x3 x4 x5 σ = some x := hf
      delta bX6_soonest_27 at hf
      have J85 : ∀ (x3 : Int32) (x4 : Int32) (x5 : Int32) (σ : Sg) (H : Heap) (locs : List Loc) (ls : Array Slot), jX6_soonest_85 a0 p1 p2 x3 x4 x5 σ = some x → Ws G σ s.heap H locs → lv_has ls 7 [(0, .ref (gB G + a0)), (1, .int p1), (2, .int p2), (3, .int x3), (4, .int x4), (5, .int x5)] → W p l e (rmOf 1 23) s m args below meth c H locs 0 0 Q (F0 m 85 ls []) := by
        intro x3 x4 x5 σ H locs ls hf hW hl
        delta jX6_soonest_85 at hf
        refine lv_iinc (v := _) (lv' := [(5, .int _), (0, .ref _), (1, .int _), (2, .int _), (3, .int _), (4, .int _)]) C.1.1 C.1.2.1 dX6_soonest_85 hl (k := 5) rfl (ii (k := 1) (by decide)) (by decide) rfl (fun ls hl => ?_)
        refine lv_goto (tgt := 27) C.1.1 C.1.2.1 dX6_soonest_88 (by decide) ?_
        cases hf
        exact ih _ _ _ _ _ _ _ _ hx hW (lv_sub hl [1, 2, 3, 4, 5, 0] rfl) K27_91
      have J78 : ∀ (x5 : Int32) (x6 : Int32) (σ : Sg) (H : Heap) (locs : List Loc) (ls : Array Slot), jX6_soonest_78 a0 p1 p2 x5 x6 σ = some x → Ws G σ s.heap H locs → lv_has ls 7 [(0, .ref (gB G + a0)), (1, .int p1), (2, .int p2), (5, .int x5), (6, .int x6)] → W p l e (rmOf 1 23) s m args below meth c H locs 0 0 Q (F0 m 78 ls []) := by
        intro x5 x6 σ H locs ls hf hW hl
        delta jX6_soonest_78 at hf
        refine lv_iload C.1.1 C.1.2.1 dX6_soonest_78 (lv_at hl 3 rfl) ?_
        refine lv_istore_n (lv' := [(3, .int _), (0, .ref _), (1, .int _), (2, .int _), (5, .int _), (6, .int _)]) C.1.1 C.1.2.1 dX6_soonest_80 rfl hl (by decide) rfl (fun ls hl => ?_)
        refine lv_iload C.1.1 C.1.2.1 dX6_soonest_81 (lv_at hl 5 rfl) ?_
        refine lv_istore (lv' := [(4, .int _), (3, .int _), (0, .ref _), (1, .int _), (2, .int _), (5, .int _), (6, .int _)]) C.1.1 C.1.2.1 dX6_soonest_83 hl (by decide) rfl (fun ls hl => ?_)
        exact J85 _ _ _ _ _ _ _ hf hW (lv_sub hl [2, 3, 4, 1, 0, 5] rfl)
      refine lv_iload C.1.1 C.1.2.1 dX6_soonest_27 (lv_at hl 5 rfl) ?_
      refine lv_aload_n C.1.1 C.1.2.1 dX6_soonest_29 rfl (lv_at hl 0 rfl) ?_
      have hk11 := sh6_3 hW hk_a0
      refine gf6_3 C hW hk_a0 w_408 dX6_soonest_30 ?_
      refine gf3_1 C hW hk11 w_186 dX6_soonest_33 ?_
      refine lv_icmp_ge (tgt := 91) C.1.1 C.1.2.1 dX6_soonest_36 (by decide) (fun h9 => ?_) (fun h9 => ?_)
      · replace hf := (if_pos h9).symm.trans hf
        cases hf
        cases hx
        exact K27_91 _ _ _ _ _ _ rfl hW (lv_sub hl [2, 3, 4] rfl)
      · replace hf := (if_neg h9).symm.trans hf
        refine lv_aload_n C.1.1 C.1.2.1 dX6_soonest_39 rfl (lv_at hl 0 rfl) ?_
        have hk12 := sh6_3 hW hk_a0
        refine gf6_3 C hW hk_a0 w_408 dX6_soonest_40 ?_
        have hk13 := sh3_8 hW hk12
        refine gf3_8 C hW hk12 w_208 dX6_soonest_43 ?_
        refine lv_iload C.1.1 C.1.2.1 dX6_soonest_46 (lv_at hl 5 rfl) ?_
        obtain ⟨hv14, hf⟩ := gd hf
        refine wai C hW hk13 (vin_p hv14) dX6_soonest_48 ?_
        refine lv_iload_n C.1.1 C.1.2.1 dX6_soonest_49 rfl (lv_at hl 1 rfl) ?_
        refine lv_icmp_ne (tgt := 85) C.1.1 C.1.2.1 dX6_soonest_50 (by decide) (fun h9 => ?_) (fun h9 => ?_)
        · replace hf := (if_neg h9).symm.trans hf
          exact J85 _ _ _ _ _ _ _ hf hW (lv_sub hl [0, 1, 2, 3, 4, 5] rfl)
        · replace hf := (if_pos h9).symm.trans hf
          refine lv_aload_n C.1.1 C.1.2.1 dX6_soonest_53 rfl (lv_at hl 0 rfl) ?_
          have hk16 := sh6_6 hW hk_a0
          refine gf6_6 C hW hk_a0 w_411 dX6_soonest_54 ?_
          refine lv_iload C.1.1 C.1.2.1 dX6_soonest_57 (lv_at hl 5 rfl) ?_
          refine lv_iload_n C.1.1 C.1.2.1 dX6_soonest_59 rfl (lv_at hl 1 rfl) ?_
          obtain ⟨⟨r19, σ18⟩, hc17, hf⟩ := bd hf
          try dsimp only at hf
          refine cVi C hW (mX2_waysOf hk16 hc17) hk16 kvX2_waysOf w_950 ⟨(Nat.le_of_ble_eq_true rfl), (Nat.le_of_ble_eq_true rfl)⟩ ⟨Nat.zero_le _, Nat.zero_le _⟩ rfl hl.1 (rest := []) rfl (Nat.le_of_ble_eq_true rfl) dX6_soonest_60 (fun H locs hn20 hW => ?_)
          refine lv_istore (lv' := [(6, .int _), (0, .ref _), (1, .int _), (2, .int _), (3, .int _), (4, .int _), (5, .int _)]) C.1.1 C.1.2.1 dX6_soonest_63 hl (by decide) rfl (fun ls hl => ?_)
          refine lv_iload_n C.1.1 C.1.2.1 dX6_soonest_65 rfl (lv_at hl 4 rfl) ?_
          refine lv_bipush (v := (-2)) C.1.1 C.1.2.1 dX6_soonest_66 (by decide) ?_
          refine lv_icmp_eq (tgt := 78) C.1.1 C.1.2.1 dX6_soonest_68 (by decide) (fun h9 => ?_) (fun h9 => ?_)
          · replace hf := (if_pos h9).symm.trans hf
            exact J78 _ _ _ _ _ _ hf hW (lv_sub hl [1, 2, 3, 6, 0] rfl)
          · replace hf := (if_neg h9).symm.trans hf
            refine lv_iload C.1.1 C.1.2.1 dX6_soonest_71 (lv_at hl 0 rfl) ?_
            refine lv_iload C.1.1 C.1.2.1 dX6_soonest_73 (lv_at hl 5 rfl) ?_
            refine lv_icmp_ge (tgt := 85) C.1.1 C.1.2.1 dX6_soonest_75 (by decide) (fun h9 => ?_) (fun h9 => ?_)
            · replace hf := (if_pos h9).symm.trans hf
              exact J85 _ _ _ _ _ _ _ hf hW (lv_sub hl [1, 2, 3, 4, 5, 6] rfl)
            · replace hf := (if_neg h9).symm.trans hf
              exact J78 _ _ _ _ _ _ hf hW (lv_sub hl [1, 2, 3, 6, 0] rfl)
  refine lv_aload_n C.1.1 C.1.2.1 dX6_soonest_0 rfl (lv_at hl 0 rfl) ?_
  refine lv_iload_n C.1.1 C.1.2.1 dX6_soonest_1 rfl (lv_at hl 1 rfl) ?_
  obtain ⟨⟨r3, σ2⟩, hc1, hf⟩ := bd hf
  try dsimp only at hf
  refine cVi C hW (mX6_isHouse hk_a0 hc1) hk_a0 kvX6_isHouse w_674 ⟨(Nat.le_of_ble_eq_true rfl), (Nat.le_of_ble_eq_true rfl)⟩ ⟨Nat.zero_le _, Nat.zero_le _⟩ rfl hl.1 (rest := []) rfl (Nat.le_of_ble_eq_true rfl) dX6_soonest_2 (fun H locs hn4 hW => ?_)
  refine lv_if_eq (tgt := 15) C.1.1 C.1.2.1 dX6_soonest_5 (by decide) (fun h9 => ?_) (fun h9 => ?_)
  · replace hf := (if_pos h9).symm.trans hf
    refine lv_iconst (v := (-1)) C.1.1 C.1.2.1 dX6_soonest_15 (by decide) ?_
    exact ri hQ C hr hlk hW hf (rok_i _) dX6_soonest_16
  · replace hf := (if_neg h9).symm.trans hf
    refine lv_iload_n C.1.1 C.1.2.1 dX6_soonest_8 rfl (lv_at hl 2 rfl) ?_
    obtain ⟨⟨r8, σ7⟩, hc6, hf⟩ := bd hf
    try dsimp only at hf
    refine cSi C hW (mX6_isEither hc6) ksX6_isEither w_904 ⟨(Nat.le_of_ble_eq_true rfl), (Nat.le_of_ble_eq_true rfl)⟩ ⟨Nat.zero_le _, Nat.zero_le _⟩ rfl hl.1 (rest := []) rfl (Nat.le_of_ble_eq_true rfl) dX6_soonest_9 (fun H locs hn9 hW => ?_)
    refine lv_if_ne (tgt := 17) C.1.1 C.1.2.1 dX6_soonest_12 (by decide) (fun h9 => ?_) (fun h9 => ?_)
    · replace hf := (if_neg h9).symm.trans hf
      refine lv_bipush (v := (-2)) C.1.1 C.1.2.1 dX6_soonest_17 (by decide) ?_
      refine lv_istore_n (lv' := [(3, .int _), (0, .ref _), (1, .int _), (2, .int _)]) C.1.1 C.1.2.1 dX6_soonest_19 rfl hl (by decide) rfl (fun ls hl => ?_)
      refine lv_bipush (v := (-2)) C.1.1 C.1.2.1 dX6_soonest_20 (by decide) ?_
      refine lv_istore (lv' := [(4, .int _), (3, .int _), (0, .ref _), (1, .int _), (2, .int _)]) C.1.1 C.1.2.1 dX6_soonest_22 hl (by decide) rfl (fun ls hl => ?_)
      refine lv_iconst (v := 0) C.1.1 C.1.2.1 dX6_soonest_24 (by decide) ?_
      refine lv_istore (lv' := [(5, .int _), (4, .int _), (3, .int _), (0, .ref _), (1, .int _), (2, .int _)]) C.1.1 C.1.2.1 dX6_soonest_25 hl (by decide) rfl (fun ls hl => ?_)
      obtain ⟨o22, ho, hf⟩ := bd hf
      obtain ⟨n, ho⟩ := lp_it ho
      refine L27 n _ _ _ _ _ _ _ o22 ho hW (lv_sub hl [3, 4, 5, 2, 1, 0] rfl) ?_
      intro y24 y25 σ23 H locs ls e9 hW hl
      subst e9
      try dsimp only at hf
      refine lv_iload_n C.1.1 C.1.2.1 dX6_soonest_91 rfl (lv_at hl 0 rfl) ?_
      refine lv_if_ne (tgt := 99) C.1.1 C.1.2.1 dX6_soonest_92 (by decide) (fun h9 => ?_) (fun h9 => ?_)
      · replace hf := (if_neg h9).symm.trans hf
        refine lv_iload C.1.1 C.1.2.1 dX6_soonest_99 (lv_at hl 2 rfl) ?_
        exact ri hQ C hr hlk hW hf (rok_i _) dX6_soonest_101
      · replace hf := (if_pos h9).symm.trans hf
        refine lv_iload_n C.1.1 C.1.2.1 dX6_soonest_95 rfl (lv_at hl 1 rfl) ?_
        refine lv_goto (tgt := 101) C.1.1 C.1.2.1 dX6_soonest_96 (by decide) ?_
        exact ri hQ C hr hlk hW hf (rok_i _) dX6_soonest_101
    · replace hf := (if_pos h9).symm.trans hf
      refine lv_iconst (v := (-1)) C.1.1 C.1.2.1 dX6_soonest_15 (by decide) ?_
      exact ri hQ C hr hlk hW hf (rok_i _) dX6_soonest_16
theorem ksX6_isCount : KS yX6_isCount cX6_isCount 1 (some .boolean) 1 := ⟨⟨w_963, w_109, w_964⟩, ⟨by decide, by decide, by decide +kernel⟩⟩
noncomputable def fX6_isCount (p0 : Int32) (σ : Sg) : Option (Int32 × Sg) := if p0 < 0 then (some ((0 : Int32), σ)) else (if (72 : Int32) < p0 then (some ((0 : Int32), σ)) else (some ((1 : Int32), σ)))
set_option maxRecDepth 100000 in
set_option maxHeartbeats 4000000 in
theorem mX6_isCount {l : Launch} {G : Gm} {p0 : Int32} {σ : Sg} {r : Int32} {σ' : Sg}  (hf : fX6_isCount p0 σ = some (r, σ')) : Mi l G yX6_isCount cX6_isCount 1 .boolean 0 0 [.int p0] σ r σ' := by
  refine of_W "RightKeys" rfl (by decide) (Nat.le_of_ble_eq_true rfl) ?_
  intro p e s m args below meth c Q hQ C hr hlk hW ls hl
  have h00 := hW.1
  have hl : lv_has ls 1 [(0, .int p0)] := hl
  delta fX6_isCount at hf
  refine lv_iload_n C.1.1 C.1.2.1 dX6_isCount_0 rfl (lv_at hl 0 rfl) ?_
  refine lv_if_lt (tgt := 14) C.1.1 C.1.2.1 dX6_isCount_1 (by decide) (fun h9 => ?_) (fun h9 => ?_)
  · replace hf := (if_pos h9).symm.trans hf
    refine lv_iconst (v := 0) C.1.1 C.1.2.1 dX6_isCount_14 (by decide) ?_
    exact ri hQ C hr hlk hW hf (rok_z (Or.inl rfl)) dX6_isCount_15
  · replace hf := (if_neg h9).symm.trans hf
    refine lv_iload_n C.1.1 C.1.2.1 dX6_isCount_4 rfl (lv_at hl 0 rfl) ?_
    refine lv_bipush (v := 72) C.1.1 C.1.2.1 dX6_isCount_5 (by decide) ?_
    refine lv_icmp_gt (tgt := 14) C.1.1 C.1.2.1 dX6_isCount_7 (by decide) (fun h9 => ?_) (fun h9 => ?_)
    · replace hf := (if_pos h9).symm.trans hf
      refine lv_iconst (v := 0) C.1.1 C.1.2.1 dX6_isCount_14 (by decide) ?_
      exact ri hQ C hr hlk hW hf (rok_z (Or.inl rfl)) dX6_isCount_15
    · replace hf := (if_neg h9).symm.trans hf
      refine lv_iconst (v := 1) C.1.1 C.1.2.1 dX6_isCount_10 (by decide) ?_
      refine lv_goto (tgt := 15) C.1.1 C.1.2.1 dX6_isCount_11 (by decide) ?_
      exact ri hQ C hr hlk hW hf (rok_z (Or.inr rfl)) dX6_isCount_15
theorem kvX6_tryHours : KV 6 "RightKeys" yX6_tryHours cX6_tryHours 4 none 2 := ⟨⟨w_967, w_39, w_109, w_968⟩, ⟨rfl, by decide, by decide, by decide +kernel⟩, by decide, rfl⟩
noncomputable def bX6_tryHours_21 (a0 : Nat) (p1 : Int32) (p2 : Int32) (x3 : Int32) (σ : Sg) : Option ((Int32 × Sg) ⊕ (Sg)) := if p1 ≤ x3 then (some (Sum.inr σ)) else ((fX2_goThroughHour (a0 + 40) σ).bind (fun σ12 => (let x3_16 := x3 + (1 : Int32); some (Sum.inl (x3_16, σ12)))))
noncomputable def fX6_tryHours (a0 : Nat) (p1 : Int32) (p2 : Int32) (σ : Sg) : Option (Sg) := (fX2_copyFrom (a0 + 40) (a0 + 31) σ).bind (fun σ4 => (let σ9 := wI σ4 (a0 + 40) 8 p2; (lp (fun st => bX6_tryHours_21 a0 p1 p2 st.1 st.2) ((0 : Int32), σ9)).bind (fun σ18 => some σ18)))
set_option maxRecDepth 100000 in
set_option maxHeartbeats 4000000 in
theorem mX6_tryHours {l : Launch} {G : Gm} {a0 : Nat} {p1 : Int32} {p2 : Int32} {σ : Sg} {σ' : Sg} (hk_a0 : gK G a0 = 7) (hf : fX6_tryHours a0 p1 p2 σ = some σ') : Mv l G yX6_tryHours cX6_tryHours 4 6 155 [.ref (gB G + a0), .int p1, .int p2] σ σ' := by
  refine of_W "RightKeys" rfl (by decide) (Nat.le_of_ble_eq_true rfl) ?_
  intro p e s m args below meth c Q hQ C hr hlk hW ls hl
  have h00 := hW.1
  have hl : lv_has ls 4 [(0, .ref (gB G + a0)), (1, .int p1), (2, .int p2)] := hl
  delta fX6_tryHours at hf
  have L21 : ∀ (n : Nat) (x3 : Int32) (σ : Sg) (H : Heap) (locs : List Loc) (ls : Array Slot) (out : (Sg)), iter (fun st => bX6_tryHours_21 a0 p1 p2 st.1 st.2) n (x3, σ) = some out → Ws G σ s.heap H locs → lv_has ls 4 [(0, .ref (gB G + a0)), (1, .int p1), (3, .int x3)] → (∀ (σ : Sg) (H : Heap) (locs : List Loc) (ls : Array Slot), out = σ → Ws G σ s.heap H locs → lv_has ls 4 [] → W p l e (rmOf 6 155) s m args below meth c H locs 0 0 Q (F0 m 39 ls [])) → W p l e (rmOf 6 155) s m args below meth c H locs 0 0 Q (F0 m 21 ls []) := by
    intro n
    induction n with
    | zero =>
      intro x3 σ H locs ls out hf
      exact (it_0 hf).elim
    | succ n ih =>
      intro x3 σ H locs ls out hf hW hl K21_39
      obtain ⟨x, hf, hx⟩ := it_s hf
      have hf : bX6_tryHours_21 a0 p1 p2 x3 σ = some x := hf
      delta bX6_tryHours_21 at hf
      refine lv_iload_n C.1.1 C.1.2.1 dX6_tryHours_21 rfl (lv_at hl 2 rfl) ?_
      refine lv_iload_n C.1.1 C.1.2.1 dX6_tryHours_22 rfl (lv_at hl 1 rfl) ?_
      refine lv_icmp_ge (tgt := 39) C.1.1 C.1.2.1 dX6_tryHours_23 (by decide) (fun h9 => ?_) (fun h9 => ?_)
      · replace hf := (if_pos h9).symm.trans hf
        cases hf
        cases hx
        exact K21_39 _ _ _ _ rfl hW (lv_sub hl [] rfl)
      · replace hf := (if_neg h9).symm.trans hf
        refine lv_aload_n C.1.1 C.1.2.1 dX6_tryHours_26 rfl (lv_at hl 0 rfl) ?_
        have hk10 := sh6_7 hW hk_a0
        refine gf6_7 C hW hk_a0 w_412 dX6_tryHours_27 ?_
        obtain ⟨σ12, hc11, hf⟩ := bd hf
        try dsimp only at hf
        refine cVv C hW (mX2_goThroughHour hk10 hc11) hk10 kvX2_goThroughHour w_808 ⟨(Nat.le_of_ble_eq_true rfl), (Nat.le_of_ble_eq_true rfl)⟩ ⟨Nat.zero_le _, Nat.zero_le _⟩ rfl hl.1 (rest := []) rfl (Nat.le_of_ble_eq_true rfl) dX6_tryHours_30 (fun H locs hW => ?_)
        refine lv_iinc (v := _) (lv' := [(3, .int _), (0, .ref _), (1, .int _)]) C.1.1 C.1.2.1 dX6_tryHours_33 hl (k := 2) rfl (ii (k := 1) (by decide)) (by decide) rfl (fun ls hl => ?_)
        refine lv_goto (tgt := 21) C.1.1 C.1.2.1 dX6_tryHours_36 (by decide) ?_
        cases hf
        exact ih _ _ _ _ _ _ hx hW (lv_sub hl [1, 2, 0] rfl) K21_39
  refine lv_aload_n C.1.1 C.1.2.1 dX6_tryHours_0 rfl (lv_at hl 0 rfl) ?_
  have hk1 := sh6_7 hW hk_a0
  refine gf6_7 C hW hk_a0 w_412 dX6_tryHours_1 ?_
  refine lv_aload_n C.1.1 C.1.2.1 dX6_tryHours_4 rfl (lv_at hl 0 rfl) ?_
  have hk2 := sh6_6 hW hk_a0
  refine gf6_6 C hW hk_a0 w_411 dX6_tryHours_5 ?_
  obtain ⟨σ4, hc3, hf⟩ := bd hf
  try dsimp only at hf
  refine cVv C hW (mX2_copyFrom hk1 hk2 hc3) hk1 kvX2_copyFrom w_780 ⟨(Nat.le_of_ble_eq_true rfl), (Nat.le_of_ble_eq_true rfl)⟩ ⟨Nat.zero_le _, Nat.zero_le _⟩ rfl hl.1 (rest := []) rfl (Nat.le_of_ble_eq_true rfl) dX6_tryHours_8 (fun H locs hW => ?_)
  refine lv_aload_n C.1.1 C.1.2.1 dX6_tryHours_11 rfl (lv_at hl 0 rfl) ?_
  have hk8 := sh6_7 hW hk_a0
  refine gf6_7 C hW hk_a0 w_412 dX6_tryHours_12 ?_
  refine lv_iload_n C.1.1 C.1.2.1 dX6_tryHours_15 rfl (lv_at hl 2 rfl) ?_
  refine pf2_8 C hW hk8 w_313 dX6_tryHours_16 (fun H locs hW => ?_)
  refine lv_iconst (v := 0) C.1.1 C.1.2.1 dX6_tryHours_19 (by decide) ?_
  refine lv_istore_n (lv' := [(3, .int _), (0, .ref _), (1, .int _), (2, .int _)]) C.1.1 C.1.2.1 dX6_tryHours_20 rfl hl (by decide) rfl (fun ls hl => ?_)
  obtain ⟨o17, ho, hf⟩ := bd hf
  obtain ⟨n, ho⟩ := lp_it ho
  refine L21 n _ _ _ _ _ o17 ho hW (lv_sub hl [1, 2, 0] rfl) ?_
  intro  σ18 H locs ls e9 hW hl
  subst e9
  try dsimp only at hf
  exact rv hQ C hr hlk hW hf dX6_tryHours_39
theorem kvX6_rents : KV 6 "RightKeys" yX6_rents cX6_rents 2 (some .int) 1 := ⟨⟨w_959, w_960, w_109, w_961⟩, ⟨rfl, by decide, by decide, by decide +kernel⟩, by decide, rfl⟩
noncomputable def fX6_rents (a0 : Nat) (p1 : Int32) (σ : Sg) : Option (Int32 × Sg) := (fX6_isCount p1 σ).bind (fun q5 => let r3 := q5.1; let σ2 := q5.2; if r3 = 0 then (some ((-1 : Int32), σ2)) else ((fX6_tryHours a0 p1 (σ2.1 (σ2.2.2.1 a0 3) 3) σ2).bind (fun σ8 => (fX2_rentOfAll (a0 + 40) σ8).bind (fun q17 => let r15 := q17.1; let σ14 := q17.2; some (r15, σ14)))))
set_option maxRecDepth 100000 in
set_option maxHeartbeats 4000000 in
theorem mX6_rents {l : Launch} {G : Gm} {a0 : Nat} {p1 : Int32} {σ : Sg} {r : Int32} {σ' : Sg} (hk_a0 : gK G a0 = 7) (hf : fX6_rents a0 p1 σ = some (r, σ')) : Mi l G yX6_rents cX6_rents 2 .int 7 178 [.ref (gB G + a0), .int p1] σ r σ' := by
  refine of_W "RightKeys" rfl (by decide) (Nat.le_of_ble_eq_true rfl) ?_
  intro p e s m args below meth c Q hQ C hr hlk hW ls hl
  have h00 := hW.1
  have hl : lv_has ls 2 [(0, .ref (gB G + a0)), (1, .int p1)] := hl
  delta fX6_rents at hf
  refine lv_iload_n C.1.1 C.1.2.1 dX6_rents_0 rfl (lv_at hl 1 rfl) ?_
  obtain ⟨⟨r3, σ2⟩, hc1, hf⟩ := bd hf
  try dsimp only at hf
  refine cSi C hW (mX6_isCount hc1) ksX6_isCount w_962 ⟨(Nat.le_of_ble_eq_true rfl), (Nat.le_of_ble_eq_true rfl)⟩ ⟨Nat.zero_le _, Nat.zero_le _⟩ rfl hl.1 (rest := []) rfl (Nat.le_of_ble_eq_true rfl) dX6_rents_1 (fun H locs hn4 hW => ?_)
  refine lv_if_ne (tgt := 9) C.1.1 C.1.2.1 dX6_rents_4 (by decide) (fun h9 => ?_) (fun h9 => ?_)
  · replace hf := (if_neg h9).symm.trans hf
    refine lv_aload_n C.1.1 C.1.2.1 dX6_rents_9 rfl (lv_at hl 0 rfl) ?_
    refine lv_iload_n C.1.1 C.1.2.1 dX6_rents_10 rfl (lv_at hl 1 rfl) ?_
    refine lv_aload_n C.1.1 C.1.2.1 dX6_rents_11 rfl (lv_at hl 0 rfl) ?_
    have hk6 := sh6_3 hW hk_a0
    refine gf6_3 C hW hk_a0 w_408 dX6_rents_12 ?_
    refine gf3_3 C hW hk6 w_194 dX6_rents_15 ?_
    obtain ⟨σ8, hc7, hf⟩ := bd hf
    try dsimp only at hf
    refine cVv C hW (mX6_tryHours hk_a0 hc7) hk_a0 kvX6_tryHours w_965 ⟨(Nat.le_of_ble_eq_true rfl), (Nat.le_of_ble_eq_true rfl)⟩ ⟨Nat.zero_le _, Nat.zero_le _⟩ rfl hl.1 (rest := []) rfl (Nat.le_of_ble_eq_true rfl) dX6_rents_18 (fun H locs hW => ?_)
    refine lv_aload_n C.1.1 C.1.2.1 dX6_rents_21 rfl (lv_at hl 0 rfl) ?_
    have hk12 := sh6_7 hW hk_a0
    refine gf6_7 C hW hk_a0 w_412 dX6_rents_22 ?_
    obtain ⟨⟨r15, σ14⟩, hc13, hf⟩ := bd hf
    try dsimp only at hf
    refine cVi C hW (mX2_rentOfAll hk12 hc13) hk12 kvX2_rentOfAll w_767 ⟨(Nat.le_of_ble_eq_true rfl), (Nat.le_of_ble_eq_true rfl)⟩ ⟨Nat.zero_le _, Nat.zero_le _⟩ rfl hl.1 (rest := []) rfl (Nat.le_of_ble_eq_true rfl) dX6_rents_25 (fun H locs hn16 hW => ?_)
    exact ri hQ C hr hlk hW hf (rok_i _) dX6_rents_28
  · replace hf := (if_pos h9).symm.trans hf
    refine lv_iconst (v := (-1)) C.1.1 C.1.2.1 dX6_rents_7 (by decide) ?_
    exact ri hQ C hr hlk hW hf (rok_i _) dX6_rents_8
theorem kvX6_then : KV 6 "RightKeys" yX6_then cX6_then 4 (some .int) 3 := ⟨⟨w_970, w_971, w_109, w_972⟩, ⟨rfl, by decide, by decide, by decide +kernel⟩, by decide, rfl⟩
noncomputable def jX6_then_31 (a0 : Nat) (p1 : Int32) (p2 : Int32) (p3 : Int32) (σ : Sg) : Option (Int32 × Sg) := (fX6_tryHours a0 p2 (σ.1 (σ.2.2.1 a0 3) 3) σ).bind (fun σ8 => if p3 = (2 : Int32) then (some (((σ8.1 (a0 + 40) 9) - (σ8.1 (a0 + 31) 9)), σ8)) else (if p3 = 0 then ((fX2_whereIs (a0 + 40) p1 σ8).bind (fun q20 => let r18 := q20.1; let σ17 := q20.2; some (r18, σ17))) else (if vin p1 8 then (some ((σ8.1 ((a0 + 40) + 5) ((p1).toNatClampNeg)), σ8)) else none)))
noncomputable def fX6_then (a0 : Nat) (p1 : Int32) (p2 : Int32) (p3 : Int32) (σ : Sg) : Option (Int32 × Sg) := (fX6_isCount p2 σ).bind (fun q5 => let r3 := q5.1; let σ2 := q5.2; if r3 = 0 then (some ((-1 : Int32), σ2)) else (if p3 < 0 then (some ((-1 : Int32), σ2)) else (if (2 : Int32) < p3 then (some ((-1 : Int32), σ2)) else (if (2 : Int32) ≤ p3 then (jX6_then_31 a0 p1 p2 p3 σ2) else ((fX6_isHouse a0 p1 σ2).bind (fun q27 => let r25 := q27.1; let σ24 := q27.2; if r25 = 0 then (some ((-1 : Int32), σ24)) else (jX6_then_31 a0 p1 p2 p3 σ24)))))))
set_option maxRecDepth 100000 in
set_option maxHeartbeats 4000000 in
theorem mX6_then {l : Launch} {G : Gm} {a0 : Nat} {p1 : Int32} {p2 : Int32} {p3 : Int32} {σ : Sg} {r : Int32} {σ' : Sg} (hk_a0 : gK G a0 = 7) (hf : fX6_then a0 p1 p2 p3 σ = some (r, σ')) : Mi l G yX6_then cX6_then 4 .int 7 178 [.ref (gB G + a0), .int p1, .int p2, .int p3] σ r σ' := by
  refine of_W "RightKeys" rfl (by decide) (Nat.le_of_ble_eq_true rfl) ?_
  intro p e s m args below meth c Q hQ C hr hlk hW ls hl
  have h00 := hW.1
  have hl : lv_has ls 4 [(0, .ref (gB G + a0)), (1, .int p1), (2, .int p2), (3, .int p3)] := hl
  delta fX6_then at hf
  have J31 : ∀ (σ : Sg) (H : Heap) (locs : List Loc) (ls : Array Slot), jX6_then_31 a0 p1 p2 p3 σ = some (r, σ') → Ws G σ s.heap H locs → lv_has ls 4 [(0, .ref (gB G + a0)), (1, .int p1), (2, .int p2), (3, .int p3)] → W p l e (rmOf 7 178) s m args below meth c H locs 0 0 Q (F0 m 31 ls []) := by
    intro σ H locs ls hf hW hl
    delta jX6_then_31 at hf
    refine lv_aload_n C.1.1 C.1.2.1 dX6_then_31 rfl (lv_at hl 0 rfl) ?_
    refine lv_iload_n C.1.1 C.1.2.1 dX6_then_32 rfl (lv_at hl 2 rfl) ?_
    refine lv_aload_n C.1.1 C.1.2.1 dX6_then_33 rfl (lv_at hl 0 rfl) ?_
    have hk6 := sh6_3 hW hk_a0
    refine gf6_3 C hW hk_a0 w_408 dX6_then_34 ?_
    refine gf3_3 C hW hk6 w_194 dX6_then_37 ?_
    obtain ⟨σ8, hc7, hf⟩ := bd hf
    try dsimp only at hf
    refine cVv C hW (mX6_tryHours hk_a0 hc7) hk_a0 kvX6_tryHours w_965 ⟨(Nat.le_of_ble_eq_true rfl), (Nat.le_of_ble_eq_true rfl)⟩ ⟨Nat.zero_le _, Nat.zero_le _⟩ rfl hl.1 (rest := []) rfl (Nat.le_of_ble_eq_true rfl) dX6_then_40 (fun H locs hW => ?_)
    refine lv_iload_n C.1.1 C.1.2.1 dX6_then_43 rfl (lv_at hl 3 rfl) ?_
    refine lv_iconst (v := 2) C.1.1 C.1.2.1 dX6_then_44 (by decide) ?_
    refine lv_icmp_ne (tgt := 64) C.1.1 C.1.2.1 dX6_then_45 (by decide) (fun h9 => ?_) (fun h9 => ?_)
    · replace hf := (if_neg h9).symm.trans hf
      refine lv_iload_n C.1.1 C.1.2.1 dX6_then_64 rfl (lv_at hl 3 rfl) ?_
      refine lv_if_ne (tgt := 79) C.1.1 C.1.2.1 dX6_then_65 (by decide) (fun h9 => ?_) (fun h9 => ?_)
      · replace hf := (if_neg h9).symm.trans hf
        refine lv_aload_n C.1.1 C.1.2.1 dX6_then_79 rfl (lv_at hl 0 rfl) ?_
        have hk12 := sh6_7 hW hk_a0
        refine gf6_7 C hW hk_a0 w_412 dX6_then_80 ?_
        have hk13 := sh2_16 hW hk12
        refine gf2_16 C hW hk12 w_329 dX6_then_83 ?_
        refine lv_iload_n C.1.1 C.1.2.1 dX6_then_86 rfl (lv_at hl 1 rfl) ?_
        obtain ⟨hv14, hf⟩ := gd hf
        refine wai C hW hk13 (vin_p hv14) dX6_then_87 ?_
        exact ri hQ C hr hlk hW hf (rok_i _) dX6_then_88
      · replace hf := (if_pos h9).symm.trans hf
        refine lv_aload_n C.1.1 C.1.2.1 dX6_then_68 rfl (lv_at hl 0 rfl) ?_
        have hk15 := sh6_7 hW hk_a0
        refine gf6_7 C hW hk_a0 w_412 dX6_then_69 ?_
        refine lv_iload_n C.1.1 C.1.2.1 dX6_then_72 rfl (lv_at hl 1 rfl) ?_
        obtain ⟨⟨r18, σ17⟩, hc16, hf⟩ := bd hf
        try dsimp only at hf
        refine cVi C hW (mX2_whereIs hk15 hc16) hk15 kvX2_whereIs w_678 ⟨(Nat.le_of_ble_eq_true rfl), (Nat.le_of_ble_eq_true rfl)⟩ ⟨Nat.zero_le _, Nat.zero_le _⟩ rfl hl.1 (rest := []) rfl (Nat.le_of_ble_eq_true rfl) dX6_then_73 (fun H locs hn19 hW => ?_)
        refine lv_goto (tgt := 88) C.1.1 C.1.2.1 dX6_then_76 (by decide) ?_
        exact ri hQ C hr hlk hW hf (rok_i _) dX6_then_88
    · replace hf := (if_pos h9).symm.trans hf
      refine lv_aload_n C.1.1 C.1.2.1 dX6_then_48 rfl (lv_at hl 0 rfl) ?_
      have hk21 := sh6_7 hW hk_a0
      refine gf6_7 C hW hk_a0 w_412 dX6_then_49 ?_
      refine gf2_9 C hW hk21 w_315 dX6_then_52 ?_
      refine lv_aload_n C.1.1 C.1.2.1 dX6_then_55 rfl (lv_at hl 0 rfl) ?_
      have hk22 := sh6_6 hW hk_a0
      refine gf6_6 C hW hk_a0 w_411 dX6_then_56 ?_
      refine gf2_9 C hW hk22 w_315 dX6_then_59 ?_
      refine lv_isub C.1.1 C.1.2.1 dX6_then_62 ?_
      exact ri hQ C hr hlk hW hf (rok_i _) dX6_then_63
  refine lv_iload_n C.1.1 C.1.2.1 dX6_then_0 rfl (lv_at hl 2 rfl) ?_
  obtain ⟨⟨r3, σ2⟩, hc1, hf⟩ := bd hf
  try dsimp only at hf
  refine cSi C hW (mX6_isCount hc1) ksX6_isCount w_962 ⟨(Nat.le_of_ble_eq_true rfl), (Nat.le_of_ble_eq_true rfl)⟩ ⟨Nat.zero_le _, Nat.zero_le _⟩ rfl hl.1 (rest := []) rfl (Nat.le_of_ble_eq_true rfl) dX6_then_1 (fun H locs hn4 hW => ?_)
  refine lv_if_eq (tgt := 29) C.1.1 C.1.2.1 dX6_then_4 (by decide) (fun h9 => ?_) (fun h9 => ?_)
  · replace hf := (if_pos h9).symm.trans hf
    refine lv_iconst (v := (-1)) C.1.1 C.1.2.1 dX6_then_29 (by decide) ?_
    exact ri hQ C hr hlk hW hf (rok_i _) dX6_then_30
  · replace hf := (if_neg h9).symm.trans hf
    refine lv_iload_n C.1.1 C.1.2.1 dX6_then_7 rfl (lv_at hl 3 rfl) ?_
    refine lv_if_lt (tgt := 29) C.1.1 C.1.2.1 dX6_then_8 (by decide) (fun h9 => ?_) (fun h9 => ?_)
    · replace hf := (if_pos h9).symm.trans hf
      refine lv_iconst (v := (-1)) C.1.1 C.1.2.1 dX6_then_29 (by decide) ?_
      exact ri hQ C hr hlk hW hf (rok_i _) dX6_then_30
    · replace hf := (if_neg h9).symm.trans hf
      refine lv_iload_n C.1.1 C.1.2.1 dX6_then_11 rfl (lv_at hl 3 rfl) ?_
      refine lv_iconst (v := 2) C.1.1 C.1.2.1 dX6_then_12 (by decide) ?_
      refine lv_icmp_gt (tgt := 29) C.1.1 C.1.2.1 dX6_then_13 (by decide) (fun h9 => ?_) (fun h9 => ?_)
      · replace hf := (if_pos h9).symm.trans hf
        refine lv_iconst (v := (-1)) C.1.1 C.1.2.1 dX6_then_29 (by decide) ?_
        exact ri hQ C hr hlk hW hf (rok_i _) dX6_then_30
      · replace hf := (if_neg h9).symm.trans hf
        refine lv_iload_n C.1.1 C.1.2.1 dX6_then_16 rfl (lv_at hl 3 rfl) ?_
        refine lv_iconst (v := 2) C.1.1 C.1.2.1 dX6_then_17 (by decide) ?_
        refine lv_icmp_ge (tgt := 31) C.1.1 C.1.2.1 dX6_then_18 (by decide) (fun h9 => ?_) (fun h9 => ?_)
        · replace hf := (if_pos h9).symm.trans hf
          exact J31 _ _ _ _ hf hW (lv_sub hl [0, 1, 2, 3] rfl)
        · replace hf := (if_neg h9).symm.trans hf
          refine lv_aload_n C.1.1 C.1.2.1 dX6_then_21 rfl (lv_at hl 0 rfl) ?_
          refine lv_iload_n C.1.1 C.1.2.1 dX6_then_22 rfl (lv_at hl 1 rfl) ?_
          obtain ⟨⟨r25, σ24⟩, hc23, hf⟩ := bd hf
          try dsimp only at hf
          refine cVi C hW (mX6_isHouse hk_a0 hc23) hk_a0 kvX6_isHouse w_674 ⟨(Nat.le_of_ble_eq_true rfl), (Nat.le_of_ble_eq_true rfl)⟩ ⟨Nat.zero_le _, Nat.zero_le _⟩ rfl hl.1 (rest := []) rfl (Nat.le_of_ble_eq_true rfl) dX6_then_23 (fun H locs hn26 hW => ?_)
          refine lv_if_ne (tgt := 31) C.1.1 C.1.2.1 dX6_then_26 (by decide) (fun h9 => ?_) (fun h9 => ?_)
          · replace hf := (if_neg h9).symm.trans hf
            exact J31 _ _ _ _ hf hW (lv_sub hl [0, 1, 2, 3] rfl)
          · replace hf := (if_pos h9).symm.trans hf
            refine lv_iconst (v := (-1)) C.1.1 C.1.2.1 dX6_then_29 (by decide) ?_
            exact ri hQ C hr hlk hW hf (rok_i _) dX6_then_30
theorem kvX6_year : KV 6 "RightKeys" yX6_year cX6_year 5 (some .int) 2 := ⟨⟨w_974, w_975, w_109, w_976⟩, ⟨rfl, by decide, by decide, by decide +kernel⟩, by decide, rfl⟩
noncomputable def jX6_year_59 (a0 : Nat) (p1 : Int32) (p2 : Int32) (x3 : Int32) (x4 : Int32) (σ : Sg) : Option ((Int32 × Int32 × Sg) ⊕ (Int32 × Sg)) := (let x4_13 := x4 + (1 : Int32); some (Sum.inl (x3, x4_13, σ)))
noncomputable def bX6_year_25 (a0 : Nat) (p1 : Int32) (p2 : Int32) (x3 : Int32) (x4 : Int32) (σ : Sg) : Option ((Int32 × Int32 × Sg) ⊕ (Int32 × Sg)) := if p2 ≤ x4 then (some (Sum.inr (x3, σ))) else ((fX6_tryHours a0 p1 ((σ.1 (σ.2.2.1 a0 3) 3) + x4) σ).bind (fun σ8 => if (σ8.1 (a0 + 40) 3) = 0 then ((let x3_14 := x3 + (1 : Int32); jX6_year_59 a0 p1 p2 x3_14 x4 σ8)) else (jX6_year_59 a0 p1 p2 x3 x4 σ8)))
noncomputable def fX6_year (a0 : Nat) (p1 : Int32) (p2 : Int32) (σ : Sg) : Option (Int32 × Sg) := (fX6_isCount p1 σ).bind (fun q5 => let r3 := q5.1; let σ2 := q5.2; if r3 = 0 then (some ((-1 : Int32), σ2)) else (if p2 < (1 : Int32) then (some ((-1 : Int32), σ2)) else (if p2 ≤ (20 : Int32) then ((lp (fun st => bX6_year_25 a0 p1 p2 st.1 st.2.1 st.2.2) ((0 : Int32), (0 : Int32), σ2)).bind (fun q18 => let y17 := q18.1; let σ16 := q18.2;  some (y17, σ16))) else (some ((-1 : Int32), σ2)))))
set_option maxRecDepth 100000 in
set_option maxHeartbeats 4000000 in
theorem mX6_year {l : Launch} {G : Gm} {a0 : Nat} {p1 : Int32} {p2 : Int32} {σ : Sg} {r : Int32} {σ' : Sg} (hk_a0 : gK G a0 = 7) (hf : fX6_year a0 p1 p2 σ = some (r, σ')) : Mi l G yX6_year cX6_year 5 .int 7 178 [.ref (gB G + a0), .int p1, .int p2] σ r σ' := by
  refine of_W "RightKeys" rfl (by decide) (Nat.le_of_ble_eq_true rfl) ?_
  intro p e s m args below meth c Q hQ C hr hlk hW ls hl
  have h00 := hW.1
  have hl : lv_has ls 5 [(0, .ref (gB G + a0)), (1, .int p1), (2, .int p2)] := hl
  delta fX6_year at hf
  have L25 : ∀ (n : Nat) (x3 : Int32) (x4 : Int32) (σ : Sg) (H : Heap) (locs : List Loc) (ls : Array Slot) (out : (Int32 × Sg)), iter (fun st => bX6_year_25 a0 p1 p2 st.1 st.2.1 st.2.2) n (x3, x4, σ) = some out → Ws G σ s.heap H locs → lv_has ls 5 [(0, .ref (gB G + a0)), (1, .int p1), (2, .int p2), (3, .int x3), (4, .int x4)] → (∀ (y3 : Int32) (σ : Sg) (H : Heap) (locs : List Loc) (ls : Array Slot), out = (y3, σ) → Ws G σ s.heap H locs → lv_has ls 5 [(3, .int y3)] → W p l e (rmOf 7 178) s m args below meth c H locs 0 0 Q (F0 m 65 ls [])) → W p l e (rmOf 7 178) s m args below meth c H locs 0 0 Q (F0 m 25 ls []) := by
    intro n
    induction n with
    | zero =>
      intro x3 x4 σ H locs ls out hf
      exact (it_0 hf).elim
    | succ n ih =>
      intro x3 x4 σ H locs ls out hf hW hl K25_65
      obtain ⟨x, hf, hx⟩ := it_s hf
      have hf : bX6_year_25 a0 p1 p2 x3 x4 σ = some x := hf
      delta bX6_year_25 at hf
      have J59 : ∀ (x3 : Int32) (x4 : Int32) (σ : Sg) (H : Heap) (locs : List Loc) (ls : Array Slot), jX6_year_59 a0 p1 p2 x3 x4 σ = some x → Ws G σ s.heap H locs → lv_has ls 5 [(0, .ref (gB G + a0)), (1, .int p1), (2, .int p2), (3, .int x3), (4, .int x4)] → W p l e (rmOf 7 178) s m args below meth c H locs 0 0 Q (F0 m 59 ls []) := by
        intro x3 x4 σ H locs ls hf hW hl
        delta jX6_year_59 at hf
        refine lv_iinc (v := _) (lv' := [(4, .int _), (0, .ref _), (1, .int _), (2, .int _), (3, .int _)]) C.1.1 C.1.2.1 dX6_year_59 hl (k := 4) rfl (ii (k := 1) (by decide)) (by decide) rfl (fun ls hl => ?_)
        refine lv_goto (tgt := 25) C.1.1 C.1.2.1 dX6_year_62 (by decide) ?_
        cases hf
        exact ih _ _ _ _ _ _ _ hx hW (lv_sub hl [1, 2, 3, 4, 0] rfl) K25_65
      refine lv_iload C.1.1 C.1.2.1 dX6_year_25 (lv_at hl 4 rfl) ?_
      refine lv_iload_n C.1.1 C.1.2.1 dX6_year_27 rfl (lv_at hl 2 rfl) ?_
      refine lv_icmp_ge (tgt := 65) C.1.1 C.1.2.1 dX6_year_28 (by decide) (fun h9 => ?_) (fun h9 => ?_)
      · replace hf := (if_pos h9).symm.trans hf
        cases hf
        cases hx
        exact K25_65 _ _ _ _ _ rfl hW (lv_sub hl [3] rfl)
      · replace hf := (if_neg h9).symm.trans hf
        refine lv_aload_n C.1.1 C.1.2.1 dX6_year_31 rfl (lv_at hl 0 rfl) ?_
        refine lv_iload_n C.1.1 C.1.2.1 dX6_year_32 rfl (lv_at hl 1 rfl) ?_
        refine lv_aload_n C.1.1 C.1.2.1 dX6_year_33 rfl (lv_at hl 0 rfl) ?_
        have hk6 := sh6_3 hW hk_a0
        refine gf6_3 C hW hk_a0 w_408 dX6_year_34 ?_
        refine gf3_3 C hW hk6 w_194 dX6_year_37 ?_
        refine lv_iload C.1.1 C.1.2.1 dX6_year_40 (lv_at hl 4 rfl) ?_
        refine lv_iadd C.1.1 C.1.2.1 dX6_year_42 ?_
        obtain ⟨σ8, hc7, hf⟩ := bd hf
        try dsimp only at hf
        refine cVv C hW (mX6_tryHours hk_a0 hc7) hk_a0 kvX6_tryHours w_965 ⟨(Nat.le_of_ble_eq_true rfl), (Nat.le_of_ble_eq_true rfl)⟩ ⟨Nat.zero_le _, Nat.zero_le _⟩ rfl hl.1 (rest := []) rfl (Nat.le_of_ble_eq_true rfl) dX6_year_43 (fun H locs hW => ?_)
        refine lv_aload_n C.1.1 C.1.2.1 dX6_year_46 rfl (lv_at hl 0 rfl) ?_
        have hk12 := sh6_7 hW hk_a0
        refine gf6_7 C hW hk_a0 w_412 dX6_year_47 ?_
        refine gf2_3 C hW hk12 w_304 dX6_year_50 ?_
        refine lv_if_ne (tgt := 59) C.1.1 C.1.2.1 dX6_year_53 (by decide) (fun h9 => ?_) (fun h9 => ?_)
        · replace hf := (if_neg h9).symm.trans hf
          exact J59 _ _ _ _ _ _ hf hW (lv_sub hl [0, 1, 2, 3, 4] rfl)
        · replace hf := (if_pos h9).symm.trans hf
          refine lv_iinc (v := _) (lv' := [(3, .int _), (0, .ref _), (1, .int _), (2, .int _), (4, .int _)]) C.1.1 C.1.2.1 dX6_year_56 hl (k := 3) rfl (ii (k := 1) (by decide)) (by decide) rfl (fun ls hl => ?_)
          exact J59 _ _ _ _ _ _ hf hW (lv_sub hl [1, 2, 3, 0, 4] rfl)
  refine lv_iload_n C.1.1 C.1.2.1 dX6_year_0 rfl (lv_at hl 1 rfl) ?_
  obtain ⟨⟨r3, σ2⟩, hc1, hf⟩ := bd hf
  try dsimp only at hf
  refine cSi C hW (mX6_isCount hc1) ksX6_isCount w_962 ⟨(Nat.le_of_ble_eq_true rfl), (Nat.le_of_ble_eq_true rfl)⟩ ⟨Nat.zero_le _, Nat.zero_le _⟩ rfl hl.1 (rest := []) rfl (Nat.le_of_ble_eq_true rfl) dX6_year_1 (fun H locs hn4 hW => ?_)
  refine lv_if_eq (tgt := 18) C.1.1 C.1.2.1 dX6_year_4 (by decide) (fun h9 => ?_) (fun h9 => ?_)
  · replace hf := (if_pos h9).symm.trans hf
    refine lv_iconst (v := (-1)) C.1.1 C.1.2.1 dX6_year_18 (by decide) ?_
    exact ri hQ C hr hlk hW hf (rok_i _) dX6_year_19
  · replace hf := (if_neg h9).symm.trans hf
    refine lv_iload_n C.1.1 C.1.2.1 dX6_year_7 rfl (lv_at hl 2 rfl) ?_
    refine lv_iconst (v := 1) C.1.1 C.1.2.1 dX6_year_8 (by decide) ?_
    refine lv_icmp_lt (tgt := 18) C.1.1 C.1.2.1 dX6_year_9 (by decide) (fun h9 => ?_) (fun h9 => ?_)
    · replace hf := (if_pos h9).symm.trans hf
      refine lv_iconst (v := (-1)) C.1.1 C.1.2.1 dX6_year_18 (by decide) ?_
      exact ri hQ C hr hlk hW hf (rok_i _) dX6_year_19
    · replace hf := (if_neg h9).symm.trans hf
      refine lv_iload_n C.1.1 C.1.2.1 dX6_year_12 rfl (lv_at hl 2 rfl) ?_
      refine lv_bipush (v := 20) C.1.1 C.1.2.1 dX6_year_13 (by decide) ?_
      refine lv_icmp_le (tgt := 20) C.1.1 C.1.2.1 dX6_year_15 (by decide) (fun h9 => ?_) (fun h9 => ?_)
      · replace hf := (if_pos h9).symm.trans hf
        refine lv_iconst (v := 0) C.1.1 C.1.2.1 dX6_year_20 (by decide) ?_
        refine lv_istore_n (lv' := [(3, .int _), (0, .ref _), (1, .int _), (2, .int _)]) C.1.1 C.1.2.1 dX6_year_21 rfl hl (by decide) rfl (fun ls hl => ?_)
        refine lv_iconst (v := 0) C.1.1 C.1.2.1 dX6_year_22 (by decide) ?_
        refine lv_istore (lv' := [(4, .int _), (3, .int _), (0, .ref _), (1, .int _), (2, .int _)]) C.1.1 C.1.2.1 dX6_year_23 hl (by decide) rfl (fun ls hl => ?_)
        obtain ⟨o15, ho, hf⟩ := bd hf
        obtain ⟨n, ho⟩ := lp_it ho
        refine L25 n _ _ _ _ _ _ o15 ho hW (lv_sub hl [2, 3, 4, 1, 0] rfl) ?_
        intro y17 σ16 H locs ls e9 hW hl
        subst e9
        try dsimp only at hf
        refine lv_iload_n C.1.1 C.1.2.1 dX6_year_65 rfl (lv_at hl 0 rfl) ?_
        exact ri hQ C hr hlk hW hf (rok_i _) dX6_year_66
      · replace hf := (if_neg h9).symm.trans hf
        refine lv_iconst (v := (-1)) C.1.1 C.1.2.1 dX6_year_18 (by decide) ?_
        exact ri hQ C hr hlk hW hf (rok_i _) dX6_year_19
theorem kvX6_tell : KV 6 "RightKeys" yX6_tell cX6_tell 4 (some .int) 2 := ⟨⟨w_978, w_979, w_109, w_980⟩, ⟨rfl, by decide, by decide, by decide +kernel⟩, by decide, rfl⟩
noncomputable def jX6_tell_57 (a0 : Nat) (p1 : Int32) (p2 : Int32) (x3 : Int32) (s0 : Nat) (s1 : Int32) (σ : Sg) : Option (Int32 × Sg) := (let σ10 := wI σ s0 15 s1; let σ11 := wI σ10 a0 16 ((σ10.1 a0 16) + (1 : Int32)); some (x3, σ11))
noncomputable def fX6_tell (a0 : Nat) (p1 : Int32) (p2 : Int32) (σ : Sg) : Option (Int32 × Sg) := (fX6_isHouse a0 p1 σ).bind (fun q5 => let r3 := q5.1; let σ2 := q5.2; if r3 = 0 then (some ((-1 : Int32), σ2)) else (if (σ2.1 a0 16) < (20 : Int32) then ((let x3_6 := (σ2.1 a0 16); if vin x3_6 20 then (let σ9 := wI σ2 (a0 + 53) ((x3_6).toNatClampNeg) p1; if p2 = 0 then (jX6_tell_57 a0 p1 p2 x3_6 a0 ((σ9.1 a0 15) &&& (((1 : Int32) <<< (x3_6 &&& 31)) ^^^ (-1 : Int32))) σ9) else (jX6_tell_57 a0 p1 p2 x3_6 a0 ((σ9.1 a0 15) ||| ((1 : Int32) <<< (x3_6 &&& 31))) σ9)) else none)) else (some ((-1 : Int32), σ2))))
set_option maxRecDepth 100000 in
set_option maxHeartbeats 4000000 in
theorem mX6_tell {l : Launch} {G : Gm} {a0 : Nat} {p1 : Int32} {p2 : Int32} {σ : Sg} {r : Int32} {σ' : Sg} (hk_a0 : gK G a0 = 7) (hf : fX6_tell a0 p1 p2 σ = some (r, σ')) : Mi l G yX6_tell cX6_tell 4 .int 1 21 [.ref (gB G + a0), .int p1, .int p2] σ r σ' := by
  refine of_W "RightKeys" rfl (by decide) (Nat.le_of_ble_eq_true rfl) ?_
  intro p e s m args below meth c Q hQ C hr hlk hW ls hl
  have h00 := hW.1
  have hl : lv_has ls 4 [(0, .ref (gB G + a0)), (1, .int p1), (2, .int p2)] := hl
  delta fX6_tell at hf
  have J57 : ∀ (x3 : Int32) (s0 : Nat) (s1 : Int32) (σ : Sg) (H : Heap) (locs : List Loc) (ls : Array Slot) (hk_s0 : gK G s0 = 7), jX6_tell_57 a0 p1 p2 x3 s0 s1 σ = some (r, σ') → Ws G σ s.heap H locs → lv_has ls 4 [(0, .ref (gB G + a0)), (3, .int x3)] → W p l e (rmOf 1 21) s m args below meth c H locs 0 0 Q (F0 m 57 ls [.int s1, .ref (gB G + s0)]) := by
    intro x3 s0 s1 σ H locs ls hk_s0 hf hW hl
    delta jX6_tell_57 at hf
    refine pf6_15 C hW hk_s0 w_420 dX6_tell_57 (fun H locs hW => ?_)
    refine lv_aload_n C.1.1 C.1.2.1 dX6_tell_60 rfl (lv_at hl 0 rfl) ?_
    refine lv_dup C.1.1 C.1.2.1 dX6_tell_61 rfl ?_
    refine gf6_16 C hW hk_a0 w_421 dX6_tell_62 ?_
    refine lv_iconst (v := 1) C.1.1 C.1.2.1 dX6_tell_65 (by decide) ?_
    refine lv_iadd C.1.1 C.1.2.1 dX6_tell_66 ?_
    refine pf6_16 C hW hk_a0 w_421 dX6_tell_67 (fun H locs hW => ?_)
    refine lv_iload_n C.1.1 C.1.2.1 dX6_tell_70 rfl (lv_at hl 1 rfl) ?_
    exact ri hQ C hr hlk hW hf (rok_i _) dX6_tell_71
  refine lv_aload_n C.1.1 C.1.2.1 dX6_tell_0 rfl (lv_at hl 0 rfl) ?_
  refine lv_iload_n C.1.1 C.1.2.1 dX6_tell_1 rfl (lv_at hl 1 rfl) ?_
  obtain ⟨⟨r3, σ2⟩, hc1, hf⟩ := bd hf
  try dsimp only at hf
  refine cVi C hW (mX6_isHouse hk_a0 hc1) hk_a0 kvX6_isHouse w_674 ⟨(Nat.le_of_ble_eq_true rfl), (Nat.le_of_ble_eq_true rfl)⟩ ⟨Nat.zero_le _, Nat.zero_le _⟩ rfl hl.1 (rest := []) rfl (Nat.le_of_ble_eq_true rfl) dX6_tell_2 (fun H locs hn4 hW => ?_)
  refine lv_if_eq (tgt := 17) C.1.1 C.1.2.1 dX6_tell_5 (by decide) (fun h9 => ?_) (fun h9 => ?_)
  · replace hf := (if_pos h9).symm.trans hf
    refine lv_iconst (v := (-1)) C.1.1 C.1.2.1 dX6_tell_17 (by decide) ?_
    exact ri hQ C hr hlk hW hf (rok_i _) dX6_tell_18
  · replace hf := (if_neg h9).symm.trans hf
    refine lv_aload_n C.1.1 C.1.2.1 dX6_tell_8 rfl (lv_at hl 0 rfl) ?_
    refine gf6_16 C hW hk_a0 w_421 dX6_tell_9 ?_
    refine lv_bipush (v := 20) C.1.1 C.1.2.1 dX6_tell_12 (by decide) ?_
    refine lv_icmp_lt (tgt := 19) C.1.1 C.1.2.1 dX6_tell_14 (by decide) (fun h9 => ?_) (fun h9 => ?_)
    · replace hf := (if_pos h9).symm.trans hf
      refine lv_aload_n C.1.1 C.1.2.1 dX6_tell_19 rfl (lv_at hl 0 rfl) ?_
      refine gf6_16 C hW hk_a0 w_421 dX6_tell_20 ?_
      refine lv_istore_n (lv' := [(3, .int _), (0, .ref _), (1, .int _), (2, .int _)]) C.1.1 C.1.2.1 dX6_tell_23 rfl hl (by decide) rfl (fun ls hl => ?_)
      refine lv_aload_n C.1.1 C.1.2.1 dX6_tell_24 rfl (lv_at hl 1 rfl) ?_
      have hk7 := sh6_14 hW hk_a0
      refine gf6_14 C hW hk_a0 w_419 dX6_tell_25 ?_
      refine lv_iload_n C.1.1 C.1.2.1 dX6_tell_28 rfl (lv_at hl 0 rfl) ?_
      refine lv_iload_n C.1.1 C.1.2.1 dX6_tell_29 rfl (lv_at hl 2 rfl) ?_
      obtain ⟨hv8, hf⟩ := gd hf
      refine wsi C hW hk7 (vin_p hv8) dX6_tell_30 (fun H locs hW => ?_)
      refine lv_aload_n C.1.1 C.1.2.1 dX6_tell_31 rfl (lv_at hl 1 rfl) ?_
      refine lv_iload_n C.1.1 C.1.2.1 dX6_tell_32 rfl (lv_at hl 3 rfl) ?_
      refine lv_if_eq (tgt := 47) C.1.1 C.1.2.1 dX6_tell_33 (by decide) (fun h9 => ?_) (fun h9 => ?_)
      · replace hf := (if_pos h9).symm.trans hf
        refine lv_aload_n C.1.1 C.1.2.1 dX6_tell_47 rfl (lv_at hl 1 rfl) ?_
        refine gf6_15 C hW hk_a0 w_420 dX6_tell_48 ?_
        refine lv_iconst (v := 1) C.1.1 C.1.2.1 dX6_tell_51 (by decide) ?_
        refine lv_iload_n C.1.1 C.1.2.1 dX6_tell_52 rfl (lv_at hl 0 rfl) ?_
        refine lv_ishl C.1.1 C.1.2.1 dX6_tell_53 ?_
        refine lv_iconst (v := (-1)) C.1.1 C.1.2.1 dX6_tell_54 (by decide) ?_
        refine lv_ixor C.1.1 C.1.2.1 dX6_tell_55 ?_
        refine lv_iand C.1.1 C.1.2.1 dX6_tell_56 ?_
        exact J57 _ _ _ _ _ _ _ hk_a0 hf hW (lv_sub hl [1, 0] rfl)
      · replace hf := (if_neg h9).symm.trans hf
        refine lv_aload_n C.1.1 C.1.2.1 dX6_tell_36 rfl (lv_at hl 1 rfl) ?_
        refine gf6_15 C hW hk_a0 w_420 dX6_tell_37 ?_
        refine lv_iconst (v := 1) C.1.1 C.1.2.1 dX6_tell_40 (by decide) ?_
        refine lv_iload_n C.1.1 C.1.2.1 dX6_tell_41 rfl (lv_at hl 0 rfl) ?_
        refine lv_ishl C.1.1 C.1.2.1 dX6_tell_42 ?_
        refine lv_ior C.1.1 C.1.2.1 dX6_tell_43 ?_
        refine lv_goto (tgt := 57) C.1.1 C.1.2.1 dX6_tell_44 (by decide) ?_
        exact J57 _ _ _ _ _ _ _ hk_a0 hf hW (lv_sub hl [1, 0] rfl)
    · replace hf := (if_neg h9).symm.trans hf
      refine lv_iconst (v := (-1)) C.1.1 C.1.2.1 dX6_tell_17 (by decide) ?_
      exact ri hQ C hr hlk hW hf (rok_i _) dX6_tell_18
theorem kvX6_forget : KV 6 "RightKeys" yX6_forget cX6_forget 2 (some .int) 0 := ⟨⟨w_982, w_983, w_109, w_984⟩, ⟨rfl, by decide, by decide, by decide +kernel⟩, by decide, rfl⟩
noncomputable def fX6_forget (a0 : Nat) (σ : Sg) : Option (Int32 × Sg) := (let x1_1 := (σ.1 a0 16); let σ2 := wI σ a0 16 (0 : Int32); some (x1_1, σ2))
set_option maxRecDepth 100000 in
set_option maxHeartbeats 4000000 in
theorem mX6_forget {l : Launch} {G : Gm} {a0 : Nat} {σ : Sg} {r : Int32} {σ' : Sg} (hk_a0 : gK G a0 = 7) (hf : fX6_forget a0 σ = some (r, σ')) : Mi l G yX6_forget cX6_forget 2 .int 0 0 [.ref (gB G + a0)] σ r σ' := by
  refine of_W "RightKeys" rfl (by decide) (Nat.le_of_ble_eq_true rfl) ?_
  intro p e s m args below meth c Q hQ C hr hlk hW ls hl
  have h00 := hW.1
  have hl : lv_has ls 2 [(0, .ref (gB G + a0))] := hl
  delta fX6_forget at hf
  refine lv_aload_n C.1.1 C.1.2.1 dX6_forget_0 rfl (lv_at hl 0 rfl) ?_
  refine gf6_16 C hW hk_a0 w_421 dX6_forget_1 ?_
  refine lv_istore_n (lv' := [(1, .int _), (0, .ref _)]) C.1.1 C.1.2.1 dX6_forget_4 rfl hl (by decide) rfl (fun ls hl => ?_)
  refine lv_aload_n C.1.1 C.1.2.1 dX6_forget_5 rfl (lv_at hl 1 rfl) ?_
  refine lv_iconst (v := 0) C.1.1 C.1.2.1 dX6_forget_6 (by decide) ?_
  refine pf6_16 C hW hk_a0 w_421 dX6_forget_7 (fun H locs hW => ?_)
  refine lv_iload_n C.1.1 C.1.2.1 dX6_forget_10 rfl (lv_at hl 0 rfl) ?_
  exact ri hQ C hr hlk hW hf (rok_i _) dX6_forget_11
theorem kvX6_agrees : KV 6 "RightKeys" yX6_agrees cX6_agrees 4 (some .boolean) 2 := ⟨⟨w_991, w_40, w_109, w_992⟩, ⟨rfl, by decide, by decide, by decide +kernel⟩, by decide, rfl⟩
noncomputable def bX6_agrees_2 (a0 : Nat) (p1 : Int32) (p2 : Int32) (x3 : Int32) (σ : Sg) : Option ((Int32 × Sg) ⊕ ((Sg) ⊕ (Sg))) := if p2 ≤ x3 then (some (Sum.inr (Sum.inr σ))) else (if (20 : Int32) ≤ x3 then (some (Sum.inr (Sum.inr σ))) else (if vin x3 20 then ((fX6_bit p1 (σ.1 (a0 + 53) ((x3).toNatClampNeg)) σ).bind (fun q7 => let r5 := q7.1; let σ4 := q7.2; (fX6_bit (σ4.1 a0 15) x3 σ4).bind (fun q12 => let r10 := q12.1; let σ9 := q12.2; if r5 = r10 then ((let x3_13 := x3 + (1 : Int32); some (Sum.inl (x3_13, σ9)))) else (some (Sum.inr (Sum.inl σ9)))))) else none))
noncomputable def fX6_agrees (a0 : Nat) (p1 : Int32) (p2 : Int32) (σ : Sg) : Option (Int32 × Sg) := (lp (fun st => bX6_agrees_2 a0 p1 p2 st.1 st.2) ((0 : Int32), σ)).bind (fun o14 => Sum.elim (fun σ15 => some ((0 : Int32), σ15)) (fun o14_ => (fun σ16 => some ((1 : Int32), σ16)) o14_) o14)
set_option maxRecDepth 100000 in
set_option maxHeartbeats 4000000 in
theorem mX6_agrees {l : Launch} {G : Gm} {a0 : Nat} {p1 : Int32} {p2 : Int32} {σ : Sg} {r : Int32} {σ' : Sg} (hk_a0 : gK G a0 = 7) (hf : fX6_agrees a0 p1 p2 σ = some (r, σ')) : Mi l G yX6_agrees cX6_agrees 4 .boolean 1 21 [.ref (gB G + a0), .int p1, .int p2] σ r σ' := by
  refine of_W "RightKeys" rfl (by decide) (Nat.le_of_ble_eq_true rfl) ?_
  intro p e s m args below meth c Q hQ C hr hlk hW ls hl
  have h00 := hW.1
  have hl : lv_has ls 4 [(0, .ref (gB G + a0)), (1, .int p1), (2, .int p2)] := hl
  delta fX6_agrees at hf
  have L2 : ∀ (n : Nat) (x3 : Int32) (σ : Sg) (H : Heap) (locs : List Loc) (ls : Array Slot) (out : ((Sg) ⊕ (Sg))), iter (fun st => bX6_agrees_2 a0 p1 p2 st.1 st.2) n (x3, σ) = some out → Ws G σ s.heap H locs → lv_has ls 4 [(0, .ref (gB G + a0)), (1, .int p1), (2, .int p2), (3, .int x3)] → (∀ (σ : Sg) (H : Heap) (locs : List Loc) (ls : Array Slot), out = (Sum.inl σ) → Ws G σ s.heap H locs → lv_has ls 4 [] → W p l e (rmOf 1 21) s m args below meth c H locs 0 0 Q (F0 m 34 ls [])) → (∀ (σ : Sg) (H : Heap) (locs : List Loc) (ls : Array Slot), out = (Sum.inr σ) → Ws G σ s.heap H locs → lv_has ls 4 [] → W p l e (rmOf 1 21) s m args below meth c H locs 0 0 Q (F0 m 42 ls [])) → W p l e (rmOf 1 21) s m args below meth c H locs 0 0 Q (F0 m 2 ls []) := by
    intro n
    induction n with
    | zero =>
      intro x3 σ H locs ls out hf
      exact (it_0 hf).elim
    | succ n ih =>
      intro x3 σ H locs ls out hf hW hl K2_34 K2_42
      obtain ⟨x, hf, hx⟩ := it_s hf
      have hf : bX6_agrees_2 a0 p1 p2 x3 σ = some x := hf
      delta bX6_agrees_2 at hf
      refine lv_iload_n C.1.1 C.1.2.1 dX6_agrees_2 rfl (lv_at hl 3 rfl) ?_
      refine lv_iload_n C.1.1 C.1.2.1 dX6_agrees_3 rfl (lv_at hl 2 rfl) ?_
      refine lv_icmp_ge (tgt := 42) C.1.1 C.1.2.1 dX6_agrees_4 (by decide) (fun h9 => ?_) (fun h9 => ?_)
      · replace hf := (if_pos h9).symm.trans hf
        cases hf
        cases hx
        exact K2_42 _ _ _ _ rfl hW (lv_sub hl [] rfl)
      · replace hf := (if_neg h9).symm.trans hf
        refine lv_iload_n C.1.1 C.1.2.1 dX6_agrees_7 rfl (lv_at hl 3 rfl) ?_
        refine lv_bipush (v := 20) C.1.1 C.1.2.1 dX6_agrees_8 (by decide) ?_
        refine lv_icmp_ge (tgt := 42) C.1.1 C.1.2.1 dX6_agrees_10 (by decide) (fun h9 => ?_) (fun h9 => ?_)
        · replace hf := (if_pos h9).symm.trans hf
          cases hf
          cases hx
          exact K2_42 _ _ _ _ rfl hW (lv_sub hl [] rfl)
        · replace hf := (if_neg h9).symm.trans hf
          refine lv_iload_n C.1.1 C.1.2.1 dX6_agrees_13 rfl (lv_at hl 1 rfl) ?_
          refine lv_aload_n C.1.1 C.1.2.1 dX6_agrees_14 rfl (lv_at hl 0 rfl) ?_
          have hk1 := sh6_14 hW hk_a0
          refine gf6_14 C hW hk_a0 w_419 dX6_agrees_15 ?_
          refine lv_iload_n C.1.1 C.1.2.1 dX6_agrees_18 rfl (lv_at hl 3 rfl) ?_
          obtain ⟨hv2, hf⟩ := gd hf
          refine wai C hW hk1 (vin_p hv2) dX6_agrees_19 ?_
          obtain ⟨⟨r5, σ4⟩, hc3, hf⟩ := bd hf
          try dsimp only at hf
          refine cSi C hW (mX6_bit hc3) ksX6_bit w_683 ⟨(Nat.le_of_ble_eq_true rfl), (Nat.le_of_ble_eq_true rfl)⟩ ⟨Nat.zero_le _, Nat.zero_le _⟩ rfl hl.1 (rest := []) rfl (Nat.le_of_ble_eq_true rfl) dX6_agrees_20 (fun H locs hn6 hW => ?_)
          refine lv_aload_n C.1.1 C.1.2.1 dX6_agrees_23 rfl (lv_at hl 0 rfl) ?_
          refine gf6_15 C hW hk_a0 w_420 dX6_agrees_24 ?_
          refine lv_iload_n C.1.1 C.1.2.1 dX6_agrees_27 rfl (lv_at hl 3 rfl) ?_
          obtain ⟨⟨r10, σ9⟩, hc8, hf⟩ := bd hf
          try dsimp only at hf
          refine cSi C hW (mX6_bit hc8) ksX6_bit w_683 ⟨(Nat.le_of_ble_eq_true rfl), (Nat.le_of_ble_eq_true rfl)⟩ ⟨Nat.zero_le _, Nat.zero_le _⟩ rfl hl.1 (rest := [.int _]) rfl (Nat.le_of_ble_eq_true rfl) dX6_agrees_28 (fun H locs hn11 hW => ?_)
          refine lv_icmp_eq (tgt := 36) C.1.1 C.1.2.1 dX6_agrees_31 (by decide) (fun h9 => ?_) (fun h9 => ?_)
          · replace hf := (if_pos h9).symm.trans hf
            refine lv_iinc (v := _) (lv' := [(3, .int _), (0, .ref _), (1, .int _), (2, .int _)]) C.1.1 C.1.2.1 dX6_agrees_36 hl (k := 3) rfl (ii (k := 1) (by decide)) (by decide) rfl (fun ls hl => ?_)
            refine lv_goto (tgt := 2) C.1.1 C.1.2.1 dX6_agrees_39 (by decide) ?_
            cases hf
            exact ih _ _ _ _ _ _ hx hW (lv_sub hl [1, 2, 3, 0] rfl) K2_34 K2_42
          · replace hf := (if_neg h9).symm.trans hf
            cases hf
            cases hx
            exact K2_34 _ _ _ _ rfl hW (lv_sub hl [] rfl)
  refine lv_iconst (v := 0) C.1.1 C.1.2.1 dX6_agrees_0 (by decide) ?_
  refine lv_istore_n (lv' := [(3, .int _), (0, .ref _), (1, .int _), (2, .int _)]) C.1.1 C.1.2.1 dX6_agrees_1 rfl hl (by decide) rfl (fun ls hl => ?_)
  obtain ⟨o14, ho, hf⟩ := bd hf
  obtain ⟨n, ho⟩ := lp_it ho
  refine L2 n _ _ _ _ _ o14 ho hW (lv_sub hl [1, 2, 3, 0] rfl) ?_ ?_
  · intro  σ15 H locs ls e9 hW hl
    subst e9
    try dsimp only at hf
    refine lv_iconst (v := 0) C.1.1 C.1.2.1 dX6_agrees_34 (by decide) ?_
    exact ri hQ C hr hlk hW hf (rok_z (Or.inl rfl)) dX6_agrees_35
  · intro  σ16 H locs ls e9 hW hl
    subst e9
    try dsimp only at hf
    refine lv_iconst (v := 1) C.1.1 C.1.2.1 dX6_agrees_42 (by decide) ?_
    exact ri hQ C hr hlk hW hf (rok_z (Or.inr rfl)) dX6_agrees_43
theorem kvX6_overslept : KV 6 "RightKeys" yX6_overslept cX6_overslept 5 (some .int) 2 := ⟨⟨w_986, w_987, w_109, w_988⟩, ⟨rfl, by decide, by decide, by decide +kernel⟩, by decide, rfl⟩
noncomputable def jX6_overslept_88 (a0 : Nat) (p1 : Int32) (p2 : Int32) (x4 : Int32) (s0 : Int32) (s1 : Int32) (σ : Sg) : Option ((Int32 × Int32 × Sg) ⊕ (Int32 × Sg)) := (let x3_31 := (s0 ||| s1); let x4_32 := x4 + (1 : Int32); some (Sum.inl (x3_31, x4_32, σ)))
noncomputable def bX6_overslept_26 (a0 : Nat) (p1 : Int32) (p2 : Int32) (x3 : Int32) (x4 : Int32) (σ : Sg) : Option ((Int32 × Int32 × Sg) ⊕ (Int32 × Sg)) := if (σ.1 (σ.2.2.1 a0 3) 0) ≤ x4 then (some (Sum.inr (x3, σ))) else ((fX6_startTrial a0 σ).bind (fun σ8 => (fX2_sendAway (a0 + 40) x4 σ8).bind (fun σ14 => (fX5_follow (a0 + 49) (a0 + 40) (24 : Int32) σ14).bind (fun σ21 => (fX6_agrees a0 (σ21.1 (a0 + 49) 4) p1 σ21).bind (fun q30 => let r28 := q30.1; let σ27 := q30.2; if r28 = 0 then (jX6_overslept_88 a0 p1 p2 x4 x3 (0 : Int32) σ27) else (jX6_overslept_88 a0 p1 p2 x4 x3 ((1 : Int32) <<< (x4 &&& 31)) σ27))))))
noncomputable def fX6_overslept (a0 : Nat) (p1 : Int32) (p2 : Int32) (σ : Sg) : Option (Int32 × Sg) := if p1 < 0 then (some ((-1 : Int32), σ)) else (if (σ.1 a0 16) < p1 then (some ((-1 : Int32), σ)) else ((fX6_isEither p2 σ).bind (fun q5 => let r3 := q5.1; let σ2 := q5.2; if r3 = 0 then (some ((-1 : Int32), σ2)) else ((lp (fun st => bX6_overslept_26 a0 p1 p2 st.1 st.2.1 st.2.2) ((0 : Int32), (0 : Int32), σ2)).bind (fun q41 => let y35 := q41.1; let σ34 := q41.2;  if p2 = 0 then ((fJ6_bitCount_0f7a4 y35 σ34).bind (fun q40 => let r38 := q40.1; let σ37 := q40.2; some (r38, σ37))) else (some (y35, σ34)))))))
set_option maxRecDepth 100000 in
set_option maxHeartbeats 4000000 in
theorem mX6_overslept {l : Launch} {G : Gm} {a0 : Nat} {p1 : Int32} {p2 : Int32} {σ : Sg} {r : Int32} {σ' : Sg} (hk_a0 : gK G a0 = 7) (hf : fX6_overslept a0 p1 p2 σ = some (r, σ')) : Mi l G yX6_overslept cX6_overslept 5 .int 7 178 [.ref (gB G + a0), .int p1, .int p2] σ r σ' := by
  refine of_W "RightKeys" rfl (by decide) (Nat.le_of_ble_eq_true rfl) ?_
  intro p e s m args below meth c Q hQ C hr hlk hW ls hl
  have h00 := hW.1
  have hl : lv_has ls 5 [(0, .ref (gB G + a0)), (1, .int p1), (2, .int p2)] := hl
  delta fX6_overslept at hf
  have L26 : ∀ (n : Nat) (x3 : Int32) (x4 : Int32) (σ : Sg) (H : Heap) (locs : List Loc) (ls : Array Slot) (out : (Int32 × Sg)), iter (fun st => bX6_overslept_26 a0 p1 p2 st.1 st.2.1 st.2.2) n (x3, x4, σ) = some out → Ws G σ s.heap H locs → lv_has ls 5 [(0, .ref (gB G + a0)), (1, .int p1), (2, .int p2), (3, .int x3), (4, .int x4)] → (∀ (y3 : Int32) (σ : Sg) (H : Heap) (locs : List Loc) (ls : Array Slot), out = (y3, σ) → Ws G σ s.heap H locs → lv_has ls 5 [(2, .int p2), (3, .int y3)] → W p l e (rmOf 7 178) s m args below meth c H locs 0 0 Q (F0 m 96 ls [])) → W p l e (rmOf 7 178) s m args below meth c H locs 0 0 Q (F0 m 26 ls []) := by
    intro n
    induction n with
    | zero =>
      intro x3 x4 σ H locs ls out hf
      exact (it_0 hf).elim
    | succ n ih =>
      intro x3 x4 σ H locs ls out hf hW hl K26_96
      obtain ⟨x, hf, hx⟩ := it_s hf
      have hf : bX6_overslept_26 a0 p1 p2 x3 x4 σ = some x := hf
      delta bX6_overslept_26 at hf
      have J88 : ∀ (x4 : Int32) (s0 : Int32) (s1 : Int32) (σ : Sg) (H : Heap) (locs : List Loc) (ls : Array Slot), jX6_overslept_88 a0 p1 p2 x4 s0 s1 σ = some x → Ws G σ s.heap H locs → lv_has ls 5 [(0, .ref (gB G + a0)), (1, .int p1), (2, .int p2), (4, .int x4)] → W p l e (rmOf 7 178) s m args below meth c H locs 0 0 Q (F0 m 88 ls [.int s1, .int s0]) := by
        intro x4 s0 s1 σ H locs ls hf hW hl
        delta jX6_overslept_88 at hf
        refine lv_ior C.1.1 C.1.2.1 dX6_overslept_88 ?_
        refine lv_istore_n (lv' := [(3, .int _), (0, .ref _), (1, .int _), (2, .int _), (4, .int _)]) C.1.1 C.1.2.1 dX6_overslept_89 rfl hl (by decide) rfl (fun ls hl => ?_)
        refine lv_iinc (v := _) (lv' := [(4, .int _), (3, .int _), (0, .ref _), (1, .int _), (2, .int _)]) C.1.1 C.1.2.1 dX6_overslept_90 hl (k := 4) rfl (ii (k := 1) (by decide)) (by decide) rfl (fun ls hl => ?_)
        refine lv_goto (tgt := 26) C.1.1 C.1.2.1 dX6_overslept_93 (by decide) ?_
        cases hf
        exact ih _ _ _ _ _ _ _ hx hW (lv_sub hl [2, 3, 4, 1, 0] rfl) K26_96
      refine lv_iload C.1.1 C.1.2.1 dX6_overslept_26 (lv_at hl 4 rfl) ?_
      refine lv_aload_n C.1.1 C.1.2.1 dX6_overslept_28 rfl (lv_at hl 0 rfl) ?_
      have hk6 := sh6_3 hW hk_a0
      refine gf6_3 C hW hk_a0 w_408 dX6_overslept_29 ?_
      refine gf3_0 C hW hk6 w_182 dX6_overslept_32 ?_
      refine lv_icmp_ge (tgt := 96) C.1.1 C.1.2.1 dX6_overslept_35 (by decide) (fun h9 => ?_) (fun h9 => ?_)
      · replace hf := (if_pos h9).symm.trans hf
        cases hf
        cases hx
        exact K26_96 _ _ _ _ _ rfl hW (lv_sub hl [2, 3] rfl)
      · replace hf := (if_neg h9).symm.trans hf
        refine lv_aload_n C.1.1 C.1.2.1 dX6_overslept_38 rfl (lv_at hl 0 rfl) ?_
        obtain ⟨σ8, hc7, hf⟩ := bd hf
        try dsimp only at hf
        refine cVv C hW (mX6_startTrial hk_a0 hc7) hk_a0 kvX6_startTrial w_876 ⟨(Nat.le_of_ble_eq_true rfl), (Nat.le_of_ble_eq_true rfl)⟩ ⟨Nat.zero_le _, Nat.zero_le _⟩ rfl hl.1 (rest := []) rfl (Nat.le_of_ble_eq_true rfl) dX6_overslept_39 (fun H locs hW => ?_)
        refine lv_aload_n C.1.1 C.1.2.1 dX6_overslept_42 rfl (lv_at hl 0 rfl) ?_
        have hk12 := sh6_7 hW hk_a0
        refine gf6_7 C hW hk_a0 w_412 dX6_overslept_43 ?_
        refine lv_iload C.1.1 C.1.2.1 dX6_overslept_46 (lv_at hl 4 rfl) ?_
        obtain ⟨σ14, hc13, hf⟩ := bd hf
        try dsimp only at hf
        refine cVv C hW (mX2_sendAway hk12 hc13) hk12 kvX2_sendAway w_942 ⟨(Nat.le_of_ble_eq_true rfl), (Nat.le_of_ble_eq_true rfl)⟩ ⟨Nat.zero_le _, Nat.zero_le _⟩ rfl hl.1 (rest := []) rfl (Nat.le_of_ble_eq_true rfl) dX6_overslept_48 (fun H locs hW => ?_)
        refine lv_aload_n C.1.1 C.1.2.1 dX6_overslept_51 rfl (lv_at hl 0 rfl) ?_
        have hk18 := sh6_8 hW hk_a0
        refine gf6_8 C hW hk_a0 w_413 dX6_overslept_52 ?_
        refine lv_aload_n C.1.1 C.1.2.1 dX6_overslept_55 rfl (lv_at hl 0 rfl) ?_
        have hk19 := sh6_7 hW hk_a0
        refine gf6_7 C hW hk_a0 w_412 dX6_overslept_56 ?_
        refine lv_bipush (v := 24) C.1.1 C.1.2.1 dX6_overslept_59 (by decide) ?_
        obtain ⟨σ21, hc20, hf⟩ := bd hf
        try dsimp only at hf
        refine cVv C hW (mX5_follow hk18 hk19 hc20) hk18 kvX5_follow w_880 ⟨(Nat.le_of_ble_eq_true rfl), (Nat.le_of_ble_eq_true rfl)⟩ ⟨Nat.zero_le _, Nat.zero_le _⟩ rfl hl.1 (rest := []) rfl (Nat.le_of_ble_eq_true rfl) dX6_overslept_61 (fun H locs hW => ?_)
        refine lv_iload_n C.1.1 C.1.2.1 dX6_overslept_64 rfl (lv_at hl 3 rfl) ?_
        refine lv_aload_n C.1.1 C.1.2.1 dX6_overslept_65 rfl (lv_at hl 0 rfl) ?_
        refine lv_aload_n C.1.1 C.1.2.1 dX6_overslept_66 rfl (lv_at hl 0 rfl) ?_
        have hk25 := sh6_8 hW hk_a0
        refine gf6_8 C hW hk_a0 w_413 dX6_overslept_67 ?_
        refine gf5_4 C hW hk25 w_392 dX6_overslept_70 ?_
        refine lv_iload_n C.1.1 C.1.2.1 dX6_overslept_73 rfl (lv_at hl 1 rfl) ?_
        obtain ⟨⟨r28, σ27⟩, hc26, hf⟩ := bd hf
        try dsimp only at hf
        refine cVi C hW (mX6_agrees hk_a0 hc26) hk_a0 kvX6_agrees w_989 ⟨(Nat.le_of_ble_eq_true rfl), (Nat.le_of_ble_eq_true rfl)⟩ ⟨Nat.zero_le _, Nat.zero_le _⟩ rfl hl.1 (rest := [.int _]) rfl (Nat.le_of_ble_eq_true rfl) dX6_overslept_74 (fun H locs hn29 hW => ?_)
        refine lv_if_eq (tgt := 87) C.1.1 C.1.2.1 dX6_overslept_77 (by decide) (fun h9 => ?_) (fun h9 => ?_)
        · replace hf := (if_pos h9).symm.trans hf
          refine lv_iconst (v := 0) C.1.1 C.1.2.1 dX6_overslept_87 (by decide) ?_
          exact J88 _ _ _ _ _ _ _ hf hW (lv_sub hl [0, 1, 2, 4] rfl)
        · replace hf := (if_neg h9).symm.trans hf
          refine lv_iconst (v := 1) C.1.1 C.1.2.1 dX6_overslept_80 (by decide) ?_
          refine lv_iload C.1.1 C.1.2.1 dX6_overslept_81 (lv_at hl 4 rfl) ?_
          refine lv_ishl C.1.1 C.1.2.1 dX6_overslept_83 ?_
          refine lv_goto (tgt := 88) C.1.1 C.1.2.1 dX6_overslept_84 (by decide) ?_
          exact J88 _ _ _ _ _ _ _ hf hW (lv_sub hl [0, 1, 2, 4] rfl)
  refine lv_iload_n C.1.1 C.1.2.1 dX6_overslept_0 rfl (lv_at hl 1 rfl) ?_
  refine lv_if_lt (tgt := 19) C.1.1 C.1.2.1 dX6_overslept_1 (by decide) (fun h9 => ?_) (fun h9 => ?_)
  · replace hf := (if_pos h9).symm.trans hf
    refine lv_iconst (v := (-1)) C.1.1 C.1.2.1 dX6_overslept_19 (by decide) ?_
    exact ri hQ C hr hlk hW hf (rok_i _) dX6_overslept_20
  · replace hf := (if_neg h9).symm.trans hf
    refine lv_iload_n C.1.1 C.1.2.1 dX6_overslept_4 rfl (lv_at hl 1 rfl) ?_
    refine lv_aload_n C.1.1 C.1.2.1 dX6_overslept_5 rfl (lv_at hl 0 rfl) ?_
    refine gf6_16 C hW hk_a0 w_421 dX6_overslept_6 ?_
    refine lv_icmp_gt (tgt := 19) C.1.1 C.1.2.1 dX6_overslept_9 (by decide) (fun h9 => ?_) (fun h9 => ?_)
    · replace hf := (if_pos h9).symm.trans hf
      refine lv_iconst (v := (-1)) C.1.1 C.1.2.1 dX6_overslept_19 (by decide) ?_
      exact ri hQ C hr hlk hW hf (rok_i _) dX6_overslept_20
    · replace hf := (if_neg h9).symm.trans hf
      refine lv_iload_n C.1.1 C.1.2.1 dX6_overslept_12 rfl (lv_at hl 2 rfl) ?_
      obtain ⟨⟨r3, σ2⟩, hc1, hf⟩ := bd hf
      try dsimp only at hf
      refine cSi C hW (mX6_isEither hc1) ksX6_isEither w_904 ⟨(Nat.le_of_ble_eq_true rfl), (Nat.le_of_ble_eq_true rfl)⟩ ⟨Nat.zero_le _, Nat.zero_le _⟩ rfl hl.1 (rest := []) rfl (Nat.le_of_ble_eq_true rfl) dX6_overslept_13 (fun H locs hn4 hW => ?_)
      refine lv_if_ne (tgt := 21) C.1.1 C.1.2.1 dX6_overslept_16 (by decide) (fun h9 => ?_) (fun h9 => ?_)
      · replace hf := (if_neg h9).symm.trans hf
        refine lv_iconst (v := 0) C.1.1 C.1.2.1 dX6_overslept_21 (by decide) ?_
        refine lv_istore_n (lv' := [(3, .int _), (0, .ref _), (1, .int _), (2, .int _)]) C.1.1 C.1.2.1 dX6_overslept_22 rfl hl (by decide) rfl (fun ls hl => ?_)
        refine lv_iconst (v := 0) C.1.1 C.1.2.1 dX6_overslept_23 (by decide) ?_
        refine lv_istore (lv' := [(4, .int _), (3, .int _), (0, .ref _), (1, .int _), (2, .int _)]) C.1.1 C.1.2.1 dX6_overslept_24 hl (by decide) rfl (fun ls hl => ?_)
        obtain ⟨o33, ho, hf⟩ := bd hf
        obtain ⟨n, ho⟩ := lp_it ho
        refine L26 n _ _ _ _ _ _ o33 ho hW (lv_sub hl [2, 3, 4, 1, 0] rfl) ?_
        intro y35 σ34 H locs ls e9 hW hl
        subst e9
        try dsimp only at hf
        refine lv_iload_n C.1.1 C.1.2.1 dX6_overslept_96 rfl (lv_at hl 0 rfl) ?_
        refine lv_if_ne (tgt := 107) C.1.1 C.1.2.1 dX6_overslept_97 (by decide) (fun h9 => ?_) (fun h9 => ?_)
        · replace hf := (if_neg h9).symm.trans hf
          refine lv_iload_n C.1.1 C.1.2.1 dX6_overslept_107 rfl (lv_at hl 1 rfl) ?_
          exact ri hQ C hr hlk hW hf (rok_i _) dX6_overslept_108
        · replace hf := (if_pos h9).symm.trans hf
          refine lv_iload_n C.1.1 C.1.2.1 dX6_overslept_100 rfl (lv_at hl 1 rfl) ?_
          obtain ⟨⟨r38, σ37⟩, hc36, hf⟩ := bd hf
          try dsimp only at hf
          refine cSi C hW (mJ6_bitCount_0f7a4 hc36) ksJ6_bitCount_0f7a4 w_762 ⟨(Nat.le_of_ble_eq_true rfl), (Nat.le_of_ble_eq_true rfl)⟩ ⟨Nat.zero_le _, Nat.zero_le _⟩ rfl hl.1 (rest := []) rfl (Nat.le_of_ble_eq_true rfl) dX6_overslept_101 (fun H locs hn39 hW => ?_)
          refine lv_goto (tgt := 108) C.1.1 C.1.2.1 dX6_overslept_104 (by decide) ?_
          exact ri hQ C hr hlk hW hf (rok_i _) dX6_overslept_108
      · replace hf := (if_pos h9).symm.trans hf
        refine lv_iconst (v := (-1)) C.1.1 C.1.2.1 dX6_overslept_19 (by decide) ?_
        exact ri hQ C hr hlk hW hf (rok_i _) dX6_overslept_20
theorem kvX6_countStood : KV 6 "RightKeys" yX6_countStood cX6_countStood 5 (some .int) 2 := ⟨⟨w_1003, w_42, w_109, w_1004⟩, ⟨rfl, by decide, by decide, by decide +kernel⟩, by decide, rfl⟩
noncomputable def jX6_countStood_41 (a0 : Nat) (p1 : Int32) (p2 : Int32) (x3 : Int32) (x4 : Int32) (σ : Sg) : Option ((Int32 × Int32 × Sg) ⊕ (Int32 × Sg)) := (let x4_7 := x4 + (1 : Int32); some (Sum.inl (x3, x4_7, σ)))
noncomputable def bX6_countStood_5 (a0 : Nat) (p1 : Int32) (p2 : Int32) (x3 : Int32) (x4 : Int32) (σ : Sg) : Option ((Int32 × Int32 × Sg) ⊕ (Int32 × Sg)) := if (σ.1 (σ.2.2.1 a0 3) 0) ≤ x4 then (some (Sum.inr (x3, σ))) else ((fX6_bit p1 x4 σ).bind (fun q6 => let r4 := q6.1; let σ3 := q6.2; if r4 = (1 : Int32) then (if vin x4 8 then ((fX6_bit (σ3.1 (a0 + 54) ((x4).toNatClampNeg)) p2 σ3).bind (fun q14 => let r12 := q14.1; let σ11 := q14.2; (let x3_15 := (x3 + r12); jX6_countStood_41 a0 p1 p2 x3_15 x4 σ11))) else none) else (jX6_countStood_41 a0 p1 p2 x3 x4 σ3)))
noncomputable def fX6_countStood (a0 : Nat) (p1 : Int32) (p2 : Int32) (σ : Sg) : Option (Int32 × Sg) := (lp (fun st => bX6_countStood_5 a0 p1 p2 st.1 st.2.1 st.2.2) ((0 : Int32), (0 : Int32), σ)).bind (fun q19 => let y18 := q19.1; let σ17 := q19.2;  some (y18, σ17))
set_option maxRecDepth 100000 in
set_option maxHeartbeats 4000000 in
theorem mX6_countStood {l : Launch} {G : Gm} {a0 : Nat} {p1 : Int32} {p2 : Int32} {σ : Sg} {r : Int32} {σ' : Sg} (hk_a0 : gK G a0 = 7) (hf : fX6_countStood a0 p1 p2 σ = some (r, σ')) : Mi l G yX6_countStood cX6_countStood 5 .int 1 21 [.ref (gB G + a0), .int p1, .int p2] σ r σ' := by
  refine of_W "RightKeys" rfl (by decide) (Nat.le_of_ble_eq_true rfl) ?_
  intro p e s m args below meth c Q hQ C hr hlk hW ls hl
  have h00 := hW.1
  have hl : lv_has ls 5 [(0, .ref (gB G + a0)), (1, .int p1), (2, .int p2)] := hl
  delta fX6_countStood at hf
  have L5 : ∀ (n : Nat) (x3 : Int32) (x4 : Int32) (σ : Sg) (H : Heap) (locs : List Loc) (ls : Array Slot) (out : (Int32 × Sg)), iter (fun st => bX6_countStood_5 a0 p1 p2 st.1 st.2.1 st.2.2) n (x3, x4, σ) = some out → Ws G σ s.heap H locs → lv_has ls 5 [(0, .ref (gB G + a0)), (1, .int p1), (2, .int p2), (3, .int x3), (4, .int x4)] → (∀ (y3 : Int32) (σ : Sg) (H : Heap) (locs : List Loc) (ls : Array Slot), out = (y3, σ) → Ws G σ s.heap H locs → lv_has ls 5 [(3, .int y3)] → W p l e (rmOf 1 21) s m args below meth c H locs 0 0 Q (F0 m 47 ls [])) → W p l e (rmOf 1 21) s m args below meth c H locs 0 0 Q (F0 m 5 ls []) := by
    intro n
    induction n with
    | zero =>
      intro x3 x4 σ H locs ls out hf
      exact (it_0 hf).elim
    | succ n ih =>
      intro x3 x4 σ H locs ls out hf hW hl K5_47
      obtain ⟨x, hf, hx⟩ := it_s hf
      have hf : bX6_countStood_5 a0 p1 p2 x3 x4 σ = some x := hf
      delta bX6_countStood_5 at hf
      have J41 : ∀ (x3 : Int32) (x4 : Int32) (σ : Sg) (H : Heap) (locs : List Loc) (ls : Array Slot), jX6_countStood_41 a0 p1 p2 x3 x4 σ = some x → Ws G σ s.heap H locs → lv_has ls 5 [(0, .ref (gB G + a0)), (1, .int p1), (2, .int p2), (3, .int x3), (4, .int x4)] → W p l e (rmOf 1 21) s m args below meth c H locs 0 0 Q (F0 m 41 ls []) := by
        intro x3 x4 σ H locs ls hf hW hl
        delta jX6_countStood_41 at hf
        refine lv_iinc (v := _) (lv' := [(4, .int _), (0, .ref _), (1, .int _), (2, .int _), (3, .int _)]) C.1.1 C.1.2.1 dX6_countStood_41 hl (k := 4) rfl (ii (k := 1) (by decide)) (by decide) rfl (fun ls hl => ?_)
        refine lv_goto (tgt := 5) C.1.1 C.1.2.1 dX6_countStood_44 (by decide) ?_
        cases hf
        exact ih _ _ _ _ _ _ _ hx hW (lv_sub hl [1, 2, 3, 4, 0] rfl) K5_47
      refine lv_iload C.1.1 C.1.2.1 dX6_countStood_5 (lv_at hl 4 rfl) ?_
      refine lv_aload_n C.1.1 C.1.2.1 dX6_countStood_7 rfl (lv_at hl 0 rfl) ?_
      have hk1 := sh6_3 hW hk_a0
      refine gf6_3 C hW hk_a0 w_408 dX6_countStood_8 ?_
      refine gf3_0 C hW hk1 w_182 dX6_countStood_11 ?_
      refine lv_icmp_ge (tgt := 47) C.1.1 C.1.2.1 dX6_countStood_14 (by decide) (fun h9 => ?_) (fun h9 => ?_)
      · replace hf := (if_pos h9).symm.trans hf
        cases hf
        cases hx
        exact K5_47 _ _ _ _ _ rfl hW (lv_sub hl [3] rfl)
      · replace hf := (if_neg h9).symm.trans hf
        refine lv_iload_n C.1.1 C.1.2.1 dX6_countStood_17 rfl (lv_at hl 1 rfl) ?_
        refine lv_iload C.1.1 C.1.2.1 dX6_countStood_18 (lv_at hl 4 rfl) ?_
        obtain ⟨⟨r4, σ3⟩, hc2, hf⟩ := bd hf
        try dsimp only at hf
        refine cSi C hW (mX6_bit hc2) ksX6_bit w_683 ⟨(Nat.le_of_ble_eq_true rfl), (Nat.le_of_ble_eq_true rfl)⟩ ⟨Nat.zero_le _, Nat.zero_le _⟩ rfl hl.1 (rest := []) rfl (Nat.le_of_ble_eq_true rfl) dX6_countStood_20 (fun H locs hn5 hW => ?_)
        refine lv_iconst (v := 1) C.1.1 C.1.2.1 dX6_countStood_23 (by decide) ?_
        refine lv_icmp_ne (tgt := 41) C.1.1 C.1.2.1 dX6_countStood_24 (by decide) (fun h9 => ?_) (fun h9 => ?_)
        · replace hf := (if_neg h9).symm.trans hf
          exact J41 _ _ _ _ _ _ hf hW (lv_sub hl [0, 1, 2, 3, 4] rfl)
        · replace hf := (if_pos h9).symm.trans hf
          refine lv_iload_n C.1.1 C.1.2.1 dX6_countStood_27 rfl (lv_at hl 3 rfl) ?_
          refine lv_aload_n C.1.1 C.1.2.1 dX6_countStood_28 rfl (lv_at hl 0 rfl) ?_
          have hk8 := sh6_17 hW hk_a0
          refine gf6_17 C hW hk_a0 w_422 dX6_countStood_29 ?_
          refine lv_iload C.1.1 C.1.2.1 dX6_countStood_32 (lv_at hl 4 rfl) ?_
          obtain ⟨hv9, hf⟩ := gd hf
          refine wai C hW hk8 (vin_p hv9) dX6_countStood_34 ?_
          refine lv_iload_n C.1.1 C.1.2.1 dX6_countStood_35 rfl (lv_at hl 2 rfl) ?_
          obtain ⟨⟨r12, σ11⟩, hc10, hf⟩ := bd hf
          try dsimp only at hf
          refine cSi C hW (mX6_bit hc10) ksX6_bit w_683 ⟨(Nat.le_of_ble_eq_true rfl), (Nat.le_of_ble_eq_true rfl)⟩ ⟨Nat.zero_le _, Nat.zero_le _⟩ rfl hl.1 (rest := [.int _]) rfl (Nat.le_of_ble_eq_true rfl) dX6_countStood_36 (fun H locs hn13 hW => ?_)
          refine lv_iadd C.1.1 C.1.2.1 dX6_countStood_39 ?_
          refine lv_istore_n (lv' := [(3, .int _), (0, .ref _), (1, .int _), (2, .int _), (4, .int _)]) C.1.1 C.1.2.1 dX6_countStood_40 rfl hl (by decide) rfl (fun ls hl => ?_)
          exact J41 _ _ _ _ _ _ hf hW (lv_sub hl [1, 2, 3, 0, 4] rfl)
  refine lv_iconst (v := 0) C.1.1 C.1.2.1 dX6_countStood_0 (by decide) ?_
  refine lv_istore_n (lv' := [(3, .int _), (0, .ref _), (1, .int _), (2, .int _)]) C.1.1 C.1.2.1 dX6_countStood_1 rfl hl (by decide) rfl (fun ls hl => ?_)
  refine lv_iconst (v := 0) C.1.1 C.1.2.1 dX6_countStood_2 (by decide) ?_
  refine lv_istore (lv' := [(4, .int _), (3, .int _), (0, .ref _), (1, .int _), (2, .int _)]) C.1.1 C.1.2.1 dX6_countStood_3 hl (by decide) rfl (fun ls hl => ?_)
  obtain ⟨o16, ho, hf⟩ := bd hf
  obtain ⟨n, ho⟩ := lp_it ho
  refine L5 n _ _ _ _ _ _ o16 ho hW (lv_sub hl [2, 3, 4, 1, 0] rfl) ?_
  intro y18 σ17 H locs ls e9 hW hl
  subst e9
  try dsimp only at hf
  refine lv_iload_n C.1.1 C.1.2.1 dX6_countStood_47 rfl (lv_at hl 0 rfl) ?_
  exact ri hQ C hr hlk hW hf (rok_i _) dX6_countStood_48
theorem kvX6_bestToAsk : KV 6 "RightKeys" yX6_bestToAsk cX6_bestToAsk 8 (some .int) 1 := ⟨⟨w_999, w_41, w_109, w_1000⟩, ⟨rfl, by decide, by decide, by decide +kernel⟩, by decide, rfl⟩
noncomputable def jX6_bestToAsk_59 (a0 : Nat) (p1 : Int32) (x4 : Int32) (x2 : Int32) (x3 : Int32) (x5 : Int32) (σ : Sg) : Option ((Int32 × Int32 × Int32 × Sg) ⊕ (Int32 × Sg)) := (let x5_13 := x5 + (1 : Int32); some (Sum.inl (x2, x3, x5_13, σ)))
noncomputable def bX6_bestToAsk_14 (a0 : Nat) (p1 : Int32) (x4 : Int32) (x2 : Int32) (x3 : Int32) (x5 : Int32) (σ : Sg) : Option ((Int32 × Int32 × Int32 × Sg) ⊕ (Int32 × Sg)) := if (σ.1 (σ.2.2.1 a0 3) 0) ≤ x5 then (some (Sum.inr (x2, σ))) else ((fX6_countStood a0 p1 x5 σ).bind (fun q11 => let r9 := q11.1; let σ8 := q11.2; (let x7_12 := (imax r9 (x4 - r9)); if x3 ≤ x7_12 then (jX6_bestToAsk_59 a0 p1 x4 x2 x3 x5 σ8) else (jX6_bestToAsk_59 a0 p1 x4 x5 x7_12 x5 σ8))))
noncomputable def fX6_bestToAsk (a0 : Nat) (p1 : Int32) (σ : Sg) : Option (Int32 × Sg) := (fJ6_bitCount_0f7a4 p1 σ).bind (fun q5 => let r3 := q5.1; let σ2 := q5.2; (lp (fun st => bX6_bestToAsk_14 a0 p1 r3 st.1 st.2.1 st.2.2.1 st.2.2.2) ((0 : Int32), (1000000 : Int32), (0 : Int32), σ2)).bind (fun q17 => let y16 := q17.1; let σ15 := q17.2;  some (y16, σ15)))
set_option maxRecDepth 100000 in
set_option maxHeartbeats 4000000 in
theorem mX6_bestToAsk {l : Launch} {G : Gm} {a0 : Nat} {p1 : Int32} {σ : Sg} {r : Int32} {σ' : Sg} (hk_a0 : gK G a0 = 7) (hf : fX6_bestToAsk a0 p1 σ = some (r, σ')) : Mi l G yX6_bestToAsk cX6_bestToAsk 8 .int 2 45 [.ref (gB G + a0), .int p1] σ r σ' := by
  refine of_W "RightKeys" rfl (by decide) (Nat.le_of_ble_eq_true rfl) ?_
  intro p e s m args below meth c Q hQ C hr hlk hW ls hl
  have h00 := hW.1
  have hl : lv_has ls 8 [(0, .ref (gB G + a0)), (1, .int p1)] := hl
  delta fX6_bestToAsk at hf
  have L14 : ∀ (x4 : Int32) (n : Nat) (x2 : Int32) (x3 : Int32) (x5 : Int32) (σ : Sg) (H : Heap) (locs : List Loc) (ls : Array Slot) (out : (Int32 × Sg)), iter (fun st => bX6_bestToAsk_14 a0 p1 x4 st.1 st.2.1 st.2.2.1 st.2.2.2) n (x2, x3, x5, σ) = some out → Ws G σ s.heap H locs → lv_has ls 8 [(0, .ref (gB G + a0)), (1, .int p1), (2, .int x2), (3, .int x3), (4, .int x4), (5, .int x5)] → (∀ (y2 : Int32) (σ : Sg) (H : Heap) (locs : List Loc) (ls : Array Slot), out = (y2, σ) → Ws G σ s.heap H locs → lv_has ls 8 [(2, .int y2)] → W p l e (rmOf 2 45) s m args below meth c H locs 0 0 Q (F0 m 65 ls [])) → W p l e (rmOf 2 45) s m args below meth c H locs 0 0 Q (F0 m 14 ls []) := by
    intro x4 n
    induction n with
    | zero =>
      intro x2 x3 x5 σ H locs ls out hf
      exact (it_0 hf).elim
    | succ n ih =>
      intro x2 x3 x5 σ H locs ls out hf hW hl K14_65
      obtain ⟨x, hf, hx⟩ := it_s hf
      have hf : bX6_bestToAsk_14 a0 p1 x4 x2 x3 x5 σ = some x := hf
      delta bX6_bestToAsk_14 at hf
      have J59 : ∀ (x2 : Int32) (x3 : Int32) (x5 : Int32) (σ : Sg) (H : Heap) (locs : List Loc) (ls : Array Slot), jX6_bestToAsk_59 a0 p1 x4 x2 x3 x5 σ = some x → Ws G σ s.heap H locs → lv_has ls 8 [(0, .ref (gB G + a0)), (1, .int p1), (2, .int x2), (3, .int x3), (4, .int x4), (5, .int x5)] → W p l e (rmOf 2 45) s m args below meth c H locs 0 0 Q (F0 m 59 ls []) := by
        intro x2 x3 x5 σ H locs ls hf hW hl
        delta jX6_bestToAsk_59 at hf
        refine lv_iinc (v := _) (lv' := [(5, .int _), (0, .ref _), (1, .int _), (2, .int _), (3, .int _), (4, .int _)]) C.1.1 C.1.2.1 dX6_bestToAsk_59 hl (k := 5) rfl (ii (k := 1) (by decide)) (by decide) rfl (fun ls hl => ?_)
        refine lv_goto (tgt := 14) C.1.1 C.1.2.1 dX6_bestToAsk_62 (by decide) ?_
        cases hf
        exact ih _ _ _ _ _ _ _ _ hx hW (lv_sub hl [1, 2, 3, 4, 5, 0] rfl) K14_65
      refine lv_iload C.1.1 C.1.2.1 dX6_bestToAsk_14 (lv_at hl 5 rfl) ?_
      refine lv_aload_n C.1.1 C.1.2.1 dX6_bestToAsk_16 rfl (lv_at hl 0 rfl) ?_
      have hk6 := sh6_3 hW hk_a0
      refine gf6_3 C hW hk_a0 w_408 dX6_bestToAsk_17 ?_
      refine gf3_0 C hW hk6 w_182 dX6_bestToAsk_20 ?_
      refine lv_icmp_ge (tgt := 65) C.1.1 C.1.2.1 dX6_bestToAsk_23 (by decide) (fun h9 => ?_) (fun h9 => ?_)
      · replace hf := (if_pos h9).symm.trans hf
        cases hf
        cases hx
        exact K14_65 _ _ _ _ _ rfl hW (lv_sub hl [2] rfl)
      · replace hf := (if_neg h9).symm.trans hf
        refine lv_aload_n C.1.1 C.1.2.1 dX6_bestToAsk_26 rfl (lv_at hl 0 rfl) ?_
        refine lv_iload_n C.1.1 C.1.2.1 dX6_bestToAsk_27 rfl (lv_at hl 1 rfl) ?_
        refine lv_iload C.1.1 C.1.2.1 dX6_bestToAsk_28 (lv_at hl 5 rfl) ?_
        obtain ⟨⟨r9, σ8⟩, hc7, hf⟩ := bd hf
        try dsimp only at hf
        refine cVi C hW (mX6_countStood hk_a0 hc7) hk_a0 kvX6_countStood w_1001 ⟨(Nat.le_of_ble_eq_true rfl), (Nat.le_of_ble_eq_true rfl)⟩ ⟨Nat.zero_le _, Nat.zero_le _⟩ rfl hl.1 (rest := []) rfl (Nat.le_of_ble_eq_true rfl) dX6_bestToAsk_30 (fun H locs hn10 hW => ?_)
        refine lv_istore (lv' := [(6, .int _), (0, .ref _), (1, .int _), (2, .int _), (3, .int _), (4, .int _), (5, .int _)]) C.1.1 C.1.2.1 dX6_bestToAsk_33 hl (by decide) rfl (fun ls hl => ?_)
        refine lv_iload C.1.1 C.1.2.1 dX6_bestToAsk_35 (lv_at hl 0 rfl) ?_
        refine lv_iload C.1.1 C.1.2.1 dX6_bestToAsk_37 (lv_at hl 5 rfl) ?_
        refine lv_iload C.1.1 C.1.2.1 dX6_bestToAsk_39 (lv_at hl 0 rfl) ?_
        refine lv_isub C.1.1 C.1.2.1 dX6_bestToAsk_41 ?_
        refine cMax C w_1005 w_703 w_121 w_704 hl.1 (Nat.le_of_ble_eq_true rfl) (Nat.le_of_ble_eq_true rfl) ⟨Nat.zero_le _, Nat.zero_le _⟩ dX6_bestToAsk_42 ?_
        refine lv_istore (lv' := [(7, .int _), (6, .int _), (0, .ref _), (1, .int _), (2, .int _), (3, .int _), (4, .int _), (5, .int _)]) C.1.1 C.1.2.1 dX6_bestToAsk_45 hl (by decide) rfl (fun ls hl => ?_)
        refine lv_iload C.1.1 C.1.2.1 dX6_bestToAsk_47 (lv_at hl 0 rfl) ?_
        refine lv_iload_n C.1.1 C.1.2.1 dX6_bestToAsk_49 rfl (lv_at hl 5 rfl) ?_
        refine lv_icmp_ge (tgt := 59) C.1.1 C.1.2.1 dX6_bestToAsk_50 (by decide) (fun h9 => ?_) (fun h9 => ?_)
        · replace hf := (if_pos h9).symm.trans hf
          exact J59 _ _ _ _ _ _ _ hf hW (lv_sub hl [2, 3, 4, 5, 6, 7] rfl)
        · replace hf := (if_neg h9).symm.trans hf
          refine lv_iload C.1.1 C.1.2.1 dX6_bestToAsk_53 (lv_at hl 0 rfl) ?_
          refine lv_istore_n (lv' := [(3, .int _), (7, .int _), (6, .int _), (0, .ref _), (1, .int _), (2, .int _), (4, .int _), (5, .int _)]) C.1.1 C.1.2.1 dX6_bestToAsk_55 rfl hl (by decide) rfl (fun ls hl => ?_)
          refine lv_iload C.1.1 C.1.2.1 dX6_bestToAsk_56 (lv_at hl 7 rfl) ?_
          refine lv_istore_n (lv' := [(2, .int _), (3, .int _), (7, .int _), (6, .int _), (0, .ref _), (1, .int _), (4, .int _), (5, .int _)]) C.1.1 C.1.2.1 dX6_bestToAsk_58 rfl hl (by decide) rfl (fun ls hl => ?_)
          exact J59 _ _ _ _ _ _ _ hf hW (lv_sub hl [4, 5, 0, 1, 6, 7] rfl)
  refine lv_iconst (v := 0) C.1.1 C.1.2.1 dX6_bestToAsk_0 (by decide) ?_
  refine lv_istore_n (lv' := [(2, .int _), (0, .ref _), (1, .int _)]) C.1.1 C.1.2.1 dX6_bestToAsk_1 rfl hl (by decide) rfl (fun ls hl => ?_)
  refine lv_ldc (v := 1000000) C.1.1 C.1.2.1 C.1.2.2.2.1 (C.w w_911) dX6_bestToAsk_2 ?_
  refine lv_istore_n (lv' := [(3, .int _), (2, .int _), (0, .ref _), (1, .int _)]) C.1.1 C.1.2.1 dX6_bestToAsk_4 rfl hl (by decide) rfl (fun ls hl => ?_)
  refine lv_iload_n C.1.1 C.1.2.1 dX6_bestToAsk_5 rfl (lv_at hl 3 rfl) ?_
  obtain ⟨⟨r3, σ2⟩, hc1, hf⟩ := bd hf
  try dsimp only at hf
  refine cSi C hW (mJ6_bitCount_0f7a4 hc1) ksJ6_bitCount_0f7a4 w_762 ⟨(Nat.le_of_ble_eq_true rfl), (Nat.le_of_ble_eq_true rfl)⟩ ⟨Nat.zero_le _, Nat.zero_le _⟩ rfl hl.1 (rest := []) rfl (Nat.le_of_ble_eq_true rfl) dX6_bestToAsk_6 (fun H locs hn4 hW => ?_)
  refine lv_istore (lv' := [(4, .int _), (3, .int _), (2, .int _), (0, .ref _), (1, .int _)]) C.1.1 C.1.2.1 dX6_bestToAsk_9 hl (by decide) rfl (fun ls hl => ?_)
  refine lv_iconst (v := 0) C.1.1 C.1.2.1 dX6_bestToAsk_11 (by decide) ?_
  refine lv_istore (lv' := [(5, .int _), (4, .int _), (3, .int _), (2, .int _), (0, .ref _), (1, .int _)]) C.1.1 C.1.2.1 dX6_bestToAsk_12 hl (by decide) rfl (fun ls hl => ?_)
  obtain ⟨o14, ho, hf⟩ := bd hf
  obtain ⟨n, ho⟩ := lp_it ho
  refine L14 _ n _ _ _ _ _ _ _ o14 ho hW (lv_sub hl [4, 5, 3, 2, 1, 0] rfl) ?_
  intro y16 σ15 H locs ls e9 hW hl
  subst e9
  try dsimp only at hf
  refine lv_iload_n C.1.1 C.1.2.1 dX6_bestToAsk_65 rfl (lv_at hl 0 rfl) ?_
  exact ri hQ C hr hlk hW hf (rok_i _) dX6_bestToAsk_66
theorem kvX6_ask : KV 6 "RightKeys" yX6_ask cX6_ask 4 (some .int) 1 := ⟨⟨w_994, w_995, w_109, w_996⟩, ⟨rfl, by decide, by decide, by decide +kernel⟩, by decide, rfl⟩
noncomputable def jX6_ask_90 (a0 : Nat) (p1 : Int32) (x3 : Int32) (s0 : Int32) (s1 : Int32) (σ : Sg) : Option ((Int32 × Int32 × Sg) ⊕ (Int32 × Sg)) := (let x2_30 := (s0 ||| s1); let x3_31 := x3 + (1 : Int32); some (Sum.inl (x2_30, x3_31, σ)))
noncomputable def bX6_ask_18 (a0 : Nat) (p1 : Int32) (x2 : Int32) (x3 : Int32) (σ : Sg) : Option ((Int32 × Int32 × Sg) ⊕ (Int32 × Sg)) := if (σ.1 (σ.2.2.1 a0 3) 0) ≤ x3 then (some (Sum.inr (x2, σ))) else ((fX6_startTrial a0 σ).bind (fun σ3 => (fX2_sendAway (a0 + 40) x3 σ3).bind (fun σ9 => (fX5_follow (a0 + 49) (a0 + 40) (24 : Int32) σ9).bind (fun σ16 => if vin x3 8 then (let σ23 := wI σ16 (a0 + 54) ((x3).toNatClampNeg) (σ16.1 (a0 + 49) 4); (fX6_agrees a0 (σ23.1 (a0 + 49) 4) p1 σ23).bind (fun q29 => let r27 := q29.1; let σ26 := q29.2; if r27 = 0 then (jX6_ask_90 a0 p1 x3 x2 (0 : Int32) σ26) else (jX6_ask_90 a0 p1 x3 x2 ((1 : Int32) <<< (x3 &&& 31)) σ26))) else none))))
noncomputable def fX6_ask (a0 : Nat) (p1 : Int32) (σ : Sg) : Option (Int32 × Sg) := if p1 < 0 then (some ((-1 : Int32), σ)) else (if p1 ≤ (σ.1 a0 16) then ((lp (fun st => bX6_ask_18 a0 p1 st.1 st.2.1 st.2.2) ((0 : Int32), (0 : Int32), σ)).bind (fun q40 => let y34 := q40.1; let σ33 := q40.2;  if y34 = 0 then (some ((-2 : Int32), σ33)) else ((fX6_bestToAsk a0 y34 σ33).bind (fun q39 => let r37 := q39.1; let σ36 := q39.2; some (r37, σ36))))) else (some ((-1 : Int32), σ)))
set_option maxRecDepth 100000 in
set_option maxHeartbeats 4000000 in
theorem mX6_ask {l : Launch} {G : Gm} {a0 : Nat} {p1 : Int32} {σ : Sg} {r : Int32} {σ' : Sg} (hk_a0 : gK G a0 = 7) (hf : fX6_ask a0 p1 σ = some (r, σ')) : Mi l G yX6_ask cX6_ask 4 .int 7 178 [.ref (gB G + a0), .int p1] σ r σ' := by
  refine of_W "RightKeys" rfl (by decide) (Nat.le_of_ble_eq_true rfl) ?_
  intro p e s m args below meth c Q hQ C hr hlk hW ls hl
  have h00 := hW.1
  have hl : lv_has ls 4 [(0, .ref (gB G + a0)), (1, .int p1)] := hl
  delta fX6_ask at hf
  have L18 : ∀ (n : Nat) (x2 : Int32) (x3 : Int32) (σ : Sg) (H : Heap) (locs : List Loc) (ls : Array Slot) (out : (Int32 × Sg)), iter (fun st => bX6_ask_18 a0 p1 st.1 st.2.1 st.2.2) n (x2, x3, σ) = some out → Ws G σ s.heap H locs → lv_has ls 4 [(0, .ref (gB G + a0)), (1, .int p1), (2, .int x2), (3, .int x3)] → (∀ (y2 : Int32) (σ : Sg) (H : Heap) (locs : List Loc) (ls : Array Slot), out = (y2, σ) → Ws G σ s.heap H locs → lv_has ls 4 [(0, .ref (gB G + a0)), (2, .int y2)] → W p l e (rmOf 7 178) s m args below meth c H locs 0 0 Q (F0 m 98 ls [])) → W p l e (rmOf 7 178) s m args below meth c H locs 0 0 Q (F0 m 18 ls []) := by
    intro n
    induction n with
    | zero =>
      intro x2 x3 σ H locs ls out hf
      exact (it_0 hf).elim
    | succ n ih =>
      intro x2 x3 σ H locs ls out hf hW hl K18_98
      obtain ⟨x, hf, hx⟩ := it_s hf
      have hf : bX6_ask_18 a0 p1 x2 x3 σ = some x := hf
      delta bX6_ask_18 at hf
      have J90 : ∀ (x3 : Int32) (s0 : Int32) (s1 : Int32) (σ : Sg) (H : Heap) (locs : List Loc) (ls : Array Slot), jX6_ask_90 a0 p1 x3 s0 s1 σ = some x → Ws G σ s.heap H locs → lv_has ls 4 [(0, .ref (gB G + a0)), (1, .int p1), (3, .int x3)] → W p l e (rmOf 7 178) s m args below meth c H locs 0 0 Q (F0 m 90 ls [.int s1, .int s0]) := by
        intro x3 s0 s1 σ H locs ls hf hW hl
        delta jX6_ask_90 at hf
        refine lv_ior C.1.1 C.1.2.1 dX6_ask_90 ?_
        refine lv_istore_n (lv' := [(2, .int _), (0, .ref _), (1, .int _), (3, .int _)]) C.1.1 C.1.2.1 dX6_ask_91 rfl hl (by decide) rfl (fun ls hl => ?_)
        refine lv_iinc (v := _) (lv' := [(3, .int _), (2, .int _), (0, .ref _), (1, .int _)]) C.1.1 C.1.2.1 dX6_ask_92 hl (k := 3) rfl (ii (k := 1) (by decide)) (by decide) rfl (fun ls hl => ?_)
        refine lv_goto (tgt := 18) C.1.1 C.1.2.1 dX6_ask_95 (by decide) ?_
        cases hf
        exact ih _ _ _ _ _ _ _ hx hW (lv_sub hl [2, 3, 1, 0] rfl) K18_98
      refine lv_iload_n C.1.1 C.1.2.1 dX6_ask_18 rfl (lv_at hl 3 rfl) ?_
      refine lv_aload_n C.1.1 C.1.2.1 dX6_ask_19 rfl (lv_at hl 0 rfl) ?_
      have hk1 := sh6_3 hW hk_a0
      refine gf6_3 C hW hk_a0 w_408 dX6_ask_20 ?_
      refine gf3_0 C hW hk1 w_182 dX6_ask_23 ?_
      refine lv_icmp_ge (tgt := 98) C.1.1 C.1.2.1 dX6_ask_26 (by decide) (fun h9 => ?_) (fun h9 => ?_)
      · replace hf := (if_pos h9).symm.trans hf
        cases hf
        cases hx
        exact K18_98 _ _ _ _ _ rfl hW (lv_sub hl [0, 2] rfl)
      · replace hf := (if_neg h9).symm.trans hf
        refine lv_aload_n C.1.1 C.1.2.1 dX6_ask_29 rfl (lv_at hl 0 rfl) ?_
        obtain ⟨σ3, hc2, hf⟩ := bd hf
        try dsimp only at hf
        refine cVv C hW (mX6_startTrial hk_a0 hc2) hk_a0 kvX6_startTrial w_876 ⟨(Nat.le_of_ble_eq_true rfl), (Nat.le_of_ble_eq_true rfl)⟩ ⟨Nat.zero_le _, Nat.zero_le _⟩ rfl hl.1 (rest := []) rfl (Nat.le_of_ble_eq_true rfl) dX6_ask_30 (fun H locs hW => ?_)
        refine lv_aload_n C.1.1 C.1.2.1 dX6_ask_33 rfl (lv_at hl 0 rfl) ?_
        have hk7 := sh6_7 hW hk_a0
        refine gf6_7 C hW hk_a0 w_412 dX6_ask_34 ?_
        refine lv_iload_n C.1.1 C.1.2.1 dX6_ask_37 rfl (lv_at hl 3 rfl) ?_
        obtain ⟨σ9, hc8, hf⟩ := bd hf
        try dsimp only at hf
        refine cVv C hW (mX2_sendAway hk7 hc8) hk7 kvX2_sendAway w_942 ⟨(Nat.le_of_ble_eq_true rfl), (Nat.le_of_ble_eq_true rfl)⟩ ⟨Nat.zero_le _, Nat.zero_le _⟩ rfl hl.1 (rest := []) rfl (Nat.le_of_ble_eq_true rfl) dX6_ask_38 (fun H locs hW => ?_)
        refine lv_aload_n C.1.1 C.1.2.1 dX6_ask_41 rfl (lv_at hl 0 rfl) ?_
        have hk13 := sh6_8 hW hk_a0
        refine gf6_8 C hW hk_a0 w_413 dX6_ask_42 ?_
        refine lv_aload_n C.1.1 C.1.2.1 dX6_ask_45 rfl (lv_at hl 0 rfl) ?_
        have hk14 := sh6_7 hW hk_a0
        refine gf6_7 C hW hk_a0 w_412 dX6_ask_46 ?_
        refine lv_bipush (v := 24) C.1.1 C.1.2.1 dX6_ask_49 (by decide) ?_
        obtain ⟨σ16, hc15, hf⟩ := bd hf
        try dsimp only at hf
        refine cVv C hW (mX5_follow hk13 hk14 hc15) hk13 kvX5_follow w_880 ⟨(Nat.le_of_ble_eq_true rfl), (Nat.le_of_ble_eq_true rfl)⟩ ⟨Nat.zero_le _, Nat.zero_le _⟩ rfl hl.1 (rest := []) rfl (Nat.le_of_ble_eq_true rfl) dX6_ask_51 (fun H locs hW => ?_)
        refine lv_aload_n C.1.1 C.1.2.1 dX6_ask_54 rfl (lv_at hl 0 rfl) ?_
        have hk20 := sh6_17 hW hk_a0
        refine gf6_17 C hW hk_a0 w_422 dX6_ask_55 ?_
        refine lv_iload_n C.1.1 C.1.2.1 dX6_ask_58 rfl (lv_at hl 3 rfl) ?_
        refine lv_aload_n C.1.1 C.1.2.1 dX6_ask_59 rfl (lv_at hl 0 rfl) ?_
        have hk21 := sh6_8 hW hk_a0
        refine gf6_8 C hW hk_a0 w_413 dX6_ask_60 ?_
        refine gf5_4 C hW hk21 w_392 dX6_ask_63 ?_
        obtain ⟨hv22, hf⟩ := gd hf
        refine wsi C hW hk20 (vin_p hv22) dX6_ask_66 (fun H locs hW => ?_)
        refine lv_iload_n C.1.1 C.1.2.1 dX6_ask_67 rfl (lv_at hl 2 rfl) ?_
        refine lv_aload_n C.1.1 C.1.2.1 dX6_ask_68 rfl (lv_at hl 0 rfl) ?_
        refine lv_aload_n C.1.1 C.1.2.1 dX6_ask_69 rfl (lv_at hl 0 rfl) ?_
        have hk24 := sh6_8 hW hk_a0
        refine gf6_8 C hW hk_a0 w_413 dX6_ask_70 ?_
        refine gf5_4 C hW hk24 w_392 dX6_ask_73 ?_
        refine lv_iload_n C.1.1 C.1.2.1 dX6_ask_76 rfl (lv_at hl 1 rfl) ?_
        obtain ⟨⟨r27, σ26⟩, hc25, hf⟩ := bd hf
        try dsimp only at hf
        refine cVi C hW (mX6_agrees hk_a0 hc25) hk_a0 kvX6_agrees w_989 ⟨(Nat.le_of_ble_eq_true rfl), (Nat.le_of_ble_eq_true rfl)⟩ ⟨Nat.zero_le _, Nat.zero_le _⟩ rfl hl.1 (rest := [.int _]) rfl (Nat.le_of_ble_eq_true rfl) dX6_ask_77 (fun H locs hn28 hW => ?_)
        refine lv_if_eq (tgt := 89) C.1.1 C.1.2.1 dX6_ask_80 (by decide) (fun h9 => ?_) (fun h9 => ?_)
        · replace hf := (if_pos h9).symm.trans hf
          refine lv_iconst (v := 0) C.1.1 C.1.2.1 dX6_ask_89 (by decide) ?_
          exact J90 _ _ _ _ _ _ _ hf hW (lv_sub hl [0, 1, 3] rfl)
        · replace hf := (if_neg h9).symm.trans hf
          refine lv_iconst (v := 1) C.1.1 C.1.2.1 dX6_ask_83 (by decide) ?_
          refine lv_iload_n C.1.1 C.1.2.1 dX6_ask_84 rfl (lv_at hl 3 rfl) ?_
          refine lv_ishl C.1.1 C.1.2.1 dX6_ask_85 ?_
          refine lv_goto (tgt := 90) C.1.1 C.1.2.1 dX6_ask_86 (by decide) ?_
          exact J90 _ _ _ _ _ _ _ hf hW (lv_sub hl [0, 1, 3] rfl)
  refine lv_iload_n C.1.1 C.1.2.1 dX6_ask_0 rfl (lv_at hl 1 rfl) ?_
  refine lv_if_lt (tgt := 12) C.1.1 C.1.2.1 dX6_ask_1 (by decide) (fun h9 => ?_) (fun h9 => ?_)
  · replace hf := (if_pos h9).symm.trans hf
    refine lv_iconst (v := (-1)) C.1.1 C.1.2.1 dX6_ask_12 (by decide) ?_
    exact ri hQ C hr hlk hW hf (rok_i _) dX6_ask_13
  · replace hf := (if_neg h9).symm.trans hf
    refine lv_iload_n C.1.1 C.1.2.1 dX6_ask_4 rfl (lv_at hl 1 rfl) ?_
    refine lv_aload_n C.1.1 C.1.2.1 dX6_ask_5 rfl (lv_at hl 0 rfl) ?_
    refine gf6_16 C hW hk_a0 w_421 dX6_ask_6 ?_
    refine lv_icmp_le (tgt := 14) C.1.1 C.1.2.1 dX6_ask_9 (by decide) (fun h9 => ?_) (fun h9 => ?_)
    · replace hf := (if_pos h9).symm.trans hf
      refine lv_iconst (v := 0) C.1.1 C.1.2.1 dX6_ask_14 (by decide) ?_
      refine lv_istore_n (lv' := [(2, .int _), (0, .ref _), (1, .int _)]) C.1.1 C.1.2.1 dX6_ask_15 rfl hl (by decide) rfl (fun ls hl => ?_)
      refine lv_iconst (v := 0) C.1.1 C.1.2.1 dX6_ask_16 (by decide) ?_
      refine lv_istore_n (lv' := [(3, .int _), (2, .int _), (0, .ref _), (1, .int _)]) C.1.1 C.1.2.1 dX6_ask_17 rfl hl (by decide) rfl (fun ls hl => ?_)
      obtain ⟨o32, ho, hf⟩ := bd hf
      obtain ⟨n, ho⟩ := lp_it ho
      refine L18 n _ _ _ _ _ _ o32 ho hW (lv_sub hl [2, 3, 1, 0] rfl) ?_
      intro y34 σ33 H locs ls e9 hW hl
      subst e9
      try dsimp only at hf
      refine lv_iload_n C.1.1 C.1.2.1 dX6_ask_98 rfl (lv_at hl 1 rfl) ?_
      refine lv_if_ne (tgt := 107) C.1.1 C.1.2.1 dX6_ask_99 (by decide) (fun h9 => ?_) (fun h9 => ?_)
      · replace hf := (if_neg h9).symm.trans hf
        refine lv_aload_n C.1.1 C.1.2.1 dX6_ask_107 rfl (lv_at hl 0 rfl) ?_
        refine lv_iload_n C.1.1 C.1.2.1 dX6_ask_108 rfl (lv_at hl 1 rfl) ?_
        obtain ⟨⟨r37, σ36⟩, hc35, hf⟩ := bd hf
        try dsimp only at hf
        refine cVi C hW (mX6_bestToAsk hk_a0 hc35) hk_a0 kvX6_bestToAsk w_997 ⟨(Nat.le_of_ble_eq_true rfl), (Nat.le_of_ble_eq_true rfl)⟩ ⟨Nat.zero_le _, Nat.zero_le _⟩ rfl hl.1 (rest := []) rfl (Nat.le_of_ble_eq_true rfl) dX6_ask_109 (fun H locs hn38 hW => ?_)
        exact ri hQ C hr hlk hW hf (rok_i _) dX6_ask_112
      · replace hf := (if_pos h9).symm.trans hf
        refine lv_bipush (v := (-2)) C.1.1 C.1.2.1 dX6_ask_102 (by decide) ?_
        refine lv_goto (tgt := 112) C.1.1 C.1.2.1 dX6_ask_104 (by decide) ?_
        exact ri hQ C hr hlk hW hf (rok_i _) dX6_ask_112
    · replace hf := (if_neg h9).symm.trans hf
      refine lv_iconst (v := (-1)) C.1.1 C.1.2.1 dX6_ask_12 (by decide) ?_
      exact ri hQ C hr hlk hW hf (rok_i _) dX6_ask_13
