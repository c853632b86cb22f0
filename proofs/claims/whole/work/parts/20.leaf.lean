theorem ksJ6_bitCount_0f7a4 : KS yJ6_bitCount_0f7a4 cJ6_bitCount_0f7a4 1 (some .int) 1 := ⟨⟨w_693, w_124, w_694⟩, ⟨by decide, by decide, by decide +kernel⟩⟩
noncomputable def fJ6_bitCount_0f7a4 (p0 : Int32) (σ : Sg) : Option (Int32 × Sg) := (let x0_1 := (p0 - ((ius p0 (1 : Int32)) &&& (1431655765 : Int32))); let x0_2 := ((x0_1 &&& (858993459 : Int32)) + ((ius x0_1 (2 : Int32)) &&& (858993459 : Int32))); let x0_3 := ((x0_2 + (ius x0_2 (4 : Int32))) &&& (252645135 : Int32)); let x0_4 := (x0_3 + (ius x0_3 (8 : Int32))); let x0_5 := (x0_4 + (ius x0_4 (16 : Int32))); some ((x0_5 &&& (63 : Int32)), σ))
set_option maxRecDepth 100000 in
set_option maxHeartbeats 4000000 in
theorem mJ6_bitCount_0f7a4 {l : Launch} {G : Gm} {p0 : Int32} {σ : Sg} {r : Int32} {σ' : Sg}  (hf : fJ6_bitCount_0f7a4 p0 σ = some (r, σ')) : Mi l G yJ6_bitCount_0f7a4 cJ6_bitCount_0f7a4 1 .int 0 0 [.int p0] σ r σ' := by
  refine of_W "java/lang/Integer" rfl (by decide) (Nat.le_of_ble_eq_true rfl) ?_
  intro p e s m args below meth c Q hQ C hr hlk hW ls hl
  have h00 := hW.1
  have hl : lv_has ls 1 [(0, .int p0)] := hl
  delta fJ6_bitCount_0f7a4 at hf
  refine lv_iload_n C.1.1 C.1.2.1 dJ6_bitCount_0f7a4_0 rfl (lv_at hl 0 rfl) ?_
  refine lv_iload_n C.1.1 C.1.2.1 dJ6_bitCount_0f7a4_1 rfl (lv_at hl 0 rfl) ?_
  refine lv_iconst (v := 1) C.1.1 C.1.2.1 dJ6_bitCount_0f7a4_2 (by decide) ?_
  refine lv_iushr (v := ius _ _) C.1.1 C.1.2.1 dJ6_bitCount_0f7a4_3 rfl ?_
  refine lv_ldcw (v := 1431655765) C.1.1 C.1.2.1 C.1.2.2.2.1 (C.w w_695) dJ6_bitCount_0f7a4_4 ?_
  refine lv_iand C.1.1 C.1.2.1 dJ6_bitCount_0f7a4_7 ?_
  refine lv_isub C.1.1 C.1.2.1 dJ6_bitCount_0f7a4_8 ?_
  refine lv_istore_n (lv' := [(0, .int _)]) C.1.1 C.1.2.1 dJ6_bitCount_0f7a4_9 rfl hl (by decide) rfl (fun ls hl => ?_)
  refine lv_iload_n C.1.1 C.1.2.1 dJ6_bitCount_0f7a4_10 rfl (lv_at hl 0 rfl) ?_
  refine lv_ldcw (v := 858993459) C.1.1 C.1.2.1 C.1.2.2.2.1 (C.w w_696) dJ6_bitCount_0f7a4_11 ?_
  refine lv_iand C.1.1 C.1.2.1 dJ6_bitCount_0f7a4_14 ?_
  refine lv_iload_n C.1.1 C.1.2.1 dJ6_bitCount_0f7a4_15 rfl (lv_at hl 0 rfl) ?_
  refine lv_iconst (v := 2) C.1.1 C.1.2.1 dJ6_bitCount_0f7a4_16 (by decide) ?_
  refine lv_iushr (v := ius _ _) C.1.1 C.1.2.1 dJ6_bitCount_0f7a4_17 rfl ?_
  refine lv_ldcw (v := 858993459) C.1.1 C.1.2.1 C.1.2.2.2.1 (C.w w_696) dJ6_bitCount_0f7a4_18 ?_
  refine lv_iand C.1.1 C.1.2.1 dJ6_bitCount_0f7a4_21 ?_
  refine lv_iadd C.1.1 C.1.2.1 dJ6_bitCount_0f7a4_22 ?_
  refine lv_istore_n (lv' := [(0, .int _)]) C.1.1 C.1.2.1 dJ6_bitCount_0f7a4_23 rfl hl (by decide) rfl (fun ls hl => ?_)
  refine lv_iload_n C.1.1 C.1.2.1 dJ6_bitCount_0f7a4_24 rfl (lv_at hl 0 rfl) ?_
  refine lv_iload_n C.1.1 C.1.2.1 dJ6_bitCount_0f7a4_25 rfl (lv_at hl 0 rfl) ?_
  refine lv_iconst (v := 4) C.1.1 C.1.2.1 dJ6_bitCount_0f7a4_26 (by decide) ?_
  refine lv_iushr (v := ius _ _) C.1.1 C.1.2.1 dJ6_bitCount_0f7a4_27 rfl ?_
  refine lv_iadd C.1.1 C.1.2.1 dJ6_bitCount_0f7a4_28 ?_
  refine lv_ldcw (v := 252645135) C.1.1 C.1.2.1 C.1.2.2.2.1 (C.w w_697) dJ6_bitCount_0f7a4_29 ?_
  refine lv_iand C.1.1 C.1.2.1 dJ6_bitCount_0f7a4_32 ?_
  refine lv_istore_n (lv' := [(0, .int _)]) C.1.1 C.1.2.1 dJ6_bitCount_0f7a4_33 rfl hl (by decide) rfl (fun ls hl => ?_)
  refine lv_iload_n C.1.1 C.1.2.1 dJ6_bitCount_0f7a4_34 rfl (lv_at hl 0 rfl) ?_
  refine lv_iload_n C.1.1 C.1.2.1 dJ6_bitCount_0f7a4_35 rfl (lv_at hl 0 rfl) ?_
  refine lv_bipush (v := 8) C.1.1 C.1.2.1 dJ6_bitCount_0f7a4_36 (by decide) ?_
  refine lv_iushr (v := ius _ _) C.1.1 C.1.2.1 dJ6_bitCount_0f7a4_38 rfl ?_
  refine lv_iadd C.1.1 C.1.2.1 dJ6_bitCount_0f7a4_39 ?_
  refine lv_istore_n (lv' := [(0, .int _)]) C.1.1 C.1.2.1 dJ6_bitCount_0f7a4_40 rfl hl (by decide) rfl (fun ls hl => ?_)
  refine lv_iload_n C.1.1 C.1.2.1 dJ6_bitCount_0f7a4_41 rfl (lv_at hl 0 rfl) ?_
  refine lv_iload_n C.1.1 C.1.2.1 dJ6_bitCount_0f7a4_42 rfl (lv_at hl 0 rfl) ?_
  refine lv_bipush (v := 16) C.1.1 C.1.2.1 dJ6_bitCount_0f7a4_43 (by decide) ?_
  refine lv_iushr (v := ius _ _) C.1.1 C.1.2.1 dJ6_bitCount_0f7a4_45 rfl ?_
  refine lv_iadd C.1.1 C.1.2.1 dJ6_bitCount_0f7a4_46 ?_
  refine lv_istore_n (lv' := [(0, .int _)]) C.1.1 C.1.2.1 dJ6_bitCount_0f7a4_47 rfl hl (by decide) rfl (fun ls hl => ?_)
  refine lv_iload_n C.1.1 C.1.2.1 dJ6_bitCount_0f7a4_48 rfl (lv_at hl 0 rfl) ?_
  refine lv_bipush (v := 63) C.1.1 C.1.2.1 dJ6_bitCount_0f7a4_49 (by decide) ?_
  refine lv_iand C.1.1 C.1.2.1 dJ6_bitCount_0f7a4_51 ?_
  exact ri hQ C hr hlk hW hf (rok_i _) dJ6_bitCount_0f7a4_52
theorem ksJ7_fill_53178 : KS yJ7_fill_53178 cJ7_fill_53178 4 none 2 := ⟨⟨w_664, w_123, w_665⟩, ⟨by decide, by decide, by decide +kernel⟩⟩
noncomputable def bJ7_fill_53178_5 (n0 : Nat) (a0 : Nat) (p1 : Int32) (x3 : Int32) (x2 : Int32) (σ : Sg) : Option ((Int32 × Sg) ⊕ (Sg)) := if x3 ≤ x2 then (some (Sum.inr σ)) else (if vin x2 n0 then (let σ3 := wI σ a0 ((x2).toNatClampNeg) p1; (let x2_4 := x2 + (1 : Int32); some (Sum.inl (x2_4, σ3)))) else none)
noncomputable def fJ7_fill_53178 (n0 : Nat) (a0 : Nat) (p1 : Int32) (σ : Sg) : Option (Sg) := (let x3_1 := (Int32.ofNat n0); (lp (fun st => bJ7_fill_53178_5 n0 a0 p1 x3_1 st.1 st.2) ((0 : Int32), σ)).bind (fun σ6 => some σ6))
set_option maxRecDepth 100000 in
set_option maxHeartbeats 4000000 in
theorem mJ7_fill_53178 {l : Launch} {G : Gm} {n0 : Nat} {a0 : Nat} {p1 : Int32} {σ : Sg} {σ' : Sg} (hk_a0 : gK G a0 = kA 1 n0) (hf : fJ7_fill_53178 n0 a0 p1 σ = some σ') : Mv l G yJ7_fill_53178 cJ7_fill_53178 4 0 0 [.ref (gB G + a0), .int p1] σ σ' := by
  refine of_W "java/util/Arrays" rfl (by decide) (Nat.le_of_ble_eq_true rfl) ?_
  intro p e s m args below meth c Q hQ C hr hlk hW ls hl
  have h00 := hW.1
  have hl : lv_has ls 4 [(0, .ref (gB G + a0)), (1, .int p1)] := hl
  delta fJ7_fill_53178 at hf
  have L5 : ∀ (x3 : Int32) (n : Nat) (x2 : Int32) (σ : Sg) (H : Heap) (locs : List Loc) (ls : Array Slot) (out : (Sg)), iter (fun st => bJ7_fill_53178_5 n0 a0 p1 x3 st.1 st.2) n (x2, σ) = some out → Ws G σ s.heap H locs → lv_has ls 4 [(0, .ref (gB G + a0)), (1, .int p1), (2, .int x2), (3, .int x3)] → (∀ (σ : Sg) (H : Heap) (locs : List Loc) (ls : Array Slot), out = σ → Ws G σ s.heap H locs → lv_has ls 4 [] → W p l e (rmOf 0 0) s m args below meth c H locs 0 0 Q (F0 m 20 ls [])) → W p l e (rmOf 0 0) s m args below meth c H locs 0 0 Q (F0 m 5 ls []) := by
    intro x3 n
    induction n with
    | zero =>
      intro x2 σ H locs ls out hf
      exact (it_0 hf).elim
    | succ n ih =>
      intro x2 σ H locs ls out hf hW hl K5_20
      obtain ⟨x, hf, hx⟩ := it_s hf
      have hf : bJ7_fill_53178_5 n0 a0 p1 x3 x2 σ = some x := hf
      delta bJ7_fill_53178_5 at hf
      refine lv_iload_n C.1.1 C.1.2.1 dJ7_fill_53178_5 rfl (lv_at hl 2 rfl) ?_
      refine lv_iload_n C.1.1 C.1.2.1 dJ7_fill_53178_6 rfl (lv_at hl 3 rfl) ?_
      refine lv_icmp_ge (tgt := 20) C.1.1 C.1.2.1 dJ7_fill_53178_7 (by decide) (fun h9 => ?_) (fun h9 => ?_)
      · replace hf := (if_pos h9).symm.trans hf
        cases hf
        cases hx
        exact K5_20 _ _ _ _ rfl hW (lv_sub hl [] rfl)
      · replace hf := (if_neg h9).symm.trans hf
        refine lv_aload_n C.1.1 C.1.2.1 dJ7_fill_53178_10 rfl (lv_at hl 0 rfl) ?_
        refine lv_iload_n C.1.1 C.1.2.1 dJ7_fill_53178_11 rfl (lv_at hl 2 rfl) ?_
        refine lv_iload_n C.1.1 C.1.2.1 dJ7_fill_53178_12 rfl (lv_at hl 1 rfl) ?_
        obtain ⟨hv2, hf⟩ := gd hf
        refine wsi C hW hk_a0 (vin_p hv2) dJ7_fill_53178_13 (fun H locs hW => ?_)
        refine lv_iinc (v := _) (lv' := [(2, .int _), (0, .ref _), (1, .int _), (3, .int _)]) C.1.1 C.1.2.1 dJ7_fill_53178_14 hl (k := 2) rfl (ii (k := 1) (by decide)) (by decide) rfl (fun ls hl => ?_)
        refine lv_goto (tgt := 5) C.1.1 C.1.2.1 dJ7_fill_53178_17 (by decide) ?_
        cases hf
        exact ih _ _ _ _ _ _ hx hW (lv_sub hl [1, 2, 0, 3] rfl) K5_20
  refine lv_iconst (v := 0) C.1.1 C.1.2.1 dJ7_fill_53178_0 (by decide) ?_
  refine lv_istore_n (lv' := [(2, .int _), (0, .ref _), (1, .int _)]) C.1.1 C.1.2.1 dJ7_fill_53178_1 rfl hl (by decide) rfl (fun ls hl => ?_)
  refine lv_aload_n C.1.1 C.1.2.1 dJ7_fill_53178_2 rfl (lv_at hl 1 rfl) ?_
  refine cLen C hW hk_a0 dJ7_fill_53178_3 ?_
  refine lv_istore_n (lv' := [(3, .int _), (2, .int _), (0, .ref _), (1, .int _)]) C.1.1 C.1.2.1 dJ7_fill_53178_4 rfl hl (by decide) rfl (fun ls hl => ?_)
  obtain ⟨o5, ho, hf⟩ := bd hf
  obtain ⟨n, ho⟩ := lp_it ho
  refine L5 _ n _ _ _ _ _ o5 ho hW (lv_sub hl [2, 3, 1, 0] rfl) ?_
  intro  σ6 H locs ls e9 hW hl
  subst e9
  try dsimp only at hf
  exact rv hQ C hr hlk hW hf dJ7_fill_53178_20
theorem ksX6_bit : KS yX6_bit cX6_bit 2 (some .int) 2 := ⟨⟨w_621, w_109, w_622⟩, ⟨by decide, by decide, by decide +kernel⟩⟩
noncomputable def fX6_bit (p0 : Int32) (p1 : Int32) (σ : Sg) : Option (Int32 × Sg) := some (((ius p0 p1) &&& (1 : Int32)), σ)
set_option maxRecDepth 100000 in
set_option maxHeartbeats 4000000 in
theorem mX6_bit {l : Launch} {G : Gm} {p0 : Int32} {p1 : Int32} {σ : Sg} {r : Int32} {σ' : Sg}  (hf : fX6_bit p0 p1 σ = some (r, σ')) : Mi l G yX6_bit cX6_bit 2 .int 0 0 [.int p0, .int p1] σ r σ' := by
  refine of_W "RightKeys" rfl (by decide) (Nat.le_of_ble_eq_true rfl) ?_
  intro p e s m args below meth c Q hQ C hr hlk hW ls hl
  have h00 := hW.1
  have hl : lv_has ls 2 [(0, .int p0), (1, .int p1)] := hl
  delta fX6_bit at hf
  refine lv_iload_n C.1.1 C.1.2.1 dX6_bit_0 rfl (lv_at hl 0 rfl) ?_
  refine lv_iload_n C.1.1 C.1.2.1 dX6_bit_1 rfl (lv_at hl 1 rfl) ?_
  refine lv_iushr (v := ius _ _) C.1.1 C.1.2.1 dX6_bit_2 rfl ?_
  refine lv_iconst (v := 1) C.1.1 C.1.2.1 dX6_bit_3 (by decide) ?_
  refine lv_iand C.1.1 C.1.2.1 dX6_bit_4 ?_
  exact ri hQ C hr hlk hW hf (rok_i _) dX6_bit_5
theorem kvX0_put : KV 0 "RightKeys$Laws" yX0_put cX0_put 4 (some .int) 2 := ⟨⟨w_154, w_155, w_111, w_156⟩, ⟨rfl, by decide, by decide, by decide +kernel⟩, by decide, rfl⟩
noncomputable def fX0_put (a0 : Nat) (p1 : Int32) (p2 : Int32) (σ : Sg) : Option (Int32 × Sg) := (let x3_1 := (σ.1 a0 1); if (408 : Int32) ≤ (σ.1 a0 1) then (some (x3_1, σ)) else (if vin (σ.1 a0 1) 408 then (let σ4 := wI σ (a0 + 1) (((σ.1 a0 1)).toNatClampNeg) (p1 ||| (p2 <<< ((4 : Int32) &&& 31))); (let σ5 := wI σ4 a0 1 ((σ4.1 a0 1) + (1 : Int32)); some (x3_1, σ5))) else none))
set_option maxRecDepth 100000 in
set_option maxHeartbeats 4000000 in
theorem mX0_put {l : Launch} {G : Gm} {a0 : Nat} {p1 : Int32} {p2 : Int32} {σ : Sg} {r : Int32} {σ' : Sg} (hk_a0 : gK G a0 = 1) (hf : fX0_put a0 p1 p2 σ = some (r, σ')) : Mi l G yX0_put cX0_put 4 .int 0 0 [.ref (gB G + a0), .int p1, .int p2] σ r σ' := by
  refine of_W "RightKeys$Laws" rfl (by decide) (Nat.le_of_ble_eq_true rfl) ?_
  intro p e s m args below meth c Q hQ C hr hlk hW ls hl
  have h00 := hW.1
  have hl : lv_has ls 4 [(0, .ref (gB G + a0)), (1, .int p1), (2, .int p2)] := hl
  delta fX0_put at hf
  refine lv_aload_n C.1.1 C.1.2.1 dX0_put_0 rfl (lv_at hl 0 rfl) ?_
  refine gf0_1 C hW hk_a0 w_158 dX0_put_1 ?_
  refine lv_istore_n (lv' := [(3, .int _), (0, .ref _), (1, .int _), (2, .int _)]) C.1.1 C.1.2.1 dX0_put_4 rfl hl (by decide) rfl (fun ls hl => ?_)
  refine lv_aload_n C.1.1 C.1.2.1 dX0_put_5 rfl (lv_at hl 1 rfl) ?_
  refine gf0_1 C hW hk_a0 w_158 dX0_put_6 ?_
  refine lv_sipush (v := 408) C.1.1 C.1.2.1 dX0_put_9 (by decide) ?_
  refine lv_icmp_ge (tgt := 39) C.1.1 C.1.2.1 dX0_put_12 (by decide) (fun h9 => ?_) (fun h9 => ?_)
  · replace hf := (if_pos h9).symm.trans hf
    refine lv_iload_n C.1.1 C.1.2.1 dX0_put_39 rfl (lv_at hl 0 rfl) ?_
    exact ri hQ C hr hlk hW hf (rok_i _) dX0_put_40
  · replace hf := (if_neg h9).symm.trans hf
    refine lv_aload_n C.1.1 C.1.2.1 dX0_put_15 rfl (lv_at hl 1 rfl) ?_
    have hk2 := sh0_0 hW hk_a0
    refine gf0_0 C hW hk_a0 w_157 dX0_put_16 ?_
    refine lv_aload_n C.1.1 C.1.2.1 dX0_put_19 rfl (lv_at hl 1 rfl) ?_
    refine gf0_1 C hW hk_a0 w_158 dX0_put_20 ?_
    refine lv_iload_n C.1.1 C.1.2.1 dX0_put_23 rfl (lv_at hl 2 rfl) ?_
    refine lv_iload_n C.1.1 C.1.2.1 dX0_put_24 rfl (lv_at hl 3 rfl) ?_
    refine lv_iconst (v := 4) C.1.1 C.1.2.1 dX0_put_25 (by decide) ?_
    refine lv_ishl C.1.1 C.1.2.1 dX0_put_26 ?_
    refine lv_ior C.1.1 C.1.2.1 dX0_put_27 ?_
    obtain ⟨hv3, hf⟩ := gd hf
    refine wsi C hW hk2 (vin_p hv3) dX0_put_28 (fun H locs hW => ?_)
    refine lv_aload_n C.1.1 C.1.2.1 dX0_put_29 rfl (lv_at hl 1 rfl) ?_
    refine lv_dup C.1.1 C.1.2.1 dX0_put_30 rfl ?_
    refine gf0_1 C hW hk_a0 w_158 dX0_put_31 ?_
    refine lv_iconst (v := 1) C.1.1 C.1.2.1 dX0_put_34 (by decide) ?_
    refine lv_iadd C.1.1 C.1.2.1 dX0_put_35 ?_
    refine pf0_1 C hW hk_a0 w_158 dX0_put_36 (fun H locs hW => ?_)
    refine lv_iload_n C.1.1 C.1.2.1 dX0_put_39 rfl (lv_at hl 0 rfl) ?_
    exact ri hQ C hr hlk hW hf (rok_i _) dX0_put_40
theorem kvX0_putDefault : KV 0 "RightKeys$Laws" yX0_putDefault cX0_putDefault 4 none 3 := ⟨⟨w_151, w_0, w_111, w_152⟩, ⟨rfl, by decide, by decide, by decide +kernel⟩, by decide, rfl⟩
noncomputable def fX0_putDefault (a0 : Nat) (p1 : Int32) (p2 : Int32) (p3 : Int32) (σ : Sg) : Option (Sg) := if vin p1 4 then (let σ3 := wI σ (a0 + 2) ((p1).toNatClampNeg) (σ.1 a0 1); (fX0_put a0 p2 p3 σ3).bind (fun q8 => let r6 := q8.1; let σ5 := q8.2; (fX0_put a0 (7 : Int32) (0 : Int32) σ5).bind (fun q13 => let r11 := q13.1; let σ10 := q13.2; some σ10))) else none
set_option maxRecDepth 100000 in
set_option maxHeartbeats 4000000 in
theorem mX0_putDefault {l : Launch} {G : Gm} {a0 : Nat} {p1 : Int32} {p2 : Int32} {p3 : Int32} {σ : Sg} {σ' : Sg} (hk_a0 : gK G a0 = 1) (hf : fX0_putDefault a0 p1 p2 p3 σ = some σ') : Mv l G yX0_putDefault cX0_putDefault 4 1 23 [.ref (gB G + a0), .int p1, .int p2, .int p3] σ σ' := by
  refine of_W "RightKeys$Laws" rfl (by decide) (Nat.le_of_ble_eq_true rfl) ?_
  intro p e s m args below meth c Q hQ C hr hlk hW ls hl
  have h00 := hW.1
  have hl : lv_has ls 4 [(0, .ref (gB G + a0)), (1, .int p1), (2, .int p2), (3, .int p3)] := hl
  delta fX0_putDefault at hf
  refine lv_aload_n C.1.1 C.1.2.1 dX0_putDefault_0 rfl (lv_at hl 0 rfl) ?_
  have hk1 := sh0_2 hW hk_a0
  refine gf0_2 C hW hk_a0 w_160 dX0_putDefault_1 ?_
  refine lv_iload_n C.1.1 C.1.2.1 dX0_putDefault_4 rfl (lv_at hl 1 rfl) ?_
  refine lv_aload_n C.1.1 C.1.2.1 dX0_putDefault_5 rfl (lv_at hl 0 rfl) ?_
  refine gf0_1 C hW hk_a0 w_158 dX0_putDefault_6 ?_
  obtain ⟨hv2, hf⟩ := gd hf
  refine wsi C hW hk1 (vin_p hv2) dX0_putDefault_9 (fun H locs hW => ?_)
  refine lv_aload_n C.1.1 C.1.2.1 dX0_putDefault_10 rfl (lv_at hl 0 rfl) ?_
  refine lv_iload_n C.1.1 C.1.2.1 dX0_putDefault_11 rfl (lv_at hl 2 rfl) ?_
  refine lv_iload_n C.1.1 C.1.2.1 dX0_putDefault_12 rfl (lv_at hl 3 rfl) ?_
  obtain ⟨⟨r6, σ5⟩, hc4, hf⟩ := bd hf
  try dsimp only at hf
  refine cVi C hW (mX0_put hk_a0 hc4) hk_a0 kvX0_put w_153 ⟨(Nat.le_of_ble_eq_true rfl), (Nat.le_of_ble_eq_true rfl)⟩ ⟨Nat.zero_le _, Nat.zero_le _⟩ rfl hl.1 (rest := []) rfl (Nat.le_of_ble_eq_true rfl) dX0_putDefault_13 (fun H locs hn7 hW => ?_)
  refine lv_pop C.1.1 C.1.2.1 dX0_putDefault_16 rfl ?_
  refine lv_aload_n C.1.1 C.1.2.1 dX0_putDefault_17 rfl (lv_at hl 0 rfl) ?_
  refine lv_bipush (v := 7) C.1.1 C.1.2.1 dX0_putDefault_18 (by decide) ?_
  refine lv_iconst (v := 0) C.1.1 C.1.2.1 dX0_putDefault_20 (by decide) ?_
  obtain ⟨⟨r11, σ10⟩, hc9, hf⟩ := bd hf
  try dsimp only at hf
  refine cVi C hW (mX0_put hk_a0 hc9) hk_a0 kvX0_put w_153 ⟨(Nat.le_of_ble_eq_true rfl), (Nat.le_of_ble_eq_true rfl)⟩ ⟨Nat.zero_le _, Nat.zero_le _⟩ rfl hl.1 (rest := []) rfl (Nat.le_of_ble_eq_true rfl) dX0_putDefault_21 (fun H locs hn12 hW => ?_)
  refine lv_pop C.1.1 C.1.2.1 dX0_putDefault_24 rfl ?_
  exact rv hQ C hr hlk hW hf dX0_putDefault_25
theorem kvX0_clear : KV 0 "RightKeys$Laws" yX0_clear cX0_clear 1 none 0 := ⟨⟨w_146, w_147, w_111, w_148⟩, ⟨rfl, by decide, by decide, by decide +kernel⟩, by decide, rfl⟩
noncomputable def fX0_clear (a0 : Nat) (σ : Sg) : Option (Sg) := (let σ1 := wI σ a0 1 (0 : Int32); (fX0_putDefault a0 (0 : Int32) (0 : Int32) (1 : Int32) σ1).bind (fun σ3 => (fX0_putDefault a0 (1 : Int32) (1 : Int32) (2 : Int32) σ3).bind (fun σ8 => (fX0_putDefault a0 (2 : Int32) (1 : Int32) (6 : Int32) σ8).bind (fun σ13 => (fX0_putDefault a0 (3 : Int32) (0 : Int32) (0 : Int32) σ13).bind (fun σ18 => some σ18)))))
set_option maxRecDepth 100000 in
set_option maxHeartbeats 4000000 in
theorem mX0_clear {l : Launch} {G : Gm} {a0 : Nat} {σ : Sg} {σ' : Sg} (hk_a0 : gK G a0 = 1) (hf : fX0_clear a0 σ = some σ') : Mv l G yX0_clear cX0_clear 1 2 46 [.ref (gB G + a0)] σ σ' := by
  refine of_W "RightKeys$Laws" rfl (by decide) (Nat.le_of_ble_eq_true rfl) ?_
  intro p e s m args below meth c Q hQ C hr hlk hW ls hl
  have h00 := hW.1
  have hl : lv_has ls 1 [(0, .ref (gB G + a0))] := hl
  delta fX0_clear at hf
  refine lv_aload_n C.1.1 C.1.2.1 dX0_clear_0 rfl (lv_at hl 0 rfl) ?_
  refine lv_iconst (v := 0) C.1.1 C.1.2.1 dX0_clear_1 (by decide) ?_
  refine pf0_1 C hW hk_a0 w_158 dX0_clear_2 (fun H locs hW => ?_)
  refine lv_aload_n C.1.1 C.1.2.1 dX0_clear_5 rfl (lv_at hl 0 rfl) ?_
  refine lv_iconst (v := 0) C.1.1 C.1.2.1 dX0_clear_6 (by decide) ?_
  refine lv_iconst (v := 0) C.1.1 C.1.2.1 dX0_clear_7 (by decide) ?_
  refine lv_iconst (v := 1) C.1.1 C.1.2.1 dX0_clear_8 (by decide) ?_
  obtain ⟨σ3, hc2, hf⟩ := bd hf
  try dsimp only at hf
  refine cVv C hW (mX0_putDefault hk_a0 hc2) hk_a0 kvX0_putDefault w_149 ⟨(Nat.le_of_ble_eq_true rfl), (Nat.le_of_ble_eq_true rfl)⟩ ⟨Nat.zero_le _, Nat.zero_le _⟩ rfl hl.1 (rest := []) rfl (Nat.le_of_ble_eq_true rfl) dX0_clear_9 (fun H locs hW => ?_)
  refine lv_aload_n C.1.1 C.1.2.1 dX0_clear_12 rfl (lv_at hl 0 rfl) ?_
  refine lv_iconst (v := 1) C.1.1 C.1.2.1 dX0_clear_13 (by decide) ?_
  refine lv_iconst (v := 1) C.1.1 C.1.2.1 dX0_clear_14 (by decide) ?_
  refine lv_iconst (v := 2) C.1.1 C.1.2.1 dX0_clear_15 (by decide) ?_
  obtain ⟨σ8, hc7, hf⟩ := bd hf
  try dsimp only at hf
  refine cVv C hW (mX0_putDefault hk_a0 hc7) hk_a0 kvX0_putDefault w_149 ⟨(Nat.le_of_ble_eq_true rfl), (Nat.le_of_ble_eq_true rfl)⟩ ⟨Nat.zero_le _, Nat.zero_le _⟩ rfl hl.1 (rest := []) rfl (Nat.le_of_ble_eq_true rfl) dX0_clear_16 (fun H locs hW => ?_)
  refine lv_aload_n C.1.1 C.1.2.1 dX0_clear_19 rfl (lv_at hl 0 rfl) ?_
  refine lv_iconst (v := 2) C.1.1 C.1.2.1 dX0_clear_20 (by decide) ?_
  refine lv_iconst (v := 1) C.1.1 C.1.2.1 dX0_clear_21 (by decide) ?_
  refine lv_bipush (v := 6) C.1.1 C.1.2.1 dX0_clear_22 (by decide) ?_
  obtain ⟨σ13, hc12, hf⟩ := bd hf
  try dsimp only at hf
  refine cVv C hW (mX0_putDefault hk_a0 hc12) hk_a0 kvX0_putDefault w_149 ⟨(Nat.le_of_ble_eq_true rfl), (Nat.le_of_ble_eq_true rfl)⟩ ⟨Nat.zero_le _, Nat.zero_le _⟩ rfl hl.1 (rest := []) rfl (Nat.le_of_ble_eq_true rfl) dX0_clear_24 (fun H locs hW => ?_)
  refine lv_aload_n C.1.1 C.1.2.1 dX0_clear_27 rfl (lv_at hl 0 rfl) ?_
  refine lv_iconst (v := 3) C.1.1 C.1.2.1 dX0_clear_28 (by decide) ?_
  refine lv_iconst (v := 0) C.1.1 C.1.2.1 dX0_clear_29 (by decide) ?_
  refine lv_iconst (v := 0) C.1.1 C.1.2.1 dX0_clear_30 (by decide) ?_
  obtain ⟨σ18, hc17, hf⟩ := bd hf
  try dsimp only at hf
  refine cVv C hW (mX0_putDefault hk_a0 hc17) hk_a0 kvX0_putDefault w_149 ⟨(Nat.le_of_ble_eq_true rfl), (Nat.le_of_ble_eq_true rfl)⟩ ⟨Nat.zero_le _, Nat.zero_le _⟩ rfl hl.1 (rest := []) rfl (Nat.le_of_ble_eq_true rfl) dX0_clear_31 (fun H locs hW => ?_)
  exact rv hQ C hr hlk hW hf dX0_clear_34
theorem kvX0_jumpToHere : KV 0 "RightKeys$Laws" yX0_jumpToHere cX0_jumpToHere 2 none 1 := ⟨⟨w_645, w_646, w_111, w_647⟩, ⟨rfl, by decide, by decide, by decide +kernel⟩, by decide, rfl⟩
noncomputable def fX0_jumpToHere (a0 : Nat) (p1 : Int32) (σ : Sg) : Option (Sg) := if p1 < 0 then (some σ) else (if (σ.1 a0 1) ≤ p1 then (some σ) else (if vin p1 408 then (let σ3 := wI σ (a0 + 1) ((p1).toNatClampNeg) ((6 : Int32) ||| ((σ.1 a0 1) <<< ((4 : Int32) &&& 31))); some σ3) else none))
set_option maxRecDepth 100000 in
set_option maxHeartbeats 4000000 in
theorem mX0_jumpToHere {l : Launch} {G : Gm} {a0 : Nat} {p1 : Int32} {σ : Sg} {σ' : Sg} (hk_a0 : gK G a0 = 1) (hf : fX0_jumpToHere a0 p1 σ = some σ') : Mv l G yX0_jumpToHere cX0_jumpToHere 2 0 0 [.ref (gB G + a0), .int p1] σ σ' := by
  refine of_W "RightKeys$Laws" rfl (by decide) (Nat.le_of_ble_eq_true rfl) ?_
  intro p e s m args below meth c Q hQ C hr hlk hW ls hl
  have h00 := hW.1
  have hl : lv_has ls 2 [(0, .ref (gB G + a0)), (1, .int p1)] := hl
  delta fX0_jumpToHere at hf
  refine lv_iload_n C.1.1 C.1.2.1 dX0_jumpToHere_0 rfl (lv_at hl 1 rfl) ?_
  refine lv_if_lt (tgt := 27) C.1.1 C.1.2.1 dX0_jumpToHere_1 (by decide) (fun h9 => ?_) (fun h9 => ?_)
  · replace hf := (if_pos h9).symm.trans hf
    exact rv hQ C hr hlk hW hf dX0_jumpToHere_27
  · replace hf := (if_neg h9).symm.trans hf
    refine lv_iload_n C.1.1 C.1.2.1 dX0_jumpToHere_4 rfl (lv_at hl 1 rfl) ?_
    refine lv_aload_n C.1.1 C.1.2.1 dX0_jumpToHere_5 rfl (lv_at hl 0 rfl) ?_
    refine gf0_1 C hW hk_a0 w_158 dX0_jumpToHere_6 ?_
    refine lv_icmp_ge (tgt := 27) C.1.1 C.1.2.1 dX0_jumpToHere_9 (by decide) (fun h9 => ?_) (fun h9 => ?_)
    · replace hf := (if_pos h9).symm.trans hf
      exact rv hQ C hr hlk hW hf dX0_jumpToHere_27
    · replace hf := (if_neg h9).symm.trans hf
      refine lv_aload_n C.1.1 C.1.2.1 dX0_jumpToHere_12 rfl (lv_at hl 0 rfl) ?_
      have hk1 := sh0_0 hW hk_a0
      refine gf0_0 C hW hk_a0 w_157 dX0_jumpToHere_13 ?_
      refine lv_iload_n C.1.1 C.1.2.1 dX0_jumpToHere_16 rfl (lv_at hl 1 rfl) ?_
      refine lv_bipush (v := 6) C.1.1 C.1.2.1 dX0_jumpToHere_17 (by decide) ?_
      refine lv_aload_n C.1.1 C.1.2.1 dX0_jumpToHere_19 rfl (lv_at hl 0 rfl) ?_
      refine gf0_1 C hW hk_a0 w_158 dX0_jumpToHere_20 ?_
      refine lv_iconst (v := 4) C.1.1 C.1.2.1 dX0_jumpToHere_23 (by decide) ?_
      refine lv_ishl C.1.1 C.1.2.1 dX0_jumpToHere_24 ?_
      refine lv_ior C.1.1 C.1.2.1 dX0_jumpToHere_25 ?_
      obtain ⟨hv2, hf⟩ := gd hf
      refine wsi C hW hk1 (vin_p hv2) dX0_jumpToHere_26 (fun H locs hW => ?_)
      exact rv hQ C hr hlk hW hf dX0_jumpToHere_27
theorem ksX0_joined : KS yX0_joined cX0_joined 3 (some .int) 3 := ⟨⟨w_706, w_111, w_707⟩, ⟨by decide, by decide, by decide +kernel⟩⟩
noncomputable def fX0_joined (p0 : Int32) (p1 : Int32) (p2 : Int32) (σ : Sg) : Option (Int32 × Sg) := if p0 = 2 then (some ((p1 + p2), σ)) else (if p0 = 3 then (some ((p1 - p2), σ)) else (if p0 = 4 then (some ((p1 * p2), σ)) else ((if p2 = 0 then (some ((0 : Int32), σ)) else ((if ¬ p2 = 0 then (some ((p1 / p2), σ)) else none))))))
set_option maxRecDepth 100000 in
set_option maxHeartbeats 4000000 in
theorem mX0_joined {l : Launch} {G : Gm} {p0 : Int32} {p1 : Int32} {p2 : Int32} {σ : Sg} {r : Int32} {σ' : Sg}  (hf : fX0_joined p0 p1 p2 σ = some (r, σ')) : Mi l G yX0_joined cX0_joined 3 .int 0 0 [.int p0, .int p1, .int p2] σ r σ' := by
  refine of_W "RightKeys$Laws" rfl (by decide) (Nat.le_of_ble_eq_true rfl) ?_
  intro p e s m args below meth c Q hQ C hr hlk hW ls hl
  have h00 := hW.1
  have hl : lv_has ls 3 [(0, .int p0), (1, .int p1), (2, .int p2)] := hl
  delta fX0_joined at hf
  refine lv_iload_n C.1.1 C.1.2.1 dX0_joined_0 rfl (lv_at hl 0 rfl) ?_
  refine sw_c (k := 2) (fun hs1 => ?_) (fun hs1 => ?_)
  · replace hf := (if_pos hs1).symm.trans hf
    refine lv_tableIn (tgt := 28) C.1.1 C.1.2.1 dX0_joined_1 (by rw [hs1]; decide) (by rw [hs1]; decide) (off := 27) (by rw [hs1]; rfl) (by decide) ?_
    refine lv_iload_n C.1.1 C.1.2.1 dX0_joined_28 rfl (lv_at hl 1 rfl) ?_
    refine lv_iload_n C.1.1 C.1.2.1 dX0_joined_29 rfl (lv_at hl 2 rfl) ?_
    refine lv_iadd C.1.1 C.1.2.1 dX0_joined_30 ?_
    exact ri hQ C hr hlk hW hf (rok_i _) dX0_joined_31
  · replace hf := (if_neg hs1).symm.trans hf
    refine sw_c (k := 3) (fun hs2 => ?_) (fun hs2 => ?_)
    · replace hf := (if_pos hs2).symm.trans hf
      refine lv_tableIn (tgt := 32) C.1.1 C.1.2.1 dX0_joined_1 (by rw [hs2]; decide) (by rw [hs2]; decide) (off := 31) (by rw [hs2]; rfl) (by decide) ?_
      refine lv_iload_n C.1.1 C.1.2.1 dX0_joined_32 rfl (lv_at hl 1 rfl) ?_
      refine lv_iload_n C.1.1 C.1.2.1 dX0_joined_33 rfl (lv_at hl 2 rfl) ?_
      refine lv_isub C.1.1 C.1.2.1 dX0_joined_34 ?_
      exact ri hQ C hr hlk hW hf (rok_i _) dX0_joined_35
    · replace hf := (if_neg hs2).symm.trans hf
      refine sw_c (k := 4) (fun hs3 => ?_) (fun hs3 => ?_)
      · replace hf := (if_pos hs3).symm.trans hf
        refine lv_tableIn (tgt := 36) C.1.1 C.1.2.1 dX0_joined_1 (by rw [hs3]; decide) (by rw [hs3]; decide) (off := 35) (by rw [hs3]; rfl) (by decide) ?_
        refine lv_iload_n C.1.1 C.1.2.1 dX0_joined_36 rfl (lv_at hl 1 rfl) ?_
        refine lv_iload_n C.1.1 C.1.2.1 dX0_joined_37 rfl (lv_at hl 2 rfl) ?_
        refine lv_imul C.1.1 C.1.2.1 dX0_joined_38 ?_
        exact ri hQ C hr hlk hW hf (rok_i _) dX0_joined_39
      · replace hf := (if_neg hs3).symm.trans hf
        refine lv_tableOut (tgt := 40) C.1.1 C.1.2.1 dX0_joined_1 (by have := sw_n 2 (by decide) hs1; have := sw_n 3 (by decide) hs2; have := sw_n 4 (by decide) hs3; omega) (by decide) ?_
        refine lv_iload_n C.1.1 C.1.2.1 dX0_joined_40 rfl (lv_at hl 2 rfl) ?_
        refine lv_if_ne (tgt := 48) C.1.1 C.1.2.1 dX0_joined_41 (by decide) (fun h9 => ?_) (fun h9 => ?_)
        · replace hf := (if_neg h9).symm.trans hf
          refine lv_iload_n C.1.1 C.1.2.1 dX0_joined_48 rfl (lv_at hl 1 rfl) ?_
          refine lv_iload_n C.1.1 C.1.2.1 dX0_joined_49 rfl (lv_at hl 2 rfl) ?_
          obtain ⟨hz4, hf⟩ := gd hf
          refine lv_idiv C.1.1 C.1.2.1 dX0_joined_50 hz4 ?_
          exact ri hQ C hr hlk hW hf (rok_i _) dX0_joined_51
        · replace hf := (if_pos h9).symm.trans hf
          refine lv_iconst (v := 0) C.1.1 C.1.2.1 dX0_joined_44 (by decide) ?_
          refine lv_goto (tgt := 51) C.1.1 C.1.2.1 dX0_joined_45 (by decide) ?_
          exact ri hQ C hr hlk hW hf (rok_i _) dX0_joined_51
theorem kvX0_valueOf : KV 0 "RightKeys$Laws" yX0_valueOf cX0_valueOf 6 (some .int) 1 := ⟨⟨w_699, w_700, w_111, w_701⟩, ⟨rfl, by decide, by decide, by decide +kernel⟩, by decide, rfl⟩
noncomputable def jX0_valueOf_228 (a0 : Nat) (p1 : Int32) (x2 : Int32) (x3 : Int32) (σ : Sg) : Option ((Int32 × Int32 × Sg) ⊕ ((Sg) ⊕ ((Int32 × Sg) ⊕ ((Sg) ⊕ ((Sg) ⊕ (Sg)))))) := some (Sum.inl (x2, x3, σ))
noncomputable def jX0_valueOf_100 (a0 : Nat) (p1 : Int32) (x2 : Int32) (x3 : Int32) (s0 : Nat) (s1 : Int32) (s2 : Int32) (σ : Sg) : Option ((Int32 × Int32 × Sg) ⊕ ((Sg) ⊕ ((Int32 × Sg) ⊕ ((Sg) ⊕ ((Sg) ⊕ (Sg)))))) := if vin s1 24 then (let σ14 := wI σ s0 ((s1).toNatClampNeg) s2; (let x3_15 := x3 + (1 : Int32); jX0_valueOf_228 a0 p1 x2 x3_15 σ14)) else none
noncomputable def jX0_valueOf_78 (a0 : Nat) (p1 : Int32) (x2 : Int32) (x3 : Int32) (x4 : Int32) (x5 : Int32) (σ : Sg) : Option ((Int32 × Int32 × Sg) ⊕ ((Sg) ⊕ ((Int32 × Sg) ⊕ ((Sg) ⊕ ((Sg) ⊕ (Sg)))))) := if x4 = 0 then (jX0_valueOf_100 a0 p1 x2 x3 (a0 + 4) x3 x5 σ) else (if vin x5 9 then (jX0_valueOf_100 a0 p1 x2 x3 (a0 + 4) x3 (σ.1 (a0 + 3) ((x5).toNatClampNeg)) σ) else none)
noncomputable def jX0_valueOf_52 (a0 : Nat) (p1 : Int32) (x2 : Int32) (x3 : Int32) (x4 : Int32) (x5 : Int32) (σ : Sg) : Option ((Int32 × Int32 × Sg) ⊕ ((Sg) ⊕ ((Int32 × Sg) ⊕ ((Sg) ⊕ ((Sg) ⊕ (Sg)))))) := if (24 : Int32) ≤ x3 then (some (Sum.inr (Sum.inl σ))) else (if x4 = (1 : Int32) then (if x5 < 0 then (some (Sum.inr (Sum.inl σ))) else (if x5 < (9 : Int32) then (jX0_valueOf_78 a0 p1 x2 x3 x4 x5 σ) else (some (Sum.inr (Sum.inl σ))))) else (jX0_valueOf_78 a0 p1 x2 x3 x4 x5 σ))
noncomputable def jX0_valueOf_198 (a0 : Nat) (p1 : Int32) (x2 : Int32) (x3 : Int32) (x4 : Int32) (σ : Sg) : Option ((Int32 × Int32 × Sg) ⊕ ((Sg) ⊕ ((Int32 × Sg) ⊕ ((Sg) ⊕ ((Sg) ⊕ (Sg)))))) := (let x3_16 := x3 + (-1 : Int32); if vin (x3_16 - (1 : Int32)) 24 then (if vin x3_16 24 then ((fX0_joined x4 (σ.1 (a0 + 4) (((x3_16 - (1 : Int32))).toNatClampNeg)) (σ.1 (a0 + 4) ((x3_16).toNatClampNeg)) σ).bind (fun q26 => let r24 := q26.1; let σ23 := q26.2; (let σ27 := wI σ23 (a0 + 4) (((x3_16 - (1 : Int32))).toNatClampNeg) r24; jX0_valueOf_228 a0 p1 x2 x3_16 σ27))) else none) else none)
noncomputable def jX0_valueOf_175 (a0 : Nat) (p1 : Int32) (x3 : Int32) (s0 : Int32) (σ : Sg) : Option ((Int32 × Int32 × Sg) ⊕ ((Sg) ⊕ ((Int32 × Sg) ⊕ ((Sg) ⊕ ((Sg) ⊕ (Sg)))))) := jX0_valueOf_228 a0 p1 s0 x3 σ
noncomputable def bX0_valueOf_9 (a0 : Nat) (p1 : Int32) (x2 : Int32) (x3 : Int32) (σ : Sg) : Option ((Int32 × Int32 × Sg) ⊕ ((Sg) ⊕ ((Int32 × Sg) ⊕ ((Sg) ⊕ ((Sg) ⊕ (Sg)))))) := if (σ.1 a0 1) ≤ x2 then (some (Sum.inr (Sum.inr (Sum.inr (Sum.inr (Sum.inr σ)))))) else (if vin x2 408 then ((let x4_6 := ((σ.1 (a0 + 1) ((x2).toNatClampNeg)) &&& (15 : Int32)); let x5_8 := ((σ.1 (a0 + 1) ((x2).toNatClampNeg)) >>> ((4 : Int32) &&& 31)); let x2_9 := x2 + (1 : Int32); if x4_6 = 0 then (jX0_valueOf_52 a0 p1 x2_9 x3 x4_6 x5_8 σ) else (if x4_6 = (1 : Int32) then (jX0_valueOf_52 a0 p1 x2_9 x3 x4_6 x5_8 σ) else (if x4_6 = (7 : Int32) then (some (Sum.inr (Sum.inr (Sum.inl (x3, σ))))) else (if (2 : Int32) ≤ x3 then (if x4_6 = (6 : Int32) then ((let x3_30 := x3 + (-2 : Int32); if vin x3_30 24 then (if vin (x3_30 + (1 : Int32)) 24 then (if (σ.1 (a0 + 4) (((x3_30 + (1 : Int32))).toNatClampNeg)) ≤ (σ.1 (a0 + 4) ((x3_30).toNatClampNeg)) then (jX0_valueOf_175 a0 p1 x3_30 (imax x2_9 x5_8) σ) else (jX0_valueOf_175 a0 p1 x3_30 x2_9 σ)) else none) else none)) else (if x4_6 = (5 : Int32) then (if vin (x3 - (1 : Int32)) 24 then (if (σ.1 (a0 + 4) (((x3 - (1 : Int32))).toNatClampNeg)) = 0 then (some (Sum.inr (Sum.inr (Sum.inr (Sum.inr (Sum.inl σ)))))) else (jX0_valueOf_198 a0 p1 x2_9 x3 x4_6 σ)) else none) else (jX0_valueOf_198 a0 p1 x2_9 x3 x4_6 σ))) else (some (Sum.inr (Sum.inr (Sum.inr (Sum.inl σ)))))))))) else none)
noncomputable def fX0_valueOf (a0 : Nat) (p1 : Int32) (σ : Sg) : Option (Int32 × Sg) := if vin p1 4 then ((let x2_3 := (σ.1 (a0 + 2) ((p1).toNatClampNeg)); (lp (fun st => bX0_valueOf_9 a0 p1 st.1 st.2.1 st.2.2) (x2_3, (0 : Int32), σ)).bind (fun o35 => Sum.elim (fun σ36 => some ((0 : Int32), σ36)) (fun o35_ => Sum.elim (fun q41 => let y38 := q41.1; let σ37 := q41.2;  if y38 ≤ 0 then (some ((0 : Int32), σ37)) else (if vin (y38 - (1 : Int32)) 24 then (some ((σ37.1 (a0 + 4) (((y38 - (1 : Int32))).toNatClampNeg)), σ37)) else none)) (fun o35__ => Sum.elim (fun σ42 => some ((0 : Int32), σ42)) (fun o35___ => Sum.elim (fun σ43 => some ((0 : Int32), σ43)) (fun o35____ => (fun σ44 => some ((0 : Int32), σ44)) o35____) o35___) o35__) o35_) o35))) else none
set_option maxRecDepth 100000 in
set_option maxHeartbeats 4000000 in
theorem mX0_valueOf {l : Launch} {G : Gm} {a0 : Nat} {p1 : Int32} {σ : Sg} {r : Int32} {σ' : Sg} (hk_a0 : gK G a0 = 1) (hf : fX0_valueOf a0 p1 σ = some (r, σ')) : Mi l G yX0_valueOf cX0_valueOf 6 .int 1 40 [.ref (gB G + a0), .int p1] σ r σ' := by
  refine of_W "RightKeys$Laws" rfl (by decide) (Nat.le_of_ble_eq_true rfl) ?_
  intro p e s m args below meth c Q hQ C hr hlk hW ls hl
  have h00 := hW.1
  have hl : lv_has ls 6 [(0, .ref (gB G + a0)), (1, .int p1)] := hl
  delta fX0_valueOf at hf
  have L9 : ∀ (n : Nat) (x2 : Int32) (x3 : Int32) (σ : Sg) (H : Heap) (locs : List Loc) (ls : Array Slot) (out : ((Sg) ⊕ ((Int32 × Sg) ⊕ ((Sg) ⊕ ((Sg) ⊕ (Sg)))))), iter (fun st => bX0_valueOf_9 a0 p1 st.1 st.2.1 st.2.2) n (x2, x3, σ) = some out → Ws G σ s.heap H locs → lv_has ls 6 [(0, .ref (gB G + a0)), (2, .int x2), (3, .int x3)] → (∀ (σ : Sg) (H : Heap) (locs : List Loc) (ls : Array Slot), out = (Sum.inl σ) → Ws G σ s.heap H locs → lv_has ls 6 [] → W p l e (rmOf 1 40) s m args below meth c H locs 0 0 Q (F0 m 76 ls [])) → (∀ (y3 : Int32) (σ : Sg) (H : Heap) (locs : List Loc) (ls : Array Slot), out = (Sum.inr (Sum.inl (y3, σ))) → Ws G σ s.heap H locs → lv_has ls 6 [(0, .ref (gB G + a0)), (3, .int y3)] → W p l e (rmOf 1 40) s m args below meth c H locs 0 0 Q (F0 m 114 ls [])) → (∀ (σ : Sg) (H : Heap) (locs : List Loc) (ls : Array Slot), out = (Sum.inr (Sum.inr (Sum.inl σ))) → Ws G σ s.heap H locs → lv_has ls 6 [] → W p l e (rmOf 1 40) s m args below meth c H locs 0 0 Q (F0 m 136 ls [])) → (∀ (σ : Sg) (H : Heap) (locs : List Loc) (ls : Array Slot), out = (Sum.inr (Sum.inr (Sum.inr (Sum.inl σ)))) → Ws G σ s.heap H locs → lv_has ls 6 [] → W p l e (rmOf 1 40) s m args below meth c H locs 0 0 Q (F0 m 196 ls [])) → (∀ (σ : Sg) (H : Heap) (locs : List Loc) (ls : Array Slot), out = (Sum.inr (Sum.inr (Sum.inr (Sum.inr σ)))) → Ws G σ s.heap H locs → lv_has ls 6 [] → W p l e (rmOf 1 40) s m args below meth c H locs 0 0 Q (F0 m 231 ls [])) → W p l e (rmOf 1 40) s m args below meth c H locs 0 0 Q (F0 m 9 ls []) := by
    intro n
    induction n with
    | zero =>
      intro x2 x3 σ H locs ls out hf
      exact (it_0 hf).elim
    | succ n ih =>
      intro x2 x3 σ H locs ls out hf hW hl K9_76 K9_114 K9_136 K9_196 K9_231
      obtain ⟨x, hf, hx⟩ := it_s hf
      have hf : bX0_valueOf_9 a0 p1 x2 x3 σ = some x := hf
      delta bX0_valueOf_9 at hf
      have J228 : ∀ (x2 : Int32) (x3 : Int32) (σ : Sg) (H : Heap) (locs : List Loc) (ls : Array Slot), jX0_valueOf_228 a0 p1 x2 x3 σ = some x → Ws G σ s.heap H locs → lv_has ls 6 [(0, .ref (gB G + a0)), (2, .int x2), (3, .int x3)] → W p l e (rmOf 1 40) s m args below meth c H locs 0 0 Q (F0 m 228 ls []) := by
        intro x2 x3 σ H locs ls hf hW hl
        delta jX0_valueOf_228 at hf
        refine lv_goto (tgt := 9) C.1.1 C.1.2.1 dX0_valueOf_228 (by decide) ?_
        cases hf
        exact ih _ _ _ _ _ _ _ hx hW (lv_sub hl [0, 1, 2] rfl) K9_76 K9_114 K9_136 K9_196 K9_231
      have J100 : ∀ (x2 : Int32) (x3 : Int32) (s0 : Nat) (s1 : Int32) (s2 : Int32) (σ : Sg) (H : Heap) (locs : List Loc) (ls : Array Slot) (hk_s0 : gK G s0 = kA 1 24), jX0_valueOf_100 a0 p1 x2 x3 s0 s1 s2 σ = some x → Ws G σ s.heap H locs → lv_has ls 6 [(0, .ref (gB G + a0)), (2, .int x2), (3, .int x3)] → W p l e (rmOf 1 40) s m args below meth c H locs 0 0 Q (F0 m 100 ls [.int s2, .int s1, .ref (gB G + s0)]) := by
        intro x2 x3 s0 s1 s2 σ H locs ls hk_s0 hf hW hl
        delta jX0_valueOf_100 at hf
        obtain ⟨hv13, hf⟩ := gd hf
        refine wsi C hW hk_s0 (vin_p hv13) dX0_valueOf_100 (fun H locs hW => ?_)
        refine lv_iinc (v := _) (lv' := [(3, .int _), (0, .ref _), (2, .int _)]) C.1.1 C.1.2.1 dX0_valueOf_101 hl (k := 2) rfl (ii (k := 1) (by decide)) (by decide) rfl (fun ls hl => ?_)
        refine lv_goto (tgt := 228) C.1.1 C.1.2.1 dX0_valueOf_104 (by decide) ?_
        exact J228 _ _ _ _ _ _ hf hW (lv_sub hl [1, 2, 0] rfl)
      have J78 : ∀ (x2 : Int32) (x3 : Int32) (x4 : Int32) (x5 : Int32) (σ : Sg) (H : Heap) (locs : List Loc) (ls : Array Slot), jX0_valueOf_78 a0 p1 x2 x3 x4 x5 σ = some x → Ws G σ s.heap H locs → lv_has ls 6 [(0, .ref (gB G + a0)), (2, .int x2), (3, .int x3), (4, .int x4), (5, .int x5)] → W p l e (rmOf 1 40) s m args below meth c H locs 0 0 Q (F0 m 78 ls []) := by
        intro x2 x3 x4 x5 σ H locs ls hf hW hl
        delta jX0_valueOf_78 at hf
        refine lv_aload_n C.1.1 C.1.2.1 dX0_valueOf_78 rfl (lv_at hl 0 rfl) ?_
        have hk10 := sh0_4 hW hk_a0
        refine gf0_4 C hW hk_a0 w_164 dX0_valueOf_79 ?_
        refine lv_iload_n C.1.1 C.1.2.1 dX0_valueOf_82 rfl (lv_at hl 2 rfl) ?_
        refine lv_iload C.1.1 C.1.2.1 dX0_valueOf_83 (lv_at hl 3 rfl) ?_
        refine lv_if_ne (tgt := 93) C.1.1 C.1.2.1 dX0_valueOf_85 (by decide) (fun h9 => ?_) (fun h9 => ?_)
        · replace hf := (if_neg h9).symm.trans hf
          refine lv_aload_n C.1.1 C.1.2.1 dX0_valueOf_93 rfl (lv_at hl 0 rfl) ?_
          have hk11 := sh0_3 hW hk_a0
          refine gf0_3 C hW hk_a0 w_162 dX0_valueOf_94 ?_
          refine lv_iload C.1.1 C.1.2.1 dX0_valueOf_97 (lv_at hl 4 rfl) ?_
          obtain ⟨hv12, hf⟩ := gd hf
          refine wai C hW hk11 (vin_p hv12) dX0_valueOf_99 ?_
          exact J100 _ _ _ _ _ _ _ _ _ hk10 hf hW (lv_sub hl [0, 1, 2] rfl)
        · replace hf := (if_pos h9).symm.trans hf
          refine lv_iload C.1.1 C.1.2.1 dX0_valueOf_88 (lv_at hl 4 rfl) ?_
          refine lv_goto (tgt := 100) C.1.1 C.1.2.1 dX0_valueOf_90 (by decide) ?_
          exact J100 _ _ _ _ _ _ _ _ _ hk10 hf hW (lv_sub hl [0, 1, 2] rfl)
      have J52 : ∀ (x2 : Int32) (x3 : Int32) (x4 : Int32) (x5 : Int32) (σ : Sg) (H : Heap) (locs : List Loc) (ls : Array Slot), jX0_valueOf_52 a0 p1 x2 x3 x4 x5 σ = some x → Ws G σ s.heap H locs → lv_has ls 6 [(0, .ref (gB G + a0)), (2, .int x2), (3, .int x3), (4, .int x4), (5, .int x5)] → W p l e (rmOf 1 40) s m args below meth c H locs 0 0 Q (F0 m 52 ls []) := by
        intro x2 x3 x4 x5 σ H locs ls hf hW hl
        delta jX0_valueOf_52 at hf
        refine lv_iload_n C.1.1 C.1.2.1 dX0_valueOf_52 rfl (lv_at hl 2 rfl) ?_
        refine lv_bipush (v := 24) C.1.1 C.1.2.1 dX0_valueOf_53 (by decide) ?_
        refine lv_icmp_ge (tgt := 76) C.1.1 C.1.2.1 dX0_valueOf_55 (by decide) (fun h9 => ?_) (fun h9 => ?_)
        · replace hf := (if_pos h9).symm.trans hf
          cases hf
          cases hx
          exact K9_76 _ _ _ _ rfl hW (lv_sub hl [] rfl)
        · replace hf := (if_neg h9).symm.trans hf
          refine lv_iload C.1.1 C.1.2.1 dX0_valueOf_58 (lv_at hl 3 rfl) ?_
          refine lv_iconst (v := 1) C.1.1 C.1.2.1 dX0_valueOf_60 (by decide) ?_
          refine lv_icmp_ne (tgt := 78) C.1.1 C.1.2.1 dX0_valueOf_61 (by decide) (fun h9 => ?_) (fun h9 => ?_)
          · replace hf := (if_neg h9).symm.trans hf
            exact J78 _ _ _ _ _ _ _ _ hf hW (lv_sub hl [0, 1, 2, 3, 4] rfl)
          · replace hf := (if_pos h9).symm.trans hf
            refine lv_iload C.1.1 C.1.2.1 dX0_valueOf_64 (lv_at hl 4 rfl) ?_
            refine lv_if_lt (tgt := 76) C.1.1 C.1.2.1 dX0_valueOf_66 (by decide) (fun h9 => ?_) (fun h9 => ?_)
            · replace hf := (if_pos h9).symm.trans hf
              cases hf
              cases hx
              exact K9_76 _ _ _ _ rfl hW (lv_sub hl [] rfl)
            · replace hf := (if_neg h9).symm.trans hf
              refine lv_iload C.1.1 C.1.2.1 dX0_valueOf_69 (lv_at hl 4 rfl) ?_
              refine lv_bipush (v := 9) C.1.1 C.1.2.1 dX0_valueOf_71 (by decide) ?_
              refine lv_icmp_lt (tgt := 78) C.1.1 C.1.2.1 dX0_valueOf_73 (by decide) (fun h9 => ?_) (fun h9 => ?_)
              · replace hf := (if_pos h9).symm.trans hf
                exact J78 _ _ _ _ _ _ _ _ hf hW (lv_sub hl [0, 1, 2, 3, 4] rfl)
              · replace hf := (if_neg h9).symm.trans hf
                cases hf
                cases hx
                exact K9_76 _ _ _ _ rfl hW (lv_sub hl [] rfl)
      have J198 : ∀ (x2 : Int32) (x3 : Int32) (x4 : Int32) (σ : Sg) (H : Heap) (locs : List Loc) (ls : Array Slot), jX0_valueOf_198 a0 p1 x2 x3 x4 σ = some x → Ws G σ s.heap H locs → lv_has ls 6 [(0, .ref (gB G + a0)), (2, .int x2), (3, .int x3), (4, .int x4)] → W p l e (rmOf 1 40) s m args below meth c H locs 0 0 Q (F0 m 198 ls []) := by
        intro x2 x3 x4 σ H locs ls hf hW hl
        delta jX0_valueOf_198 at hf
        refine lv_iinc (v := _) (lv' := [(3, .int _), (0, .ref _), (2, .int _), (4, .int _)]) C.1.1 C.1.2.1 dX0_valueOf_198 hl (k := 2) rfl (ii (k := (-1)) (by decide)) (by decide) rfl (fun ls hl => ?_)
        refine lv_aload_n C.1.1 C.1.2.1 dX0_valueOf_201 rfl (lv_at hl 1 rfl) ?_
        have hk17 := sh0_4 hW hk_a0
        refine gf0_4 C hW hk_a0 w_164 dX0_valueOf_202 ?_
        refine lv_iload_n C.1.1 C.1.2.1 dX0_valueOf_205 rfl (lv_at hl 0 rfl) ?_
        refine lv_iconst (v := 1) C.1.1 C.1.2.1 dX0_valueOf_206 (by decide) ?_
        refine lv_isub C.1.1 C.1.2.1 dX0_valueOf_207 ?_
        refine lv_iload C.1.1 C.1.2.1 dX0_valueOf_208 (lv_at hl 3 rfl) ?_
        refine lv_aload_n C.1.1 C.1.2.1 dX0_valueOf_210 rfl (lv_at hl 1 rfl) ?_
        have hk18 := sh0_4 hW hk_a0
        refine gf0_4 C hW hk_a0 w_164 dX0_valueOf_211 ?_
        refine lv_iload_n C.1.1 C.1.2.1 dX0_valueOf_214 rfl (lv_at hl 0 rfl) ?_
        refine lv_iconst (v := 1) C.1.1 C.1.2.1 dX0_valueOf_215 (by decide) ?_
        refine lv_isub C.1.1 C.1.2.1 dX0_valueOf_216 ?_
        obtain ⟨hv19, hf⟩ := gd hf
        refine wai C hW hk18 (vin_p hv19) dX0_valueOf_217 ?_
        refine lv_aload_n C.1.1 C.1.2.1 dX0_valueOf_218 rfl (lv_at hl 1 rfl) ?_
        have hk20 := sh0_4 hW hk_a0
        refine gf0_4 C hW hk_a0 w_164 dX0_valueOf_219 ?_
        refine lv_iload_n C.1.1 C.1.2.1 dX0_valueOf_222 rfl (lv_at hl 0 rfl) ?_
        obtain ⟨hv21, hf⟩ := gd hf
        refine wai C hW hk20 (vin_p hv21) dX0_valueOf_223 ?_
        obtain ⟨⟨r24, σ23⟩, hc22, hf⟩ := bd hf
        try dsimp only at hf
        refine cSi C hW (mX0_joined hc22) ksX0_joined w_705 ⟨(Nat.le_of_ble_eq_true rfl), (Nat.le_of_ble_eq_true rfl)⟩ ⟨Nat.zero_le _, Nat.zero_le _⟩ rfl hl.1 (rest := [.int _, .ref _]) rfl (Nat.le_of_ble_eq_true rfl) dX0_valueOf_224 (fun H locs hn25 hW => ?_)
        refine wsi C hW hk17 (vin_p hv19) dX0_valueOf_227 (fun H locs hW => ?_)
        exact J228 _ _ _ _ _ _ hf hW (lv_sub hl [1, 2, 0] rfl)
      have J175 : ∀ (x3 : Int32) (s0 : Int32) (σ : Sg) (H : Heap) (locs : List Loc) (ls : Array Slot), jX0_valueOf_175 a0 p1 x3 s0 σ = some x → Ws G σ s.heap H locs → lv_has ls 6 [(0, .ref (gB G + a0)), (3, .int x3)] → W p l e (rmOf 1 40) s m args below meth c H locs 0 0 Q (F0 m 175 ls [.int s0]) := by
        intro x3 s0 σ H locs ls hf hW hl
        delta jX0_valueOf_175 at hf
        refine lv_istore_n (lv' := [(2, .int _), (0, .ref _), (3, .int _)]) C.1.1 C.1.2.1 dX0_valueOf_175 rfl hl (by decide) rfl (fun ls hl => ?_)
        refine lv_goto (tgt := 228) C.1.1 C.1.2.1 dX0_valueOf_176 (by decide) ?_
        exact J228 _ _ _ _ _ _ hf hW (lv_sub hl [1, 0, 2] rfl)
      refine lv_iload_n C.1.1 C.1.2.1 dX0_valueOf_9 rfl (lv_at hl 1 rfl) ?_
      refine lv_aload_n C.1.1 C.1.2.1 dX0_valueOf_10 rfl (lv_at hl 0 rfl) ?_
      refine gf0_1 C hW hk_a0 w_158 dX0_valueOf_11 ?_
      refine lv_icmp_ge (tgt := 231) C.1.1 C.1.2.1 dX0_valueOf_14 (by decide) (fun h9 => ?_) (fun h9 => ?_)
      · replace hf := (if_pos h9).symm.trans hf
        cases hf
        cases hx
        exact K9_231 _ _ _ _ rfl hW (lv_sub hl [] rfl)
      · replace hf := (if_neg h9).symm.trans hf
        refine lv_aload_n C.1.1 C.1.2.1 dX0_valueOf_17 rfl (lv_at hl 0 rfl) ?_
        have hk4 := sh0_0 hW hk_a0
        refine gf0_0 C hW hk_a0 w_157 dX0_valueOf_18 ?_
        refine lv_iload_n C.1.1 C.1.2.1 dX0_valueOf_21 rfl (lv_at hl 1 rfl) ?_
        obtain ⟨hv5, hf⟩ := gd hf
        refine wai C hW hk4 (vin_p hv5) dX0_valueOf_22 ?_
        refine lv_bipush (v := 15) C.1.1 C.1.2.1 dX0_valueOf_23 (by decide) ?_
        refine lv_iand C.1.1 C.1.2.1 dX0_valueOf_25 ?_
        refine lv_istore (lv' := [(4, .int _), (0, .ref _), (2, .int _), (3, .int _)]) C.1.1 C.1.2.1 dX0_valueOf_26 hl (by decide) rfl (fun ls hl => ?_)
        refine lv_aload_n C.1.1 C.1.2.1 dX0_valueOf_28 rfl (lv_at hl 1 rfl) ?_
        have hk7 := sh0_0 hW hk_a0
        refine gf0_0 C hW hk_a0 w_157 dX0_valueOf_29 ?_
        refine lv_iload_n C.1.1 C.1.2.1 dX0_valueOf_32 rfl (lv_at hl 2 rfl) ?_
        refine wai C hW hk7 (vin_p hv5) dX0_valueOf_33 ?_
        refine lv_iconst (v := 4) C.1.1 C.1.2.1 dX0_valueOf_34 (by decide) ?_
        refine lv_ishr C.1.1 C.1.2.1 dX0_valueOf_35 ?_
        refine lv_istore (lv' := [(5, .int _), (4, .int _), (0, .ref _), (2, .int _), (3, .int _)]) C.1.1 C.1.2.1 dX0_valueOf_36 hl (by decide) rfl (fun ls hl => ?_)
        refine lv_iinc (v := _) (lv' := [(2, .int _), (5, .int _), (4, .int _), (0, .ref _), (3, .int _)]) C.1.1 C.1.2.1 dX0_valueOf_38 hl (k := 3) rfl (ii (k := 1) (by decide)) (by decide) rfl (fun ls hl => ?_)
        refine lv_iload C.1.1 C.1.2.1 dX0_valueOf_41 (lv_at hl 2 rfl) ?_
        refine lv_if_eq (tgt := 52) C.1.1 C.1.2.1 dX0_valueOf_43 (by decide) (fun h9 => ?_) (fun h9 => ?_)
        · replace hf := (if_pos h9).symm.trans hf
          exact J52 _ _ _ _ _ _ _ _ hf hW (lv_sub hl [3, 0, 4, 2, 1] rfl)
        · replace hf := (if_neg h9).symm.trans hf
          refine lv_iload C.1.1 C.1.2.1 dX0_valueOf_46 (lv_at hl 2 rfl) ?_
          refine lv_iconst (v := 1) C.1.1 C.1.2.1 dX0_valueOf_48 (by decide) ?_
          refine lv_icmp_ne (tgt := 107) C.1.1 C.1.2.1 dX0_valueOf_49 (by decide) (fun h9 => ?_) (fun h9 => ?_)
          · replace hf := (if_neg h9).symm.trans hf
            refine lv_iload C.1.1 C.1.2.1 dX0_valueOf_107 (lv_at hl 2 rfl) ?_
            refine lv_bipush (v := 7) C.1.1 C.1.2.1 dX0_valueOf_109 (by decide) ?_
            refine lv_icmp_ne (tgt := 131) C.1.1 C.1.2.1 dX0_valueOf_111 (by decide) (fun h9 => ?_) (fun h9 => ?_)
            · replace hf := (if_neg h9).symm.trans hf
              refine lv_iload_n C.1.1 C.1.2.1 dX0_valueOf_131 rfl (lv_at hl 4 rfl) ?_
              refine lv_iconst (v := 2) C.1.1 C.1.2.1 dX0_valueOf_132 (by decide) ?_
              refine lv_icmp_ge (tgt := 138) C.1.1 C.1.2.1 dX0_valueOf_133 (by decide) (fun h9 => ?_) (fun h9 => ?_)
              · replace hf := (if_pos h9).symm.trans hf
                refine lv_iload C.1.1 C.1.2.1 dX0_valueOf_138 (lv_at hl 2 rfl) ?_
                refine lv_bipush (v := 6) C.1.1 C.1.2.1 dX0_valueOf_140 (by decide) ?_
                refine lv_icmp_ne (tgt := 179) C.1.1 C.1.2.1 dX0_valueOf_142 (by decide) (fun h9 => ?_) (fun h9 => ?_)
                · replace hf := (if_neg h9).symm.trans hf
                  refine lv_iload C.1.1 C.1.2.1 dX0_valueOf_179 (lv_at hl 2 rfl) ?_
                  refine lv_iconst (v := 5) C.1.1 C.1.2.1 dX0_valueOf_181 (by decide) ?_
                  refine lv_icmp_ne (tgt := 198) C.1.1 C.1.2.1 dX0_valueOf_182 (by decide) (fun h9 => ?_) (fun h9 => ?_)
                  · replace hf := (if_neg h9).symm.trans hf
                    exact J198 _ _ _ _ _ _ _ hf hW (lv_sub hl [3, 0, 4, 2] rfl)
                  · replace hf := (if_pos h9).symm.trans hf
                    refine lv_aload_n C.1.1 C.1.2.1 dX0_valueOf_185 rfl (lv_at hl 3 rfl) ?_
                    have hk28 := sh0_4 hW hk_a0
                    refine gf0_4 C hW hk_a0 w_164 dX0_valueOf_186 ?_
                    refine lv_iload_n C.1.1 C.1.2.1 dX0_valueOf_189 rfl (lv_at hl 4 rfl) ?_
                    refine lv_iconst (v := 1) C.1.1 C.1.2.1 dX0_valueOf_190 (by decide) ?_
                    refine lv_isub C.1.1 C.1.2.1 dX0_valueOf_191 ?_
                    obtain ⟨hv29, hf⟩ := gd hf
                    refine wai C hW hk28 (vin_p hv29) dX0_valueOf_192 ?_
                    refine lv_if_ne (tgt := 198) C.1.1 C.1.2.1 dX0_valueOf_193 (by decide) (fun h9 => ?_) (fun h9 => ?_)
                    · replace hf := (if_neg h9).symm.trans hf
                      exact J198 _ _ _ _ _ _ _ hf hW (lv_sub hl [3, 0, 4, 2] rfl)
                    · replace hf := (if_pos h9).symm.trans hf
                      cases hf
                      cases hx
                      exact K9_196 _ _ _ _ rfl hW (lv_sub hl [] rfl)
                · replace hf := (if_pos h9).symm.trans hf
                  refine lv_iinc (v := _) (lv' := [(3, .int _), (2, .int _), (5, .int _), (4, .int _), (0, .ref _)]) C.1.1 C.1.2.1 dX0_valueOf_145 hl (k := 4) rfl (ii (k := (-2)) (by decide)) (by decide) rfl (fun ls hl => ?_)
                  refine lv_aload_n C.1.1 C.1.2.1 dX0_valueOf_148 rfl (lv_at hl 4 rfl) ?_
                  have hk31 := sh0_4 hW hk_a0
                  refine gf0_4 C hW hk_a0 w_164 dX0_valueOf_149 ?_
                  refine lv_iload_n C.1.1 C.1.2.1 dX0_valueOf_152 rfl (lv_at hl 0 rfl) ?_
                  obtain ⟨hv32, hf⟩ := gd hf
                  refine wai C hW hk31 (vin_p hv32) dX0_valueOf_153 ?_
                  refine lv_aload_n C.1.1 C.1.2.1 dX0_valueOf_154 rfl (lv_at hl 4 rfl) ?_
                  have hk33 := sh0_4 hW hk_a0
                  refine gf0_4 C hW hk_a0 w_164 dX0_valueOf_155 ?_
                  refine lv_iload_n C.1.1 C.1.2.1 dX0_valueOf_158 rfl (lv_at hl 0 rfl) ?_
                  refine lv_iconst (v := 1) C.1.1 C.1.2.1 dX0_valueOf_159 (by decide) ?_
                  refine lv_iadd C.1.1 C.1.2.1 dX0_valueOf_160 ?_
                  obtain ⟨hv34, hf⟩ := gd hf
                  refine wai C hW hk33 (vin_p hv34) dX0_valueOf_161 ?_
                  refine lv_icmp_ge (tgt := 169) C.1.1 C.1.2.1 dX0_valueOf_162 (by decide) (fun h9 => ?_) (fun h9 => ?_)
                  · replace hf := (if_pos h9).symm.trans hf
                    refine lv_iload_n C.1.1 C.1.2.1 dX0_valueOf_169 rfl (lv_at hl 1 rfl) ?_
                    refine lv_iload C.1.1 C.1.2.1 dX0_valueOf_170 (lv_at hl 2 rfl) ?_
                    refine cMax C w_702 w_703 w_121 w_704 hl.1 (Nat.le_of_ble_eq_true rfl) (Nat.le_of_ble_eq_true rfl) ⟨Nat.zero_le _, Nat.zero_le _⟩ dX0_valueOf_172 ?_
                    exact J175 _ _ _ _ _ _ hf hW (lv_sub hl [4, 0] rfl)
                  · replace hf := (if_neg h9).symm.trans hf
                    refine lv_iload_n C.1.1 C.1.2.1 dX0_valueOf_165 rfl (lv_at hl 1 rfl) ?_
                    refine lv_goto (tgt := 175) C.1.1 C.1.2.1 dX0_valueOf_166 (by decide) ?_
                    exact J175 _ _ _ _ _ _ hf hW (lv_sub hl [4, 0] rfl)
              · replace hf := (if_neg h9).symm.trans hf
                cases hf
                cases hx
                exact K9_136 _ _ _ _ rfl hW (lv_sub hl [] rfl)
            · replace hf := (if_pos h9).symm.trans hf
              cases hf
              cases hx
              exact K9_114 _ _ _ _ _ rfl hW (lv_sub hl [3, 4] rfl)
          · replace hf := (if_pos h9).symm.trans hf
            exact J52 _ _ _ _ _ _ _ _ hf hW (lv_sub hl [3, 0, 4, 2, 1] rfl)
  refine lv_aload_n C.1.1 C.1.2.1 dX0_valueOf_0 rfl (lv_at hl 0 rfl) ?_
  have hk1 := sh0_2 hW hk_a0
  refine gf0_2 C hW hk_a0 w_160 dX0_valueOf_1 ?_
  refine lv_iload_n C.1.1 C.1.2.1 dX0_valueOf_4 rfl (lv_at hl 1 rfl) ?_
  obtain ⟨hv2, hf⟩ := gd hf
  refine wai C hW hk1 (vin_p hv2) dX0_valueOf_5 ?_
  refine lv_istore_n (lv' := [(2, .int _), (0, .ref _), (1, .int _)]) C.1.1 C.1.2.1 dX0_valueOf_6 rfl hl (by decide) rfl (fun ls hl => ?_)
  refine lv_iconst (v := 0) C.1.1 C.1.2.1 dX0_valueOf_7 (by decide) ?_
  refine lv_istore_n (lv' := [(3, .int _), (2, .int _), (0, .ref _), (1, .int _)]) C.1.1 C.1.2.1 dX0_valueOf_8 rfl hl (by decide) rfl (fun ls hl => ?_)
  obtain ⟨o35, ho, hf⟩ := bd hf
  obtain ⟨n, ho⟩ := lp_it ho
  refine L9 n _ _ _ _ _ _ o35 ho hW (lv_sub hl [2, 1, 0] rfl) ?_ ?_ ?_ ?_ ?_
  · intro  σ36 H locs ls e9 hW hl
    subst e9
    try dsimp only at hf
    refine lv_iconst (v := 0) C.1.1 C.1.2.1 dX0_valueOf_76 (by decide) ?_
    exact ri hQ C hr hlk hW hf (rok_i _) dX0_valueOf_77
  · intro y38 σ37 H locs ls e9 hW hl
    subst e9
    try dsimp only at hf
    refine lv_iload_n C.1.1 C.1.2.1 dX0_valueOf_114 rfl (lv_at hl 1 rfl) ?_
    refine lv_if_le (tgt := 129) C.1.1 C.1.2.1 dX0_valueOf_115 (by decide) (fun h9 => ?_) (fun h9 => ?_)
    · replace hf := (if_pos h9).symm.trans hf
      refine lv_iconst (v := 0) C.1.1 C.1.2.1 dX0_valueOf_129 (by decide) ?_
      exact ri hQ C hr hlk hW hf (rok_i _) dX0_valueOf_130
    · replace hf := (if_neg h9).symm.trans hf
      refine lv_aload_n C.1.1 C.1.2.1 dX0_valueOf_118 rfl (lv_at hl 0 rfl) ?_
      have hk39 := sh0_4 hW hk_a0
      refine gf0_4 C hW hk_a0 w_164 dX0_valueOf_119 ?_
      refine lv_iload_n C.1.1 C.1.2.1 dX0_valueOf_122 rfl (lv_at hl 1 rfl) ?_
      refine lv_iconst (v := 1) C.1.1 C.1.2.1 dX0_valueOf_123 (by decide) ?_
      refine lv_isub C.1.1 C.1.2.1 dX0_valueOf_124 ?_
      obtain ⟨hv40, hf⟩ := gd hf
      refine wai C hW hk39 (vin_p hv40) dX0_valueOf_125 ?_
      refine lv_goto (tgt := 130) C.1.1 C.1.2.1 dX0_valueOf_126 (by decide) ?_
      exact ri hQ C hr hlk hW hf (rok_i _) dX0_valueOf_130
  · intro  σ42 H locs ls e9 hW hl
    subst e9
    try dsimp only at hf
    refine lv_iconst (v := 0) C.1.1 C.1.2.1 dX0_valueOf_136 (by decide) ?_
    exact ri hQ C hr hlk hW hf (rok_i _) dX0_valueOf_137
  · intro  σ43 H locs ls e9 hW hl
    subst e9
    try dsimp only at hf
    refine lv_iconst (v := 0) C.1.1 C.1.2.1 dX0_valueOf_196 (by decide) ?_
    exact ri hQ C hr hlk hW hf (rok_i _) dX0_valueOf_197
  · intro  σ44 H locs ls e9 hW hl
    subst e9
    try dsimp only at hf
    refine lv_iconst (v := 0) C.1.1 C.1.2.1 dX0_valueOf_231 (by decide) ?_
    exact ri hQ C hr hlk hW hf (rok_i _) dX0_valueOf_232
theorem kvX3_clear : KV 3 "RightKeys$Text" yX3_clear cX3_clear 1 none 0 := ⟨⟨w_568, w_569, w_110, w_570⟩, ⟨rfl, by decide, by decide, by decide +kernel⟩, by decide, rfl⟩
noncomputable def fX3_clear (a0 : Nat) (σ : Sg) : Option (Sg) := (let σ1 := wI σ a0 0 (0 : Int32); let σ2 := wI σ1 a0 1 (0 : Int32); let σ3 := wI σ2 a0 2 (0 : Int32); let σ4 := wI σ3 a0 3 (0 : Int32); (fX0_clear (a0 + 7) σ4).bind (fun σ7 => some σ7))
set_option maxRecDepth 100000 in
set_option maxHeartbeats 4000000 in
theorem mX3_clear {l : Launch} {G : Gm} {a0 : Nat} {σ : Sg} {σ' : Sg} (hk_a0 : gK G a0 = 4) (hf : fX3_clear a0 σ = some σ') : Mv l G yX3_clear cX3_clear 1 3 66 [.ref (gB G + a0)] σ σ' := by
  refine of_W "RightKeys$Text" rfl (by decide) (Nat.le_of_ble_eq_true rfl) ?_
  intro p e s m args below meth c Q hQ C hr hlk hW ls hl
  have h00 := hW.1
  have hl : lv_has ls 1 [(0, .ref (gB G + a0))] := hl
  delta fX3_clear at hf
  refine lv_aload_n C.1.1 C.1.2.1 dX3_clear_0 rfl (lv_at hl 0 rfl) ?_
  refine lv_iconst (v := 0) C.1.1 C.1.2.1 dX3_clear_1 (by decide) ?_
  refine pf3_0 C hW hk_a0 w_179 dX3_clear_2 (fun H locs hW => ?_)
  refine lv_aload_n C.1.1 C.1.2.1 dX3_clear_5 rfl (lv_at hl 0 rfl) ?_
  refine lv_iconst (v := 0) C.1.1 C.1.2.1 dX3_clear_6 (by decide) ?_
  refine pf3_1 C hW hk_a0 w_183 dX3_clear_7 (fun H locs hW => ?_)
  refine lv_aload_n C.1.1 C.1.2.1 dX3_clear_10 rfl (lv_at hl 0 rfl) ?_
  refine lv_iconst (v := 0) C.1.1 C.1.2.1 dX3_clear_11 (by decide) ?_
  refine pf3_2 C hW hk_a0 w_187 dX3_clear_12 (fun H locs hW => ?_)
  refine lv_aload_n C.1.1 C.1.2.1 dX3_clear_15 rfl (lv_at hl 0 rfl) ?_
  refine lv_iconst (v := 0) C.1.1 C.1.2.1 dX3_clear_16 (by decide) ?_
  refine pf3_3 C hW hk_a0 w_191 dX3_clear_17 (fun H locs hW => ?_)
  refine lv_aload_n C.1.1 C.1.2.1 dX3_clear_20 rfl (lv_at hl 0 rfl) ?_
  have hk5 := sh3_10 hW hk_a0
  refine gf3_10 C hW hk_a0 w_213 dX3_clear_21 ?_
  obtain ⟨σ7, hc6, hf⟩ := bd hf
  try dsimp only at hf
  refine cVv C hW (mX0_clear hk5 hc6) hk5 kvX0_clear w_571 ⟨(Nat.le_of_ble_eq_true rfl), (Nat.le_of_ble_eq_true rfl)⟩ ⟨Nat.zero_le _, Nat.zero_le _⟩ rfl hl.1 (rest := []) rfl (Nat.le_of_ble_eq_true rfl) dX3_clear_24 (fun H locs hW => ?_)
  exact rv hQ C hr hlk hW hf dX3_clear_27
theorem kvX3_houseNamed : KV 3 "RightKeys$Text" yX3_houseNamed cX3_houseNamed 4 (some .int) 1 := ⟨⟨w_597, w_598, w_110, w_599⟩, ⟨rfl, by decide, by decide, by decide +kernel⟩, by decide, rfl⟩
noncomputable def bX3_houseNamed_2 (a0 : Nat) (p1 : Int64) (x3 : Int32) (σ : Sg) : Option ((Int32 × Sg) ⊕ ((Int32 × Sg) ⊕ (Sg))) := if (σ.1 a0 0) ≤ x3 then (some (Sum.inr (Sum.inr σ))) else (if vin x3 8 then (if (lg_cmp (σ.2.1 (a0 + 1) ((x3).toNatClampNeg)) p1) = 0 then (some (Sum.inr (Sum.inl (x3, σ)))) else ((let x3_3 := x3 + (1 : Int32); some (Sum.inl (x3_3, σ))))) else none)
noncomputable def fX3_houseNamed (a0 : Nat) (p1 : Int64) (σ : Sg) : Option (Int32 × Sg) := (lp (fun st => bX3_houseNamed_2 a0 p1 st.1 st.2) ((0 : Int32), σ)).bind (fun o4 => Sum.elim (fun q7 => let y6 := q7.1; let σ5 := q7.2;  some (y6, σ5)) (fun o4_ => (fun σ8 => some ((-1 : Int32), σ8)) o4_) o4)
set_option maxRecDepth 100000 in
set_option maxHeartbeats 4000000 in
theorem mX3_houseNamed {l : Launch} {G : Gm} {a0 : Nat} {p1 : Int64} {σ : Sg} {r : Int32} {σ' : Sg} (hk_a0 : gK G a0 = 4) (hf : fX3_houseNamed a0 p1 σ = some (r, σ')) : Mi l G yX3_houseNamed cX3_houseNamed 4 .int 0 0 [.ref (gB G + a0), .long p1] σ r σ' := by
  refine of_W "RightKeys$Text" rfl (by decide) (Nat.le_of_ble_eq_true rfl) ?_
  intro p e s m args below meth c Q hQ C hr hlk hW ls hl
  have h00 := hW.1
  have hl : lv_has ls 4 [(0, .ref (gB G + a0)), (1, .long p1)] := hl
  delta fX3_houseNamed at hf
  have L2 : ∀ (n : Nat) (x3 : Int32) (σ : Sg) (H : Heap) (locs : List Loc) (ls : Array Slot) (out : ((Int32 × Sg) ⊕ (Sg))), iter (fun st => bX3_houseNamed_2 a0 p1 st.1 st.2) n (x3, σ) = some out → Ws G σ s.heap H locs → lv_has ls 4 [(0, .ref (gB G + a0)), (1, .long p1), (3, .int x3)] → (∀ (y3 : Int32) (σ : Sg) (H : Heap) (locs : List Loc) (ls : Array Slot), out = (Sum.inl (y3, σ)) → Ws G σ s.heap H locs → lv_has ls 4 [(3, .int y3)] → W p l e (rmOf 0 0) s m args below meth c H locs 0 0 Q (F0 m 21 ls [])) → (∀ (σ : Sg) (H : Heap) (locs : List Loc) (ls : Array Slot), out = (Sum.inr σ) → Ws G σ s.heap H locs → lv_has ls 4 [] → W p l e (rmOf 0 0) s m args below meth c H locs 0 0 Q (F0 m 29 ls [])) → W p l e (rmOf 0 0) s m args below meth c H locs 0 0 Q (F0 m 2 ls []) := by
    intro n
    induction n with
    | zero =>
      intro x3 σ H locs ls out hf
      exact (it_0 hf).elim
    | succ n ih =>
      intro x3 σ H locs ls out hf hW hl K2_21 K2_29
      obtain ⟨x, hf, hx⟩ := it_s hf
      have hf : bX3_houseNamed_2 a0 p1 x3 σ = some x := hf
      delta bX3_houseNamed_2 at hf
      refine lv_iload_n C.1.1 C.1.2.1 dX3_houseNamed_2 rfl (lv_at hl 2 rfl) ?_
      refine lv_aload_n C.1.1 C.1.2.1 dX3_houseNamed_3 rfl (lv_at hl 0 rfl) ?_
      refine gf3_0 C hW hk_a0 w_179 dX3_houseNamed_4 ?_
      refine lv_icmp_ge (tgt := 29) C.1.1 C.1.2.1 dX3_houseNamed_7 (by decide) (fun h9 => ?_) (fun h9 => ?_)
      · replace hf := (if_pos h9).symm.trans hf
        cases hf
        cases hx
        exact K2_29 _ _ _ _ rfl hW (lv_sub hl [] rfl)
      · replace hf := (if_neg h9).symm.trans hf
        refine lv_aload_n C.1.1 C.1.2.1 dX3_houseNamed_10 rfl (lv_at hl 0 rfl) ?_
        have hk1 := sh3_4 hW hk_a0
        refine gf3_4 C hW hk_a0 w_195 dX3_houseNamed_11 ?_
        refine lv_iload_n C.1.1 C.1.2.1 dX3_houseNamed_14 rfl (lv_at hl 2 rfl) ?_
        obtain ⟨hv2, hf⟩ := gd hf
        refine wal C hW hk1 (vin_p hv2) dX3_houseNamed_15 ?_
        refine lv_lload_n C.1.1 C.1.2.1 dX3_houseNamed_16 rfl (lv_at hl 1 rfl) ?_
        refine W.lcmp C.1.1 C.1.2.1 dX3_houseNamed_17 ?_
        refine lv_if_ne (tgt := 23) C.1.1 C.1.2.1 dX3_houseNamed_18 (by decide) (fun h9 => ?_) (fun h9 => ?_)
        · replace hf := (if_neg h9).symm.trans hf
          refine lv_iinc (v := _) (lv' := [(3, .int _), (0, .ref _), (1, .long _)]) C.1.1 C.1.2.1 dX3_houseNamed_23 hl (k := 2) rfl (ii (k := 1) (by decide)) (by decide) rfl (fun ls hl => ?_)
          refine lv_goto (tgt := 2) C.1.1 C.1.2.1 dX3_houseNamed_26 (by decide) ?_
          cases hf
          exact ih _ _ _ _ _ _ hx hW (lv_sub hl [1, 2, 0] rfl) K2_21 K2_29
        · replace hf := (if_pos h9).symm.trans hf
          cases hf
          cases hx
          exact K2_21 _ _ _ _ _ rfl hW (lv_sub hl [2] rfl)
  refine lv_iconst (v := 0) C.1.1 C.1.2.1 dX3_houseNamed_0 (by decide) ?_
  refine lv_istore_n (lv' := [(3, .int _), (0, .ref _), (1, .long _)]) C.1.1 C.1.2.1 dX3_houseNamed_1 rfl hl (by decide) rfl (fun ls hl => ?_)
  obtain ⟨o4, ho, hf⟩ := bd hf
  obtain ⟨n, ho⟩ := lp_it ho
  refine L2 n _ _ _ _ _ o4 ho hW (lv_sub hl [1, 2, 0] rfl) ?_ ?_
  · intro y6 σ5 H locs ls e9 hW hl
    subst e9
    try dsimp only at hf
    refine lv_iload_n C.1.1 C.1.2.1 dX3_houseNamed_21 rfl (lv_at hl 0 rfl) ?_
    exact ri hQ C hr hlk hW hf (rok_i _) dX3_houseNamed_22
  · intro  σ8 H locs ls e9 hW hl
    subst e9
    try dsimp only at hf
    refine lv_iconst (v := (-1)) C.1.1 C.1.2.1 dX3_houseNamed_29 (by decide) ?_
    exact ri hQ C hr hlk hW hf (rok_i _) dX3_houseNamed_30
