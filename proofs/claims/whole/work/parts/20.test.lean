theorem ksX6_bit : KS yX6_bit cX6_bit 2 (some .int) 2 := ⟨⟨w_621, w_109, w_622⟩, ⟨by decide, by decide, by decide +kernel⟩⟩
noncomputable def fX6_bit (p0 : Int32) (p1 : Int32) (σ : Sg) : Option (Int32 × Sg) := some (((ius p0 p1) &&& (1 : Int32)), σ)
set_option maxRecDepth 100000 in
set_option maxHeartbeats 4000000 in
theorem mX6_bit {l : Launch} {G : Gm} {p0 : Int32} {p1 : Int32} {σ : Sg} {r : Int32} {σ' : Sg}  (hf : fX6_bit p0 p1 σ = some (r, σ')) : Mi l G yX6_bit cX6_bit 2 .int 0 0 [.int p0, .int p1] σ r σ' := by
  refine of_W "RightKeys" rfl (by decide) (Nat.le_of_ble_eq_true rfl) ?_
  intro p e s m args below meth c Q hQ C hr hlk hW ls hl
  have hl : lv_has ls 2 [(0, .int p0), (1, .int p1)] := hl
  delta fX6_bit at hf
  refine lv_iload_n C.1.1 C.1.2.1 dX6_bit_0 rfl (lv_at hl 0 rfl) ?_
  refine lv_iload_n C.1.1 C.1.2.1 dX6_bit_1 rfl (lv_at hl 1 rfl) ?_
  refine lv_iushr (v := ius _ _) C.1.1 C.1.2.1 dX6_bit_2 rfl ?_
  refine lv_iconst (v := 1) C.1.1 C.1.2.1 dX6_bit_3 (by decide) ?_
  refine lv_iand C.1.1 C.1.2.1 dX6_bit_4 ?_
  exact ri hQ C hr hlk hW hf (rok_i _) dX6_bit_5
theorem kvX2_leftOf : KV 2 "RightKeys$Ring" yX2_leftOf cX2_leftOf 2 (some .int) 1 := ⟨⟨w_736, w_24, w_114, w_737⟩, ⟨rfl, by decide, by decide, by decide +kernel⟩, by decide, rfl⟩
noncomputable def fX2_leftOf (a0 : Nat) (p1 : Int32) (σ : Sg) : Option (Int32 × Sg) := if p1 ≤ 0 then (some (((σ.1 (σ.2.2.1 a0 0) 0) - (1 : Int32)), σ)) else (some ((p1 - (1 : Int32)), σ))
set_option maxRecDepth 100000 in
set_option maxHeartbeats 4000000 in
theorem mX2_leftOf {l : Launch} {G : Gm} {a0 : Nat} {p1 : Int32} {σ : Sg} {r : Int32} {σ' : Sg} (hk_a0 : gK G a0 = 3) (hf : fX2_leftOf a0 p1 σ = some (r, σ')) : Mi l G yX2_leftOf cX2_leftOf 2 .int 0 0 [.ref (gB G + a0), .int p1] σ r σ' := by
  refine of_W "RightKeys$Ring" rfl (by decide) (Nat.le_of_ble_eq_true rfl) ?_
  intro p e s m args below meth c Q hQ C hr hlk hW ls hl
  have hl : lv_has ls 2 [(0, .ref (gB G + a0)), (1, .int p1)] := hl
  delta fX2_leftOf at hf
  refine lv_iload_n C.1.1 C.1.2.1 dX2_leftOf_0 rfl (lv_at hl 1 rfl) ?_
  refine lv_if_le (tgt := 10) C.1.1 C.1.2.1 dX2_leftOf_1 (by decide) (fun h9 => ?_) (fun h9 => ?_)
  · replace hf := (if_pos h9).symm.trans hf
    refine lv_aload_n C.1.1 C.1.2.1 dX2_leftOf_10 rfl (lv_at hl 0 rfl) ?_
    have hk1 := sh2_0 hW hk_a0
    refine gf2_0 C hW hk_a0 w_297 dX2_leftOf_11 ?_
    refine gf3_0 C hW hk1 w_180 dX2_leftOf_14 ?_
    refine lv_iconst (v := 1) C.1.1 C.1.2.1 dX2_leftOf_17 (by decide) ?_
    refine lv_isub C.1.1 C.1.2.1 dX2_leftOf_18 ?_
    exact ri hQ C hr hlk hW hf (rok_i _) dX2_leftOf_19
  · replace hf := (if_neg h9).symm.trans hf
    refine lv_iload_n C.1.1 C.1.2.1 dX2_leftOf_4 rfl (lv_at hl 1 rfl) ?_
    refine lv_iconst (v := 1) C.1.1 C.1.2.1 dX2_leftOf_5 (by decide) ?_
    refine lv_isub C.1.1 C.1.2.1 dX2_leftOf_6 ?_
    refine lv_goto (tgt := 19) C.1.1 C.1.2.1 dX2_leftOf_7 (by decide) ?_
    exact ri hQ C hr hlk hW hf (rok_i _) dX2_leftOf_19
theorem kvX2_rightOf : KV 2 "RightKeys$Ring" yX2_rightOf cX2_rightOf 2 (some .int) 1 := ⟨⟨w_740, w_25, w_114, w_741⟩, ⟨rfl, by decide, by decide, by decide +kernel⟩, by decide, rfl⟩
noncomputable def fX2_rightOf (a0 : Nat) (p1 : Int32) (σ : Sg) : Option (Int32 × Sg) := if (σ.1 (σ.2.2.1 a0 0) 0) ≤ (p1 + (1 : Int32)) then (some ((0 : Int32), σ)) else (some ((p1 + (1 : Int32)), σ))
set_option maxRecDepth 100000 in
set_option maxHeartbeats 4000000 in
theorem mX2_rightOf {l : Launch} {G : Gm} {a0 : Nat} {p1 : Int32} {σ : Sg} {r : Int32} {σ' : Sg} (hk_a0 : gK G a0 = 3) (hf : fX2_rightOf a0 p1 σ = some (r, σ')) : Mi l G yX2_rightOf cX2_rightOf 2 .int 0 0 [.ref (gB G + a0), .int p1] σ r σ' := by
  refine of_W "RightKeys$Ring" rfl (by decide) (Nat.le_of_ble_eq_true rfl) ?_
  intro p e s m args below meth c Q hQ C hr hlk hW ls hl
  have hl : lv_has ls 2 [(0, .ref (gB G + a0)), (1, .int p1)] := hl
  delta fX2_rightOf at hf
  refine lv_iload_n C.1.1 C.1.2.1 dX2_rightOf_0 rfl (lv_at hl 1 rfl) ?_
  refine lv_iconst (v := 1) C.1.1 C.1.2.1 dX2_rightOf_1 (by decide) ?_
  refine lv_iadd C.1.1 C.1.2.1 dX2_rightOf_2 ?_
  refine lv_aload_n C.1.1 C.1.2.1 dX2_rightOf_3 rfl (lv_at hl 0 rfl) ?_
  have hk1 := sh2_0 hW hk_a0
  refine gf2_0 C hW hk_a0 w_297 dX2_rightOf_4 ?_
  refine gf3_0 C hW hk1 w_180 dX2_rightOf_7 ?_
  refine lv_icmp_ge (tgt := 19) C.1.1 C.1.2.1 dX2_rightOf_10 (by decide) (fun h9 => ?_) (fun h9 => ?_)
  · replace hf := (if_pos h9).symm.trans hf
    refine lv_iconst (v := 0) C.1.1 C.1.2.1 dX2_rightOf_19 (by decide) ?_
    exact ri hQ C hr hlk hW hf (rok_i _) dX2_rightOf_20
  · replace hf := (if_neg h9).symm.trans hf
    refine lv_iload_n C.1.1 C.1.2.1 dX2_rightOf_13 rfl (lv_at hl 1 rfl) ?_
    refine lv_iconst (v := 1) C.1.1 C.1.2.1 dX2_rightOf_14 (by decide) ?_
    refine lv_iadd C.1.1 C.1.2.1 dX2_rightOf_15 ?_
    refine lv_goto (tgt := 20) C.1.1 C.1.2.1 dX2_rightOf_16 (by decide) ?_
    exact ri hQ C hr hlk hW hf (rok_i _) dX2_rightOf_20
theorem kvX2_hasOwnSpare : KV 2 "RightKeys$Ring" yX2_hasOwnSpare cX2_hasOwnSpare 3 (some .boolean) 1 := ⟨⟨w_744, w_26, w_114, w_745⟩, ⟨rfl, by decide, by decide, by decide +kernel⟩, by decide, rfl⟩
noncomputable def jX2_hasOwnSpare_38 (a0 : Nat) (p1 : Int32) (x2 : Int32) (σ : Sg) : Option ((Int32 × Sg) ⊕ ((Sg) ⊕ (Sg))) := (let x2_5 := x2 + (1 : Int32); some (Sum.inl (x2_5, σ)))
noncomputable def bX2_hasOwnSpare_2 (a0 : Nat) (p1 : Int32) (x2 : Int32) (σ : Sg) : Option ((Int32 × Sg) ⊕ ((Sg) ⊕ (Sg))) := if (σ.1 (σ.2.2.1 a0 0) 1) ≤ x2 then (some (Sum.inr (Sum.inr σ))) else (if vin x2 6 then (if (σ.1 ((σ.2.2.1 a0 0) + 5) ((x2).toNatClampNeg)) = p1 then (if (σ.1 (a0 + 7) ((x2).toNatClampNeg)) = p1 then (some (Sum.inr (Sum.inl σ))) else (jX2_hasOwnSpare_38 a0 p1 x2 σ)) else (jX2_hasOwnSpare_38 a0 p1 x2 σ)) else none)
noncomputable def fX2_hasOwnSpare (a0 : Nat) (p1 : Int32) (σ : Sg) : Option (Int32 × Sg) := (lp (fun st => bX2_hasOwnSpare_2 a0 p1 st.1 st.2) ((0 : Int32), σ)).bind (fun o7 => Sum.elim (fun σ8 => some ((1 : Int32), σ8)) (fun o7_ => (fun σ9 => some ((0 : Int32), σ9)) o7_) o7)
set_option maxRecDepth 100000 in
set_option maxHeartbeats 4000000 in
theorem mX2_hasOwnSpare {l : Launch} {G : Gm} {a0 : Nat} {p1 : Int32} {σ : Sg} {r : Int32} {σ' : Sg} (hk_a0 : gK G a0 = 3) (hf : fX2_hasOwnSpare a0 p1 σ = some (r, σ')) : Mi l G yX2_hasOwnSpare cX2_hasOwnSpare 3 .boolean 0 0 [.ref (gB G + a0), .int p1] σ r σ' := by
  refine of_W "RightKeys$Ring" rfl (by decide) (Nat.le_of_ble_eq_true rfl) ?_
  intro p e s m args below meth c Q hQ C hr hlk hW ls hl
  have hl : lv_has ls 3 [(0, .ref (gB G + a0)), (1, .int p1)] := hl
  delta fX2_hasOwnSpare at hf
  have L2 : ∀ (n : Nat) (x2 : Int32) (σ : Sg) (H : Heap) (locs : List Loc) (ls : Array Slot) (out : ((Sg) ⊕ (Sg))), iter (fun st => bX2_hasOwnSpare_2 a0 p1 st.1 st.2) n (x2, σ) = some out → Ws G σ s.heap H locs → lv_has ls 3 [(0, .ref (gB G + a0)), (1, .int p1), (2, .int x2)] → (∀ (σ : Sg) (H : Heap) (locs : List Loc) (ls : Array Slot), out = (Sum.inl σ) → Ws G σ s.heap H locs → lv_has ls 3 [] → W p l e (rmOf 0 0) s m args below meth c H locs 0 0 Q (F0 m 36 ls [])) → (∀ (σ : Sg) (H : Heap) (locs : List Loc) (ls : Array Slot), out = (Sum.inr σ) → Ws G σ s.heap H locs → lv_has ls 3 [] → W p l e (rmOf 0 0) s m args below meth c H locs 0 0 Q (F0 m 44 ls [])) → W p l e (rmOf 0 0) s m args below meth c H locs 0 0 Q (F0 m 2 ls []) := by
    intro n
    induction n with
    | zero =>
      intro x2 σ H locs ls out hf
      exact (it_0 hf).elim
    | succ n ih =>
      intro x2 σ H locs ls out hf hW hl K2_36 K2_44
      obtain ⟨x, hf, hx⟩ := it_s hf
      have hf : bX2_hasOwnSpare_2 a0 p1 x2 σ = some x := hf
      delta bX2_hasOwnSpare_2 at hf
      have J38 : ∀ (x2 : Int32) (σ : Sg) (H : Heap) (locs : List Loc) (ls : Array Slot), jX2_hasOwnSpare_38 a0 p1 x2 σ = some x → Ws G σ s.heap H locs → lv_has ls 3 [(0, .ref (gB G + a0)), (1, .int p1), (2, .int x2)] → W p l e (rmOf 0 0) s m args below meth c H locs 0 0 Q (F0 m 38 ls []) := by
        intro x2 σ H locs ls hf hW hl
        delta jX2_hasOwnSpare_38 at hf
        refine lv_iinc (v := _) (lv' := [(2, .int _), (0, .ref _), (1, .int _)]) C.1.1 C.1.2.1 dX2_hasOwnSpare_38 hl (k := 2) rfl (ii (k := 1) (by decide)) (by decide) rfl (fun ls hl => ?_)
        refine lv_goto (tgt := 2) C.1.1 C.1.2.1 dX2_hasOwnSpare_41 (by decide) ?_
        cases hf
        exact ih _ _ _ _ _ _ hx hW (lv_sub hl [1, 2, 0] rfl) K2_36 K2_44
      refine lv_iload_n C.1.1 C.1.2.1 dX2_hasOwnSpare_2 rfl (lv_at hl 2 rfl) ?_
      refine lv_aload_n C.1.1 C.1.2.1 dX2_hasOwnSpare_3 rfl (lv_at hl 0 rfl) ?_
      have hk1 := sh2_0 hW hk_a0
      refine gf2_0 C hW hk_a0 w_297 dX2_hasOwnSpare_4 ?_
      refine gf3_1 C hW hk1 w_185 dX2_hasOwnSpare_7 ?_
      refine lv_icmp_ge (tgt := 44) C.1.1 C.1.2.1 dX2_hasOwnSpare_10 (by decide) (fun h9 => ?_) (fun h9 => ?_)
      · replace hf := (if_pos h9).symm.trans hf
        cases hf
        cases hx
        exact K2_44 _ _ _ _ rfl hW (lv_sub hl [] rfl)
      · replace hf := (if_neg h9).symm.trans hf
        refine lv_aload_n C.1.1 C.1.2.1 dX2_hasOwnSpare_13 rfl (lv_at hl 0 rfl) ?_
        have hk2 := sh2_0 hW hk_a0
        refine gf2_0 C hW hk_a0 w_297 dX2_hasOwnSpare_14 ?_
        have hk3 := sh3_8 hW hk2
        refine gf3_8 C hW hk2 w_209 dX2_hasOwnSpare_17 ?_
        refine lv_iload_n C.1.1 C.1.2.1 dX2_hasOwnSpare_20 rfl (lv_at hl 2 rfl) ?_
        obtain ⟨hv4, hf⟩ := gd hf
        refine wai C hW hk3 (vin_p hv4) dX2_hasOwnSpare_21 ?_
        refine lv_iload_n C.1.1 C.1.2.1 dX2_hasOwnSpare_22 rfl (lv_at hl 1 rfl) ?_
        refine lv_icmp_ne (tgt := 38) C.1.1 C.1.2.1 dX2_hasOwnSpare_23 (by decide) (fun h9 => ?_) (fun h9 => ?_)
        · replace hf := (if_neg h9).symm.trans hf
          exact J38 _ _ _ _ _ hf hW (lv_sub hl [0, 1, 2] rfl)
        · replace hf := (if_pos h9).symm.trans hf
          refine lv_aload_n C.1.1 C.1.2.1 dX2_hasOwnSpare_26 rfl (lv_at hl 0 rfl) ?_
          have hk6 := sh2_18 hW hk_a0
          refine gf2_18 C hW hk_a0 w_332 dX2_hasOwnSpare_27 ?_
          refine lv_iload_n C.1.1 C.1.2.1 dX2_hasOwnSpare_30 rfl (lv_at hl 2 rfl) ?_
          refine wai C hW hk6 (vin_p hv4) dX2_hasOwnSpare_31 ?_
          refine lv_iload_n C.1.1 C.1.2.1 dX2_hasOwnSpare_32 rfl (lv_at hl 1 rfl) ?_
          refine lv_icmp_ne (tgt := 38) C.1.1 C.1.2.1 dX2_hasOwnSpare_33 (by decide) (fun h9 => ?_) (fun h9 => ?_)
          · replace hf := (if_neg h9).symm.trans hf
            exact J38 _ _ _ _ _ hf hW (lv_sub hl [0, 1, 2] rfl)
          · replace hf := (if_pos h9).symm.trans hf
            cases hf
            cases hx
            exact K2_36 _ _ _ _ rfl hW (lv_sub hl [] rfl)
  refine lv_iconst (v := 0) C.1.1 C.1.2.1 dX2_hasOwnSpare_0 (by decide) ?_
  refine lv_istore_n (lv' := [(2, .int _), (0, .ref _), (1, .int _)]) C.1.1 C.1.2.1 dX2_hasOwnSpare_1 rfl hl (by decide) rfl (fun ls hl => ?_)
  obtain ⟨o7, ho, hf⟩ := bd hf
  obtain ⟨n, ho⟩ := lp_it ho
  refine L2 n _ _ _ _ _ o7 ho hW (lv_sub hl [1, 2, 0] rfl) ?_ ?_
  · intro  σ8 H locs ls e9 hW hl
    subst e9
    try dsimp only at hf
    refine lv_iconst (v := 1) C.1.1 C.1.2.1 dX2_hasOwnSpare_36 (by decide) ?_
    exact ri hQ C hr hlk hW hf (rok_z (Or.inr rfl)) dX2_hasOwnSpare_37
  · intro  σ9 H locs ls e9 hW hl
    subst e9
    try dsimp only at hf
    refine lv_iconst (v := 0) C.1.1 C.1.2.1 dX2_hasOwnSpare_44 (by decide) ?_
    exact ri hQ C hr hlk hW hf (rok_z (Or.inl rfl)) dX2_hasOwnSpare_45
theorem kvX2_isOut : KV 2 "RightKeys$Ring" yX2_isOut cX2_isOut 2 (some .boolean) 1 := ⟨⟨w_748, w_27, w_114, w_749⟩, ⟨rfl, by decide, by decide, by decide +kernel⟩, by decide, rfl⟩
noncomputable def fX2_isOut (a0 : Nat) (p1 : Int32) (σ : Sg) : Option (Int32 × Sg) := (fX6_bit ((σ.1 a0 2) ||| (σ.1 a0 3)) p1 σ).bind (fun q5 => let r3 := q5.1; let σ2 := q5.2; if r3 = 0 then (some ((1 : Int32), σ2)) else (some ((0 : Int32), σ2)))
set_option maxRecDepth 100000 in
set_option maxHeartbeats 4000000 in
theorem mX2_isOut {l : Launch} {G : Gm} {a0 : Nat} {p1 : Int32} {σ : Sg} {r : Int32} {σ' : Sg} (hk_a0 : gK G a0 = 3) (hf : fX2_isOut a0 p1 σ = some (r, σ')) : Mi l G yX2_isOut cX2_isOut 2 .boolean 1 21 [.ref (gB G + a0), .int p1] σ r σ' := by
  refine of_W "RightKeys$Ring" rfl (by decide) (Nat.le_of_ble_eq_true rfl) ?_
  intro p e s m args below meth c Q hQ C hr hlk hW ls hl
  have hl : lv_has ls 2 [(0, .ref (gB G + a0)), (1, .int p1)] := hl
  delta fX2_isOut at hf
  refine lv_aload_n C.1.1 C.1.2.1 dX2_isOut_0 rfl (lv_at hl 0 rfl) ?_
  refine gf2_2 C hW hk_a0 w_300 dX2_isOut_1 ?_
  refine lv_aload_n C.1.1 C.1.2.1 dX2_isOut_4 rfl (lv_at hl 0 rfl) ?_
  refine gf2_3 C hW hk_a0 w_302 dX2_isOut_5 ?_
  refine lv_ior C.1.1 C.1.2.1 dX2_isOut_8 ?_
  refine lv_iload_n C.1.1 C.1.2.1 dX2_isOut_9 rfl (lv_at hl 1 rfl) ?_
  obtain ⟨⟨r3, σ2⟩, hc1, hf⟩ := bd hf
  try dsimp only at hf
  refine cNi C hW (mX6_bit hc1) ksX6_bit (by decide) ⟨(Nat.le_of_ble_eq_true rfl), (Nat.le_of_ble_eq_true rfl)⟩ ⟨Nat.zero_le _, Nat.zero_le _⟩ rfl hl.1 (rest := []) rfl (Nat.le_of_ble_eq_true rfl) dX2_isOut_10 (fun H locs hn4 hW => ?_)
  refine lv_if_ne (tgt := 20) C.1.1 C.1.2.1 dX2_isOut_13 (by decide) (fun h9 => ?_) (fun h9 => ?_)
  · replace hf := (if_neg h9).symm.trans hf
    refine lv_iconst (v := 0) C.1.1 C.1.2.1 dX2_isOut_20 (by decide) ?_
    exact ri hQ C hr hlk hW hf (rok_z (Or.inl rfl)) dX2_isOut_21
  · replace hf := (if_pos h9).symm.trans hf
    refine lv_iconst (v := 1) C.1.1 C.1.2.1 dX2_isOut_16 (by decide) ?_
    refine lv_goto (tgt := 21) C.1.1 C.1.2.1 dX2_isOut_17 (by decide) ?_
    exact ri hQ C hr hlk hW hf (rok_z (Or.inr rfl)) dX2_isOut_21
theorem kvX2_whereIs : KV 2 "RightKeys$Ring" yX2_whereIs cX2_whereIs 2 (some .int) 1 := ⟨⟨w_679, w_680, w_114, w_681⟩, ⟨rfl, by decide, by decide, by decide +kernel⟩, by decide, rfl⟩
noncomputable def fX2_whereIs (a0 : Nat) (p1 : Int32) (σ : Sg) : Option (Int32 × Sg) := (fX6_bit (σ.1 a0 2) p1 σ).bind (fun q5 => let r3 := q5.1; let σ2 := q5.2; if r3 = (1 : Int32) then (some ((0 : Int32), σ2)) else ((fX6_bit (σ2.1 a0 3) p1 σ2).bind (fun q10 => let r8 := q10.1; let σ7 := q10.2; some (((1 : Int32) + r8), σ7))))
set_option maxRecDepth 100000 in
set_option maxHeartbeats 4000000 in
theorem mX2_whereIs {l : Launch} {G : Gm} {a0 : Nat} {p1 : Int32} {σ : Sg} {r : Int32} {σ' : Sg} (hk_a0 : gK G a0 = 3) (hf : fX2_whereIs a0 p1 σ = some (r, σ')) : Mi l G yX2_whereIs cX2_whereIs 2 .int 1 21 [.ref (gB G + a0), .int p1] σ r σ' := by
  refine of_W "RightKeys$Ring" rfl (by decide) (Nat.le_of_ble_eq_true rfl) ?_
  intro p e s m args below meth c Q hQ C hr hlk hW ls hl
  have hl : lv_has ls 2 [(0, .ref (gB G + a0)), (1, .int p1)] := hl
  delta fX2_whereIs at hf
  refine lv_aload_n C.1.1 C.1.2.1 dX2_whereIs_0 rfl (lv_at hl 0 rfl) ?_
  refine gf2_2 C hW hk_a0 w_300 dX2_whereIs_1 ?_
  refine lv_iload_n C.1.1 C.1.2.1 dX2_whereIs_4 rfl (lv_at hl 1 rfl) ?_
  obtain ⟨⟨r3, σ2⟩, hc1, hf⟩ := bd hf
  try dsimp only at hf
  refine cNi C hW (mX6_bit hc1) ksX6_bit (by decide) ⟨(Nat.le_of_ble_eq_true rfl), (Nat.le_of_ble_eq_true rfl)⟩ ⟨Nat.zero_le _, Nat.zero_le _⟩ rfl hl.1 (rest := []) rfl (Nat.le_of_ble_eq_true rfl) dX2_whereIs_5 (fun H locs hn4 hW => ?_)
  refine lv_iconst (v := 1) C.1.1 C.1.2.1 dX2_whereIs_8 (by decide) ?_
  refine lv_icmp_ne (tgt := 16) C.1.1 C.1.2.1 dX2_whereIs_9 (by decide) (fun h9 => ?_) (fun h9 => ?_)
  · replace hf := (if_neg h9).symm.trans hf
    refine lv_iconst (v := 1) C.1.1 C.1.2.1 dX2_whereIs_16 (by decide) ?_
    refine lv_aload_n C.1.1 C.1.2.1 dX2_whereIs_17 rfl (lv_at hl 0 rfl) ?_
    refine gf2_3 C hW hk_a0 w_302 dX2_whereIs_18 ?_
    refine lv_iload_n C.1.1 C.1.2.1 dX2_whereIs_21 rfl (lv_at hl 1 rfl) ?_
    obtain ⟨⟨r8, σ7⟩, hc6, hf⟩ := bd hf
    try dsimp only at hf
    refine cNi C hW (mX6_bit hc6) ksX6_bit (by decide) ⟨(Nat.le_of_ble_eq_true rfl), (Nat.le_of_ble_eq_true rfl)⟩ ⟨Nat.zero_le _, Nat.zero_le _⟩ rfl hl.1 (rest := [.int _]) rfl (Nat.le_of_ble_eq_true rfl) dX2_whereIs_22 (fun H locs hn9 hW => ?_)
    refine lv_iadd C.1.1 C.1.2.1 dX2_whereIs_25 ?_
    exact ri hQ C hr hlk hW hf (rok_i _) dX2_whereIs_26
  · replace hf := (if_pos h9).symm.trans hf
    refine lv_iconst (v := 0) C.1.1 C.1.2.1 dX2_whereIs_12 (by decide) ?_
    refine lv_goto (tgt := 26) C.1.1 C.1.2.1 dX2_whereIs_13 (by decide) ?_
    exact ri hQ C hr hlk hW hf (rok_i _) dX2_whereIs_26
theorem kvX2_bothIn : KV 2 "RightKeys$Ring" yX2_bothIn cX2_bothIn 3 (some .boolean) 2 := ⟨⟨w_794, w_795, w_114, w_796⟩, ⟨rfl, by decide, by decide, by decide +kernel⟩, by decide, rfl⟩
noncomputable def fX2_bothIn (a0 : Nat) (p1 : Int32) (p2 : Int32) (σ : Sg) : Option (Int32 × Sg) := (fX6_bit (σ.1 a0 2) p1 σ).bind (fun q5 => let r3 := q5.1; let σ2 := q5.2; if r3 = (1 : Int32) then ((fX6_bit (σ2.1 a0 2) p2 σ2).bind (fun q10 => let r8 := q10.1; let σ7 := q10.2; if r8 = (1 : Int32) then (some ((1 : Int32), σ7)) else (some ((0 : Int32), σ7)))) else (some ((0 : Int32), σ2)))
set_option maxRecDepth 100000 in
set_option maxHeartbeats 4000000 in
theorem mX2_bothIn {l : Launch} {G : Gm} {a0 : Nat} {p1 : Int32} {p2 : Int32} {σ : Sg} {r : Int32} {σ' : Sg} (hk_a0 : gK G a0 = 3) (hf : fX2_bothIn a0 p1 p2 σ = some (r, σ')) : Mi l G yX2_bothIn cX2_bothIn 3 .boolean 1 21 [.ref (gB G + a0), .int p1, .int p2] σ r σ' := by
  refine of_W "RightKeys$Ring" rfl (by decide) (Nat.le_of_ble_eq_true rfl) ?_
  intro p e s m args below meth c Q hQ C hr hlk hW ls hl
  have hl : lv_has ls 3 [(0, .ref (gB G + a0)), (1, .int p1), (2, .int p2)] := hl
  delta fX2_bothIn at hf
  refine lv_aload_n C.1.1 C.1.2.1 dX2_bothIn_0 rfl (lv_at hl 0 rfl) ?_
  refine gf2_2 C hW hk_a0 w_300 dX2_bothIn_1 ?_
  refine lv_iload_n C.1.1 C.1.2.1 dX2_bothIn_4 rfl (lv_at hl 1 rfl) ?_
  obtain ⟨⟨r3, σ2⟩, hc1, hf⟩ := bd hf
  try dsimp only at hf
  refine cNi C hW (mX6_bit hc1) ksX6_bit (by decide) ⟨(Nat.le_of_ble_eq_true rfl), (Nat.le_of_ble_eq_true rfl)⟩ ⟨Nat.zero_le _, Nat.zero_le _⟩ rfl hl.1 (rest := []) rfl (Nat.le_of_ble_eq_true rfl) dX2_bothIn_5 (fun H locs hn4 hW => ?_)
  refine lv_iconst (v := 1) C.1.1 C.1.2.1 dX2_bothIn_8 (by decide) ?_
  refine lv_icmp_ne (tgt := 28) C.1.1 C.1.2.1 dX2_bothIn_9 (by decide) (fun h9 => ?_) (fun h9 => ?_)
  · replace hf := (if_neg h9).symm.trans hf
    refine lv_iconst (v := 0) C.1.1 C.1.2.1 dX2_bothIn_28 (by decide) ?_
    exact ri hQ C hr hlk hW hf (rok_z (Or.inl rfl)) dX2_bothIn_29
  · replace hf := (if_pos h9).symm.trans hf
    refine lv_aload_n C.1.1 C.1.2.1 dX2_bothIn_12 rfl (lv_at hl 0 rfl) ?_
    refine gf2_2 C hW hk_a0 w_300 dX2_bothIn_13 ?_
    refine lv_iload_n C.1.1 C.1.2.1 dX2_bothIn_16 rfl (lv_at hl 2 rfl) ?_
    obtain ⟨⟨r8, σ7⟩, hc6, hf⟩ := bd hf
    try dsimp only at hf
    refine cNi C hW (mX6_bit hc6) ksX6_bit (by decide) ⟨(Nat.le_of_ble_eq_true rfl), (Nat.le_of_ble_eq_true rfl)⟩ ⟨Nat.zero_le _, Nat.zero_le _⟩ rfl hl.1 (rest := []) rfl (Nat.le_of_ble_eq_true rfl) dX2_bothIn_17 (fun H locs hn9 hW => ?_)
    refine lv_iconst (v := 1) C.1.1 C.1.2.1 dX2_bothIn_20 (by decide) ?_
    refine lv_icmp_ne (tgt := 28) C.1.1 C.1.2.1 dX2_bothIn_21 (by decide) (fun h9 => ?_) (fun h9 => ?_)
    · replace hf := (if_neg h9).symm.trans hf
      refine lv_iconst (v := 0) C.1.1 C.1.2.1 dX2_bothIn_28 (by decide) ?_
      exact ri hQ C hr hlk hW hf (rok_z (Or.inl rfl)) dX2_bothIn_29
    · replace hf := (if_pos h9).symm.trans hf
      refine lv_iconst (v := 1) C.1.1 C.1.2.1 dX2_bothIn_24 (by decide) ?_
      refine lv_goto (tgt := 29) C.1.1 C.1.2.1 dX2_bothIn_25 (by decide) ?_
      exact ri hQ C hr hlk hW hf (rok_z (Or.inr rfl)) dX2_bothIn_29
