theorem kvX5_note : KV 5 "RightKeys$Watch" yX5_note cX5_note 5 none 2 := ⟨⟨w_888, w_38, w_115, w_889⟩, ⟨rfl, by decide, by decide, by decide +kernel⟩, by decide, rfl⟩
noncomputable def bX5_note_46 (a0 : Nat) (p1 : Int32) (p2 : Int32) (x3 : Int32) (x4 : Int32) (σ : Sg) : Option ((Int32 × Sg) ⊕ (Sg)) := if (8 : Int32) ≤ x4 then (some (Sum.inr σ)) else (if x3 ≤ 0 then (some (Sum.inr σ)) else (if vin x4 8 then ((fX6_bit p1 x4 σ).bind (fun q14 => let r12 := q14.1; let σ11 := q14.2; (let σ15 := wI σ11 (a0 + 1) ((x4).toNatClampNeg) ((σ.1 (a0 + 1) ((x4).toNatClampNeg)) + r12); let x4_16 := x4 + (1 : Int32); some (Sum.inl (x4_16, σ15))))) else none))
noncomputable def jX5_note_43 (a0 : Nat) (p1 : Int32) (p2 : Int32) (x3 : Int32) (σ : Sg) : Option (Sg) := (lp (fun st => bX5_note_46 a0 p1 p2 x3 st.1 st.2) ((0 : Int32), σ)).bind (fun σ18 => some σ18)
noncomputable def fX5_note (a0 : Nat) (p1 : Int32) (p2 : Int32) (σ : Sg) : Option (Sg) := (fJ6_bitCount_0f7a4 p1 σ).bind (fun q5 => let r3 := q5.1; let σ2 := q5.2; (let σ6 := wI σ2 a0 1 ((σ2.1 a0 1) + r3); let σ7 := wI σ6 a0 4 ((σ6.1 a0 4) ||| p1); if r3 ≤ (σ7.1 a0 2) then (jX5_note_43 a0 p1 p2 r3 σ7) else ((let σ19 := wI σ7 a0 2 r3; let σ20 := wI σ19 a0 3 p2; jX5_note_43 a0 p1 p2 r3 σ20))))
set_option maxRecDepth 100000 in
set_option maxHeartbeats 4000000 in
theorem mX5_note {l : Launch} {G : Gm} {a0 : Nat} {p1 : Int32} {p2 : Int32} {σ : Sg} {σ' : Sg} (hk_a0 : gK G a0 = 6) (hf : fX5_note a0 p1 p2 σ = some σ') : Mv l G yX5_note cX5_note 5 1 21 [.ref (gB G + a0), .int p1, .int p2] σ σ' := by
  refine of_W "RightKeys$Watch" rfl (by decide) (Nat.le_of_ble_eq_true rfl) ?_
  intro p e s m args below meth c Q hQ C hr hlk hW ls hl
  have h00 := hW.1
  have hl : lv_has ls 5 [(0, .ref (gB G + a0)), (1, .int p1), (2, .int p2)] := hl
  delta fX5_note at hf
  have L46 : ∀ (x3 : Int32) (n : Nat) (x4 : Int32) (σ : Sg) (H : Heap) (locs : List Loc) (ls : Array Slot) (out : (Sg)), iter (fun st => bX5_note_46 a0 p1 p2 x3 st.1 st.2) n (x4, σ) = some out → Ws G σ s.heap H locs → lv_has ls 5 [(0, .ref (gB G + a0)), (1, .int p1), (3, .int x3), (4, .int x4)] → (∀ (σ : Sg) (H : Heap) (locs : List Loc) (ls : Array Slot), out = σ → Ws G σ s.heap H locs → lv_has ls 5 [] → W p l e (rmOf 1 21) s m args below meth c H locs 0 0 Q (F0 m 79 ls [])) → W p l e (rmOf 1 21) s m args below meth c H locs 0 0 Q (F0 m 46 ls []) := by
    intro x3 n
    induction n with
    | zero =>
      intro x4 σ H locs ls out hf
      exact (it_0 hf).elim
    | succ n ih =>
      intro x4 σ H locs ls out hf hW hl K46_79
      obtain ⟨x, hf, hx⟩ := it_s hf
      have hf : bX5_note_46 a0 p1 p2 x3 x4 σ = some x := hf
      delta bX5_note_46 at hf
      refine lv_iload C.1.1 C.1.2.1 dX5_note_46 (lv_at hl 3 rfl) ?_
      refine lv_bipush (v := 8) C.1.1 C.1.2.1 dX5_note_48 (by decide) ?_
      refine lv_icmp_ge (tgt := 79) C.1.1 C.1.2.1 dX5_note_50 (by decide) (fun h9 => ?_) (fun h9 => ?_)
      · replace hf := (if_pos h9).symm.trans hf
        cases hf
        cases hx
        exact K46_79 _ _ _ _ rfl hW (lv_sub hl [] rfl)
      · replace hf := (if_neg h9).symm.trans hf
        refine lv_iload_n C.1.1 C.1.2.1 dX5_note_53 rfl (lv_at hl 2 rfl) ?_
        refine lv_if_le (tgt := 79) C.1.1 C.1.2.1 dX5_note_54 (by decide) (fun h9 => ?_) (fun h9 => ?_)
        · replace hf := (if_pos h9).symm.trans hf
          cases hf
          cases hx
          exact K46_79 _ _ _ _ rfl hW (lv_sub hl [] rfl)
        · replace hf := (if_neg h9).symm.trans hf
          refine lv_aload_n C.1.1 C.1.2.1 dX5_note_57 rfl (lv_at hl 0 rfl) ?_
          have hk8 := sh5_0 hW hk_a0
          refine gf5_0 C hW hk_a0 w_383 dX5_note_58 ?_
          refine lv_iload C.1.1 C.1.2.1 dX5_note_61 (lv_at hl 3 rfl) ?_
          refine lv_dup2_11 C.1.1 C.1.2.1 dX5_note_63 rfl rfl ?_
          obtain ⟨hv9, hf⟩ := gd hf
          refine wai C hW hk8 (vin_p hv9) dX5_note_64 ?_
          refine lv_iload_n C.1.1 C.1.2.1 dX5_note_65 rfl (lv_at hl 1 rfl) ?_
          refine lv_iload C.1.1 C.1.2.1 dX5_note_66 (lv_at hl 3 rfl) ?_
          obtain ⟨⟨r12, σ11⟩, hc10, hf⟩ := bd hf
          try dsimp only at hf
          refine cNi C hW (mX6_bit hc10) ksX6_bit (by decide) ⟨(Nat.le_of_ble_eq_true rfl), (Nat.le_of_ble_eq_true rfl)⟩ ⟨Nat.zero_le _, Nat.zero_le _⟩ rfl hl.1 (rest := [.int _, .int _, .ref _]) rfl (Nat.le_of_ble_eq_true rfl) dX5_note_68 (fun H locs hn13 hW => ?_)
          refine lv_iadd C.1.1 C.1.2.1 dX5_note_71 ?_
          refine wsi C hW hk8 (vin_p hv9) dX5_note_72 (fun H locs hW => ?_)
          refine lv_iinc (v := _) (lv' := [(4, .int _), (0, .ref _), (1, .int _), (3, .int _)]) C.1.1 C.1.2.1 dX5_note_73 hl (k := 3) rfl (ii (k := 1) (by decide)) (by decide) rfl (fun ls hl => ?_)
          refine lv_goto (tgt := 46) C.1.1 C.1.2.1 dX5_note_76 (by decide) ?_
          cases hf
          exact ih _ _ _ _ _ _ hx hW (lv_sub hl [1, 2, 3, 0] rfl) K46_79
  have J43 : ∀ (x3 : Int32) (σ : Sg) (H : Heap) (locs : List Loc) (ls : Array Slot), jX5_note_43 a0 p1 p2 x3 σ = some σ' → Ws G σ s.heap H locs → lv_has ls 5 [(0, .ref (gB G + a0)), (1, .int p1), (3, .int x3)] → W p l e (rmOf 1 21) s m args below meth c H locs 0 0 Q (F0 m 43 ls []) := by
    intro x3 σ H locs ls hf hW hl
    delta jX5_note_43 at hf
    refine lv_iconst (v := 0) C.1.1 C.1.2.1 dX5_note_43 (by decide) ?_
    refine lv_istore (lv' := [(4, .int _), (0, .ref _), (1, .int _), (3, .int _)]) C.1.1 C.1.2.1 dX5_note_44 hl (by decide) rfl (fun ls hl => ?_)
    obtain ⟨o17, ho, hf⟩ := bd hf
    obtain ⟨n, ho⟩ := lp_it ho
    refine L46 _ n _ _ _ _ _ o17 ho hW (lv_sub hl [1, 2, 3, 0] rfl) ?_
    intro  σ18 H locs ls e9 hW hl
    subst e9
    try dsimp only at hf
    exact rv hQ C hr hlk hW hf dX5_note_79
  refine lv_iload_n C.1.1 C.1.2.1 dX5_note_0 rfl (lv_at hl 1 rfl) ?_
  obtain ⟨⟨r3, σ2⟩, hc1, hf⟩ := bd hf
  try dsimp only at hf
  refine cSi C hW (mJ6_bitCount_0f7a4 hc1) ksJ6_bitCount_0f7a4 w_890 ⟨(Nat.le_of_ble_eq_true rfl), (Nat.le_of_ble_eq_true rfl)⟩ ⟨Nat.zero_le _, Nat.zero_le _⟩ rfl hl.1 (rest := []) rfl (Nat.le_of_ble_eq_true rfl) dX5_note_1 (fun H locs hn4 hW => ?_)
  refine lv_istore_n (lv' := [(3, .int _), (0, .ref _), (1, .int _), (2, .int _)]) C.1.1 C.1.2.1 dX5_note_4 rfl hl (by decide) rfl (fun ls hl => ?_)
  refine lv_aload_n C.1.1 C.1.2.1 dX5_note_5 rfl (lv_at hl 1 rfl) ?_
  refine lv_dup C.1.1 C.1.2.1 dX5_note_6 rfl ?_
  refine gf5_1 C hW hk_a0 w_385 dX5_note_7 ?_
  refine lv_iload_n C.1.1 C.1.2.1 dX5_note_10 rfl (lv_at hl 0 rfl) ?_
  refine lv_iadd C.1.1 C.1.2.1 dX5_note_11 ?_
  refine pf5_1 C hW hk_a0 w_385 dX5_note_12 (fun H locs hW => ?_)
  refine lv_aload_n C.1.1 C.1.2.1 dX5_note_15 rfl (lv_at hl 1 rfl) ?_
  refine lv_dup C.1.1 C.1.2.1 dX5_note_16 rfl ?_
  refine gf5_4 C hW hk_a0 w_391 dX5_note_17 ?_
  refine lv_iload_n C.1.1 C.1.2.1 dX5_note_20 rfl (lv_at hl 2 rfl) ?_
  refine lv_ior C.1.1 C.1.2.1 dX5_note_21 ?_
  refine pf5_4 C hW hk_a0 w_391 dX5_note_22 (fun H locs hW => ?_)
  refine lv_iload_n C.1.1 C.1.2.1 dX5_note_25 rfl (lv_at hl 0 rfl) ?_
  refine lv_aload_n C.1.1 C.1.2.1 dX5_note_26 rfl (lv_at hl 1 rfl) ?_
  refine gf5_2 C hW hk_a0 w_387 dX5_note_27 ?_
  refine lv_icmp_le (tgt := 43) C.1.1 C.1.2.1 dX5_note_30 (by decide) (fun h9 => ?_) (fun h9 => ?_)
  · replace hf := (if_pos h9).symm.trans hf
    exact J43 _ _ _ _ _ hf hW (lv_sub hl [1, 2, 0] rfl)
  · replace hf := (if_neg h9).symm.trans hf
    refine lv_aload_n C.1.1 C.1.2.1 dX5_note_33 rfl (lv_at hl 1 rfl) ?_
    refine lv_iload_n C.1.1 C.1.2.1 dX5_note_34 rfl (lv_at hl 0 rfl) ?_
    refine pf5_2 C hW hk_a0 w_387 dX5_note_35 (fun H locs hW => ?_)
    refine lv_aload_n C.1.1 C.1.2.1 dX5_note_38 rfl (lv_at hl 1 rfl) ?_
    refine lv_iload_n C.1.1 C.1.2.1 dX5_note_39 rfl (lv_at hl 3 rfl) ?_
    refine pf5_3 C hW hk_a0 w_389 dX5_note_40 (fun H locs hW => ?_)
    exact J43 _ _ _ _ _ hf hW (lv_sub hl [1, 2, 0] rfl)
theorem kvX5_follow : KV 5 "RightKeys$Watch" yX5_follow cX5_follow 4 none 2 := ⟨⟨w_881, w_882, w_115, w_883⟩, ⟨rfl, by decide, by decide, by decide +kernel⟩, by decide, rfl⟩
noncomputable def bX5_follow_30 (a0 : Nat) (a1 : Nat) (p2 : Int32) (x3 : Int32) (σ : Sg) : Option ((Int32 × Sg) ⊕ (Sg)) := if p2 ≤ x3 then (some (Sum.inr σ)) else ((fX2_goThroughHour a1 σ).bind (fun σ12 => (fX5_note a0 (σ12.1 a1 3) x3 σ12).bind (fun σ17 => (let x3_21 := x3 + (1 : Int32); some (Sum.inl (x3_21, σ17))))))
noncomputable def fX5_follow (a0 : Nat) (a1 : Nat) (p2 : Int32) (σ : Sg) : Option (Sg) := (fJ7_fill_53178 8 (a0 + 1) (0 : Int32) σ).bind (fun σ3 => (let σ7 := wI σ3 a0 1 (0 : Int32); let σ8 := wI σ7 a0 2 (0 : Int32); let σ9 := wI σ8 a0 3 (0 : Int32); let σ10 := wI σ9 a0 4 (0 : Int32); (lp (fun st => bX5_follow_30 a0 a1 p2 st.1 st.2) ((0 : Int32), σ10)).bind (fun σ23 => some σ23)))
set_option maxRecDepth 100000 in
set_option maxHeartbeats 4000000 in
theorem mX5_follow {l : Launch} {G : Gm} {a0 : Nat} {a1 : Nat} {p2 : Int32} {σ : Sg} {σ' : Sg} (hk_a0 : gK G a0 = 6) (hk_a1 : gK G a1 = 3) (hf : fX5_follow a0 a1 p2 σ = some σ') : Mv l G yX5_follow cX5_follow 4 6 155 [.ref (gB G + a0), .ref (gB G + a1), .int p2] σ σ' := by
  refine of_W "RightKeys$Watch" rfl (by decide) (Nat.le_of_ble_eq_true rfl) ?_
  intro p e s m args below meth c Q hQ C hr hlk hW ls hl
  have h00 := hW.1
  have hl : lv_has ls 4 [(0, .ref (gB G + a0)), (1, .ref (gB G + a1)), (2, .int p2)] := hl
  delta fX5_follow at hf
  have L30 : ∀ (n : Nat) (x3 : Int32) (σ : Sg) (H : Heap) (locs : List Loc) (ls : Array Slot) (out : (Sg)), iter (fun st => bX5_follow_30 a0 a1 p2 st.1 st.2) n (x3, σ) = some out → Ws G σ s.heap H locs → lv_has ls 4 [(0, .ref (gB G + a0)), (1, .ref (gB G + a1)), (2, .int p2), (3, .int x3)] → (∀ (σ : Sg) (H : Heap) (locs : List Loc) (ls : Array Slot), out = σ → Ws G σ s.heap H locs → lv_has ls 4 [] → W p l e (rmOf 6 155) s m args below meth c H locs 0 0 Q (F0 m 54 ls [])) → W p l e (rmOf 6 155) s m args below meth c H locs 0 0 Q (F0 m 30 ls []) := by
    intro n
    induction n with
    | zero =>
      intro x3 σ H locs ls out hf
      exact (it_0 hf).elim
    | succ n ih =>
      intro x3 σ H locs ls out hf hW hl K30_54
      obtain ⟨x, hf, hx⟩ := it_s hf
      have hf : bX5_follow_30 a0 a1 p2 x3 σ = some x := hf
      delta bX5_follow_30 at hf
      refine lv_iload_n C.1.1 C.1.2.1 dX5_follow_30 rfl (lv_at hl 3 rfl) ?_
      refine lv_iload_n C.1.1 C.1.2.1 dX5_follow_31 rfl (lv_at hl 2 rfl) ?_
      refine lv_icmp_ge (tgt := 54) C.1.1 C.1.2.1 dX5_follow_32 (by decide) (fun h9 => ?_) (fun h9 => ?_)
      · replace hf := (if_pos h9).symm.trans hf
        cases hf
        cases hx
        exact K30_54 _ _ _ _ rfl hW (lv_sub hl [] rfl)
      · replace hf := (if_neg h9).symm.trans hf
        refine lv_aload_n C.1.1 C.1.2.1 dX5_follow_35 rfl (lv_at hl 1 rfl) ?_
        obtain ⟨σ12, hc11, hf⟩ := bd hf
        try dsimp only at hf
        refine cVv C hW (mX2_goThroughHour hk_a1 hc11) hk_a1 kvX2_goThroughHour w_885 ⟨(Nat.le_of_ble_eq_true rfl), (Nat.le_of_ble_eq_true rfl)⟩ ⟨Nat.zero_le _, Nat.zero_le _⟩ rfl hl.1 (rest := []) rfl (Nat.le_of_ble_eq_true rfl) dX5_follow_36 (fun H locs hW => ?_)
        refine lv_aload_n C.1.1 C.1.2.1 dX5_follow_39 rfl (lv_at hl 0 rfl) ?_
        refine lv_aload_n C.1.1 C.1.2.1 dX5_follow_40 rfl (lv_at hl 1 rfl) ?_
        refine gf2_3 C hW hk_a1 w_303 dX5_follow_41 ?_
        refine lv_iload_n C.1.1 C.1.2.1 dX5_follow_44 rfl (lv_at hl 3 rfl) ?_
        obtain ⟨σ17, hc16, hf⟩ := bd hf
        try dsimp only at hf
        refine cVv C hW (mX5_note hk_a0 hc16) hk_a0 kvX5_note w_886 ⟨(Nat.le_of_ble_eq_true rfl), (Nat.le_of_ble_eq_true rfl)⟩ ⟨Nat.zero_le _, Nat.zero_le _⟩ rfl hl.1 (rest := []) rfl (Nat.le_of_ble_eq_true rfl) dX5_follow_45 (fun H locs hW => ?_)
        refine lv_iinc (v := _) (lv' := [(3, .int _), (0, .ref _), (1, .ref _), (2, .int _)]) C.1.1 C.1.2.1 dX5_follow_48 hl (k := 3) rfl (ii (k := 1) (by decide)) (by decide) rfl (fun ls hl => ?_)
        refine lv_goto (tgt := 30) C.1.1 C.1.2.1 dX5_follow_51 (by decide) ?_
        cases hf
        exact ih _ _ _ _ _ _ hx hW (lv_sub hl [1, 2, 3, 0] rfl) K30_54
  refine lv_aload_n C.1.1 C.1.2.1 dX5_follow_0 rfl (lv_at hl 0 rfl) ?_
  have hk1 := sh5_0 hW hk_a0
  refine gf5_0 C hW hk_a0 w_383 dX5_follow_1 ?_
  refine lv_iconst (v := 0) C.1.1 C.1.2.1 dX5_follow_4 (by decide) ?_
  obtain ⟨σ3, hc2, hf⟩ := bd hf
  try dsimp only at hf
  refine cSv C hW (mJ7_fill_53178 hk1 hc2) ksJ7_fill_53178 w_884 ⟨(Nat.le_of_ble_eq_true rfl), (Nat.le_of_ble_eq_true rfl)⟩ ⟨Nat.zero_le _, Nat.zero_le _⟩ rfl hl.1 (rest := []) rfl (Nat.le_of_ble_eq_true rfl) dX5_follow_5 (fun H locs hW => ?_)
  refine lv_aload_n C.1.1 C.1.2.1 dX5_follow_8 rfl (lv_at hl 0 rfl) ?_
  refine lv_iconst (v := 0) C.1.1 C.1.2.1 dX5_follow_9 (by decide) ?_
  refine pf5_1 C hW hk_a0 w_385 dX5_follow_10 (fun H locs hW => ?_)
  refine lv_aload_n C.1.1 C.1.2.1 dX5_follow_13 rfl (lv_at hl 0 rfl) ?_
  refine lv_iconst (v := 0) C.1.1 C.1.2.1 dX5_follow_14 (by decide) ?_
  refine pf5_2 C hW hk_a0 w_387 dX5_follow_15 (fun H locs hW => ?_)
  refine lv_aload_n C.1.1 C.1.2.1 dX5_follow_18 rfl (lv_at hl 0 rfl) ?_
  refine lv_iconst (v := 0) C.1.1 C.1.2.1 dX5_follow_19 (by decide) ?_
  refine pf5_3 C hW hk_a0 w_389 dX5_follow_20 (fun H locs hW => ?_)
  refine lv_aload_n C.1.1 C.1.2.1 dX5_follow_23 rfl (lv_at hl 0 rfl) ?_
  refine lv_iconst (v := 0) C.1.1 C.1.2.1 dX5_follow_24 (by decide) ?_
  refine pf5_4 C hW hk_a0 w_391 dX5_follow_25 (fun H locs hW => ?_)
  refine lv_iconst (v := 0) C.1.1 C.1.2.1 dX5_follow_28 (by decide) ?_
  refine lv_istore_n (lv' := [(3, .int _), (0, .ref _), (1, .ref _), (2, .int _)]) C.1.1 C.1.2.1 dX5_follow_29 rfl hl (by decide) rfl (fun ls hl => ?_)
  obtain ⟨o22, ho, hf⟩ := bd hf
  obtain ⟨n, ho⟩ := lp_it ho
  refine L30 n _ _ _ _ _ o22 ho hW (lv_sub hl [1, 2, 3, 0] rfl) ?_
  intro  σ23 H locs ls e9 hW hl
  subst e9
  try dsimp only at hf
  exact rv hQ C hr hlk hW hf dX5_follow_54
theorem kvX5_firstHour : KV 5 "RightKeys$Watch" yX5_firstHour cX5_firstHour 4 (some .int) 2 := ⟨⟨w_897, w_898, w_115, w_899⟩, ⟨rfl, by decide, by decide, by decide +kernel⟩, by decide, rfl⟩
noncomputable def bX5_firstHour_2 (a0 : Nat) (a1 : Nat) (p2 : Int32) (x3 : Int32) (σ : Sg) : Option ((Int32 × Sg) ⊕ ((Int32 × Sg) ⊕ (Sg))) := if p2 ≤ x3 then (some (Sum.inr (Sum.inr σ))) else ((fX2_goThroughHour a1 σ).bind (fun σ2 => if (σ2.1 a1 3) = 0 then ((let x3_6 := x3 + (1 : Int32); some (Sum.inl (x3_6, σ2)))) else (some (Sum.inr (Sum.inl (x3, σ2))))))
noncomputable def fX5_firstHour (a0 : Nat) (a1 : Nat) (p2 : Int32) (σ : Sg) : Option (Int32 × Sg) := (lp (fun st => bX5_firstHour_2 a0 a1 p2 st.1 st.2) ((0 : Int32), σ)).bind (fun o7 => Sum.elim (fun q10 => let y9 := q10.1; let σ8 := q10.2;  some (y9, σ8)) (fun o7_ => (fun σ11 => some ((-2 : Int32), σ11)) o7_) o7)
set_option maxRecDepth 100000 in
set_option maxHeartbeats 4000000 in
theorem mX5_firstHour {l : Launch} {G : Gm} {a0 : Nat} {a1 : Nat} {p2 : Int32} {σ : Sg} {r : Int32} {σ' : Sg} (hk_a0 : gK G a0 = 6) (hk_a1 : gK G a1 = 3) (hf : fX5_firstHour a0 a1 p2 σ = some (r, σ')) : Mi l G yX5_firstHour cX5_firstHour 4 .int 6 155 [.ref (gB G + a0), .ref (gB G + a1), .int p2] σ r σ' := by
  refine of_W "RightKeys$Watch" rfl (by decide) (Nat.le_of_ble_eq_true rfl) ?_
  intro p e s m args below meth c Q hQ C hr hlk hW ls hl
  have h00 := hW.1
  have hl : lv_has ls 4 [(0, .ref (gB G + a0)), (1, .ref (gB G + a1)), (2, .int p2)] := hl
  delta fX5_firstHour at hf
  have L2 : ∀ (n : Nat) (x3 : Int32) (σ : Sg) (H : Heap) (locs : List Loc) (ls : Array Slot) (out : ((Int32 × Sg) ⊕ (Sg))), iter (fun st => bX5_firstHour_2 a0 a1 p2 st.1 st.2) n (x3, σ) = some out → Ws G σ s.heap H locs → lv_has ls 4 [(1, .ref (gB G + a1)), (2, .int p2), (3, .int x3)] → (∀ (y3 : Int32) (σ : Sg) (H : Heap) (locs : List Loc) (ls : Array Slot), out = (Sum.inl (y3, σ)) → Ws G σ s.heap H locs → lv_has ls 4 [(3, .int y3)] → W p l e (rmOf 6 155) s m args below meth c H locs 0 0 Q (F0 m 18 ls [])) → (∀ (σ : Sg) (H : Heap) (locs : List Loc) (ls : Array Slot), out = (Sum.inr σ) → Ws G σ s.heap H locs → lv_has ls 4 [] → W p l e (rmOf 6 155) s m args below meth c H locs 0 0 Q (F0 m 26 ls [])) → W p l e (rmOf 6 155) s m args below meth c H locs 0 0 Q (F0 m 2 ls []) := by
    intro n
    induction n with
    | zero =>
      intro x3 σ H locs ls out hf
      exact (it_0 hf).elim
    | succ n ih =>
      intro x3 σ H locs ls out hf hW hl K2_18 K2_26
      obtain ⟨x, hf, hx⟩ := it_s hf
      have hf : bX5_firstHour_2 a0 a1 p2 x3 σ = some x := hf
      delta bX5_firstHour_2 at hf
      refine lv_iload_n C.1.1 C.1.2.1 dX5_firstHour_2 rfl (lv_at hl 2 rfl) ?_
      refine lv_iload_n C.1.1 C.1.2.1 dX5_firstHour_3 rfl (lv_at hl 1 rfl) ?_
      refine lv_icmp_ge (tgt := 26) C.1.1 C.1.2.1 dX5_firstHour_4 (by decide) (fun h9 => ?_) (fun h9 => ?_)
      · replace hf := (if_pos h9).symm.trans hf
        cases hf
        cases hx
        exact K2_26 _ _ _ _ rfl hW (lv_sub hl [] rfl)
      · replace hf := (if_neg h9).symm.trans hf
        refine lv_aload_n C.1.1 C.1.2.1 dX5_firstHour_7 rfl (lv_at hl 0 rfl) ?_
        obtain ⟨σ2, hc1, hf⟩ := bd hf
        try dsimp only at hf
        refine cVv C hW (mX2_goThroughHour hk_a1 hc1) hk_a1 kvX2_goThroughHour w_885 ⟨(Nat.le_of_ble_eq_true rfl), (Nat.le_of_ble_eq_true rfl)⟩ ⟨Nat.zero_le _, Nat.zero_le _⟩ rfl hl.1 (rest := []) rfl (Nat.le_of_ble_eq_true rfl) dX5_firstHour_8 (fun H locs hW => ?_)
        refine lv_aload_n C.1.1 C.1.2.1 dX5_firstHour_11 rfl (lv_at hl 0 rfl) ?_
        refine gf2_3 C hW hk_a1 w_303 dX5_firstHour_12 ?_
        refine lv_if_eq (tgt := 20) C.1.1 C.1.2.1 dX5_firstHour_15 (by decide) (fun h9 => ?_) (fun h9 => ?_)
        · replace hf := (if_pos h9).symm.trans hf
          refine lv_iinc (v := _) (lv' := [(3, .int _), (1, .ref _), (2, .int _)]) C.1.1 C.1.2.1 dX5_firstHour_20 hl (k := 2) rfl (ii (k := 1) (by decide)) (by decide) rfl (fun ls hl => ?_)
          refine lv_goto (tgt := 2) C.1.1 C.1.2.1 dX5_firstHour_23 (by decide) ?_
          cases hf
          exact ih _ _ _ _ _ _ hx hW (lv_sub hl [1, 2, 0] rfl) K2_18 K2_26
        · replace hf := (if_neg h9).symm.trans hf
          cases hf
          cases hx
          exact K2_18 _ _ _ _ _ rfl hW (lv_sub hl [2] rfl)
  refine lv_iconst (v := 0) C.1.1 C.1.2.1 dX5_firstHour_0 (by decide) ?_
  refine lv_istore_n (lv' := [(3, .int _), (0, .ref _), (1, .ref _), (2, .int _)]) C.1.1 C.1.2.1 dX5_firstHour_1 rfl hl (by decide) rfl (fun ls hl => ?_)
  obtain ⟨o7, ho, hf⟩ := bd hf
  obtain ⟨n, ho⟩ := lp_it ho
  refine L2 n _ _ _ _ _ o7 ho hW (lv_sub hl [2, 3, 0] rfl) ?_ ?_
  · intro y9 σ8 H locs ls e9 hW hl
    subst e9
    try dsimp only at hf
    refine lv_iload_n C.1.1 C.1.2.1 dX5_firstHour_18 rfl (lv_at hl 0 rfl) ?_
    exact ri hQ C hr hlk hW hf (rok_i _) dX5_firstHour_19
  · intro  σ11 H locs ls e9 hW hl
    subst e9
    try dsimp only at hf
    refine lv_bipush (v := (-2)) C.1.1 C.1.2.1 dX5_firstHour_26 (by decide) ?_
    exact ri hQ C hr hlk hW hf (rok_i _) dX5_firstHour_28
