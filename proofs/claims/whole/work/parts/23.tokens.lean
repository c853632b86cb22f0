theorem ksX4_isBlank : KS yX4_isBlank cX4_isBlank 1 (some .boolean) 1 := ⟨⟨w_485, w_113, w_486⟩, ⟨by decide, by decide, by decide +kernel⟩⟩
noncomputable def jX4_isBlank_24 (p0 : Int32) (σ : Sg) : Option (Int32 × Sg) := some ((1 : Int32), σ)
noncomputable def fX4_isBlank (p0 : Int32) (σ : Sg) : Option (Int32 × Sg) := if p0 = (9 : Int32) then (jX4_isBlank_24 p0 σ) else (if p0 = (10 : Int32) then (jX4_isBlank_24 p0 σ) else (if p0 = (13 : Int32) then (jX4_isBlank_24 p0 σ) else (if p0 = (32 : Int32) then (jX4_isBlank_24 p0 σ) else (some ((0 : Int32), σ)))))
set_option maxRecDepth 100000 in
set_option maxHeartbeats 4000000 in
theorem mX4_isBlank {l : Launch} {G : Gm} {p0 : Int32} {σ : Sg} {r : Int32} {σ' : Sg}  (hf : fX4_isBlank p0 σ = some (r, σ')) : Mi l G yX4_isBlank cX4_isBlank 1 .boolean 0 0 [.int p0] σ r σ' := by
  refine of_W "RightKeys$Tokens" rfl (by decide) (Nat.le_of_ble_eq_true rfl) ?_
  intro p e s m args below meth c Q hQ C hr hlk hW ls hl
  have h00 := hW.1
  have hl : lv_has ls 1 [(0, .int p0)] := hl
  delta fX4_isBlank at hf
  have J24 : ∀ (σ : Sg) (H : Heap) (locs : List Loc) (ls : Array Slot), jX4_isBlank_24 p0 σ = some (r, σ') → Ws G σ s.heap H locs → lv_has ls 1 [] → W p l e (rmOf 0 0) s m args below meth c H locs 0 0 Q (F0 m 24 ls []) := by
    intro σ H locs ls hf hW hl
    delta jX4_isBlank_24 at hf
    refine lv_iconst (v := 1) C.1.1 C.1.2.1 dX4_isBlank_24 (by decide) ?_
    refine lv_goto (tgt := 29) C.1.1 C.1.2.1 dX4_isBlank_25 (by decide) ?_
    exact ri hQ C hr hlk hW hf (rok_z (Or.inr rfl)) dX4_isBlank_29
  refine lv_iload_n C.1.1 C.1.2.1 dX4_isBlank_0 rfl (lv_at hl 0 rfl) ?_
  refine lv_bipush (v := 9) C.1.1 C.1.2.1 dX4_isBlank_1 (by decide) ?_
  refine lv_icmp_eq (tgt := 24) C.1.1 C.1.2.1 dX4_isBlank_3 (by decide) (fun h9 => ?_) (fun h9 => ?_)
  · replace hf := (if_pos h9).symm.trans hf
    exact J24 _ _ _ _ hf hW (lv_sub hl [] rfl)
  · replace hf := (if_neg h9).symm.trans hf
    refine lv_iload_n C.1.1 C.1.2.1 dX4_isBlank_6 rfl (lv_at hl 0 rfl) ?_
    refine lv_bipush (v := 10) C.1.1 C.1.2.1 dX4_isBlank_7 (by decide) ?_
    refine lv_icmp_eq (tgt := 24) C.1.1 C.1.2.1 dX4_isBlank_9 (by decide) (fun h9 => ?_) (fun h9 => ?_)
    · replace hf := (if_pos h9).symm.trans hf
      exact J24 _ _ _ _ hf hW (lv_sub hl [] rfl)
    · replace hf := (if_neg h9).symm.trans hf
      refine lv_iload_n C.1.1 C.1.2.1 dX4_isBlank_12 rfl (lv_at hl 0 rfl) ?_
      refine lv_bipush (v := 13) C.1.1 C.1.2.1 dX4_isBlank_13 (by decide) ?_
      refine lv_icmp_eq (tgt := 24) C.1.1 C.1.2.1 dX4_isBlank_15 (by decide) (fun h9 => ?_) (fun h9 => ?_)
      · replace hf := (if_pos h9).symm.trans hf
        exact J24 _ _ _ _ hf hW (lv_sub hl [] rfl)
      · replace hf := (if_neg h9).symm.trans hf
        refine lv_iload_n C.1.1 C.1.2.1 dX4_isBlank_18 rfl (lv_at hl 0 rfl) ?_
        refine lv_bipush (v := 32) C.1.1 C.1.2.1 dX4_isBlank_19 (by decide) ?_
        refine lv_icmp_ne (tgt := 28) C.1.1 C.1.2.1 dX4_isBlank_21 (by decide) (fun h9 => ?_) (fun h9 => ?_)
        · replace hf := (if_neg h9).symm.trans hf
          refine lv_iconst (v := 0) C.1.1 C.1.2.1 dX4_isBlank_28 (by decide) ?_
          exact ri hQ C hr hlk hW hf (rok_z (Or.inl rfl)) dX4_isBlank_29
        · replace hf := (if_pos h9).symm.trans hf
          exact J24 _ _ _ _ hf hW (lv_sub hl [] rfl)
theorem ksX4_isDigit : KS yX4_isDigit cX4_isDigit 1 (some .boolean) 1 := ⟨⟨w_494, w_113, w_495⟩, ⟨by decide, by decide, by decide +kernel⟩⟩
noncomputable def fX4_isDigit (p0 : Int32) (σ : Sg) : Option (Int32 × Sg) := if p0 < (48 : Int32) then (some ((0 : Int32), σ)) else (if (57 : Int32) < p0 then (some ((0 : Int32), σ)) else (some ((1 : Int32), σ)))
set_option maxRecDepth 100000 in
set_option maxHeartbeats 4000000 in
theorem mX4_isDigit {l : Launch} {G : Gm} {p0 : Int32} {σ : Sg} {r : Int32} {σ' : Sg}  (hf : fX4_isDigit p0 σ = some (r, σ')) : Mi l G yX4_isDigit cX4_isDigit 1 .boolean 0 0 [.int p0] σ r σ' := by
  refine of_W "RightKeys$Tokens" rfl (by decide) (Nat.le_of_ble_eq_true rfl) ?_
  intro p e s m args below meth c Q hQ C hr hlk hW ls hl
  have h00 := hW.1
  have hl : lv_has ls 1 [(0, .int p0)] := hl
  delta fX4_isDigit at hf
  refine lv_iload_n C.1.1 C.1.2.1 dX4_isDigit_0 rfl (lv_at hl 0 rfl) ?_
  refine lv_bipush (v := 48) C.1.1 C.1.2.1 dX4_isDigit_1 (by decide) ?_
  refine lv_icmp_lt (tgt := 16) C.1.1 C.1.2.1 dX4_isDigit_3 (by decide) (fun h9 => ?_) (fun h9 => ?_)
  · replace hf := (if_pos h9).symm.trans hf
    refine lv_iconst (v := 0) C.1.1 C.1.2.1 dX4_isDigit_16 (by decide) ?_
    exact ri hQ C hr hlk hW hf (rok_z (Or.inl rfl)) dX4_isDigit_17
  · replace hf := (if_neg h9).symm.trans hf
    refine lv_iload_n C.1.1 C.1.2.1 dX4_isDigit_6 rfl (lv_at hl 0 rfl) ?_
    refine lv_bipush (v := 57) C.1.1 C.1.2.1 dX4_isDigit_7 (by decide) ?_
    refine lv_icmp_gt (tgt := 16) C.1.1 C.1.2.1 dX4_isDigit_9 (by decide) (fun h9 => ?_) (fun h9 => ?_)
    · replace hf := (if_pos h9).symm.trans hf
      refine lv_iconst (v := 0) C.1.1 C.1.2.1 dX4_isDigit_16 (by decide) ?_
      exact ri hQ C hr hlk hW hf (rok_z (Or.inl rfl)) dX4_isDigit_17
    · replace hf := (if_neg h9).symm.trans hf
      refine lv_iconst (v := 1) C.1.1 C.1.2.1 dX4_isDigit_12 (by decide) ?_
      refine lv_goto (tgt := 17) C.1.1 C.1.2.1 dX4_isDigit_13 (by decide) ?_
      exact ri hQ C hr hlk hW hf (rok_z (Or.inr rfl)) dX4_isDigit_17
theorem ksX4_isLetter : KS yX4_isLetter cX4_isLetter 1 (some .boolean) 1 := ⟨⟨w_491, w_113, w_492⟩, ⟨by decide, by decide, by decide +kernel⟩⟩
noncomputable def fX4_isLetter (p0 : Int32) (σ : Sg) : Option (Int32 × Sg) := if p0 < (97 : Int32) then (some ((0 : Int32), σ)) else (if (122 : Int32) < p0 then (some ((0 : Int32), σ)) else (some ((1 : Int32), σ)))
set_option maxRecDepth 100000 in
set_option maxHeartbeats 4000000 in
theorem mX4_isLetter {l : Launch} {G : Gm} {p0 : Int32} {σ : Sg} {r : Int32} {σ' : Sg}  (hf : fX4_isLetter p0 σ = some (r, σ')) : Mi l G yX4_isLetter cX4_isLetter 1 .boolean 0 0 [.int p0] σ r σ' := by
  refine of_W "RightKeys$Tokens" rfl (by decide) (Nat.le_of_ble_eq_true rfl) ?_
  intro p e s m args below meth c Q hQ C hr hlk hW ls hl
  have h00 := hW.1
  have hl : lv_has ls 1 [(0, .int p0)] := hl
  delta fX4_isLetter at hf
  refine lv_iload_n C.1.1 C.1.2.1 dX4_isLetter_0 rfl (lv_at hl 0 rfl) ?_
  refine lv_bipush (v := 97) C.1.1 C.1.2.1 dX4_isLetter_1 (by decide) ?_
  refine lv_icmp_lt (tgt := 16) C.1.1 C.1.2.1 dX4_isLetter_3 (by decide) (fun h9 => ?_) (fun h9 => ?_)
  · replace hf := (if_pos h9).symm.trans hf
    refine lv_iconst (v := 0) C.1.1 C.1.2.1 dX4_isLetter_16 (by decide) ?_
    exact ri hQ C hr hlk hW hf (rok_z (Or.inl rfl)) dX4_isLetter_17
  · replace hf := (if_neg h9).symm.trans hf
    refine lv_iload_n C.1.1 C.1.2.1 dX4_isLetter_6 rfl (lv_at hl 0 rfl) ?_
    refine lv_bipush (v := 122) C.1.1 C.1.2.1 dX4_isLetter_7 (by decide) ?_
    refine lv_icmp_gt (tgt := 16) C.1.1 C.1.2.1 dX4_isLetter_9 (by decide) (fun h9 => ?_) (fun h9 => ?_)
    · replace hf := (if_pos h9).symm.trans hf
      refine lv_iconst (v := 0) C.1.1 C.1.2.1 dX4_isLetter_16 (by decide) ?_
      exact ri hQ C hr hlk hW hf (rok_z (Or.inl rfl)) dX4_isLetter_17
    · replace hf := (if_neg h9).symm.trans hf
      refine lv_iconst (v := 1) C.1.1 C.1.2.1 dX4_isLetter_12 (by decide) ?_
      refine lv_goto (tgt := 17) C.1.1 C.1.2.1 dX4_isLetter_13 (by decide) ?_
      exact ri hQ C hr hlk hW hf (rok_z (Or.inr rfl)) dX4_isLetter_17
theorem ksX4_isWord : KS yX4_isWord cX4_isWord 6 (some .boolean) 4 := ⟨⟨w_503, w_113, w_504⟩, ⟨by decide, by decide, by decide +kernel⟩⟩
noncomputable def jX4_isWord_29 (a0 : Nat) (p1 : Int32) (p2 : Int32) (p3 : Int32) (x4 : Int32) (s0 : Int32) (σ : Sg) : Option ((Int32 × Sg) ⊕ ((Sg) ⊕ (Sg))) := if vin (p3 + x4) 160 then (if (schr 0 ((p3 + x4)).toNatClampNeg) = s0 then ((let x4_2 := x4 + (1 : Int32); some (Sum.inl (x4_2, σ)))) else (some (Sum.inr (Sum.inl σ)))) else none
noncomputable def bX4_isWord_3 (a0 : Nat) (p1 : Int32) (p2 : Int32) (p3 : Int32) (x4 : Int32) (σ : Sg) : Option ((Int32 × Sg) ⊕ ((Sg) ⊕ (Sg))) := if (8 : Int32) ≤ x4 then (some (Sum.inr (Sum.inr σ))) else (if p2 ≤ (p1 + x4) then (jX4_isWord_29 a0 p1 p2 p3 x4 (32 : Int32) σ) else (if vin (p1 + x4) 2000 then (jX4_isWord_29 a0 p1 p2 p3 x4 (σ.1 a0 (((p1 + x4)).toNatClampNeg)) σ) else none))
noncomputable def fX4_isWord (a0 : Nat) (p1 : Int32) (p2 : Int32) (p3 : Int32) (σ : Sg) : Option (Int32 × Sg) := (lp (fun st => bX4_isWord_3 a0 p1 p2 p3 st.1 st.2) ((0 : Int32), σ)).bind (fun o4 => Sum.elim (fun σ5 => some ((0 : Int32), σ5)) (fun o4_ => (fun σ6 => some ((1 : Int32), σ6)) o4_) o4)
set_option maxRecDepth 100000 in
set_option maxHeartbeats 4000000 in
theorem mX4_isWord {l : Launch} {G : Gm} {a0 : Nat} {p1 : Int32} {p2 : Int32} {p3 : Int32} {σ : Sg} {r : Int32} {σ' : Sg} (hk_a0 : gK G a0 = kA 0 2000) (hf : fX4_isWord a0 p1 p2 p3 σ = some (r, σ')) : Mi l G yX4_isWord cX4_isWord 6 .boolean 4 85 [.ref (gB G + a0), .int p1, .int p2, .int p3] σ r σ' := by
  refine of_W "RightKeys$Tokens" rfl (by decide) (Nat.le_of_ble_eq_true rfl) ?_
  intro p e s m args below meth c Q hQ C hr hlk hW ls hl
  have h00 := hW.1
  have hl : lv_has ls 6 [(0, .ref (gB G + a0)), (1, .int p1), (2, .int p2), (3, .int p3)] := hl
  delta fX4_isWord at hf
  have L3 : ∀ (n : Nat) (x4 : Int32) (σ : Sg) (H : Heap) (locs : List Loc) (ls : Array Slot) (out : ((Sg) ⊕ (Sg))), iter (fun st => bX4_isWord_3 a0 p1 p2 p3 st.1 st.2) n (x4, σ) = some out → Ws G σ s.heap H locs → lv_has ls 6 [(0, .ref (gB G + a0)), (1, .int p1), (2, .int p2), (3, .int p3), (4, .int x4)] → (∀ (σ : Sg) (H : Heap) (locs : List Loc) (ls : Array Slot), out = (Sum.inl σ) → Ws G σ s.heap H locs → lv_has ls 6 [] → W p l e (rmOf 4 85) s m args below meth c H locs 0 0 Q (F0 m 45 ls [])) → (∀ (σ : Sg) (H : Heap) (locs : List Loc) (ls : Array Slot), out = (Sum.inr σ) → Ws G σ s.heap H locs → lv_has ls 6 [] → W p l e (rmOf 4 85) s m args below meth c H locs 0 0 Q (F0 m 53 ls [])) → W p l e (rmOf 4 85) s m args below meth c H locs 0 0 Q (F0 m 3 ls []) := by
    intro n
    induction n with
    | zero =>
      intro x4 σ H locs ls out hf
      exact (it_0 hf).elim
    | succ n ih =>
      intro x4 σ H locs ls out hf hW hl K3_45 K3_53
      obtain ⟨x, hf, hx⟩ := it_s hf
      have hf : bX4_isWord_3 a0 p1 p2 p3 x4 σ = some x := hf
      delta bX4_isWord_3 at hf
      have J29 : ∀ (x4 : Int32) (s0 : Int32) (σ : Sg) (H : Heap) (locs : List Loc) (ls : Array Slot), jX4_isWord_29 a0 p1 p2 p3 x4 s0 σ = some x → Ws G σ s.heap H locs → lv_has ls 6 [(0, .ref (gB G + a0)), (1, .int p1), (2, .int p2), (3, .int p3), (4, .int x4)] → W p l e (rmOf 4 85) s m args below meth c H locs 0 0 Q (F0 m 29 ls [.int s0]) := by
        intro x4 s0 σ H locs ls hf hW hl
        delta jX4_isWord_29 at hf
        refine lv_istore (lv' := [(5, .int _), (0, .ref _), (1, .int _), (2, .int _), (3, .int _), (4, .int _)]) C.1.1 C.1.2.1 dX4_isWord_29 hl (by decide) rfl (fun ls hl => ?_)
        refine va_ldcS C.1.1 C.1.2.1 C.1.2.2.2.1 C.2.2.2.1.1 dX4_isWord_31 ?_
        refine lv_iload_n C.1.1 C.1.2.1 dX4_isWord_33 rfl (lv_at hl 4 rfl) ?_
        refine lv_iload C.1.1 C.1.2.1 dX4_isWord_34 (lv_at hl 5 rfl) ?_
        refine lv_iadd C.1.1 C.1.2.1 dX4_isWord_36 ?_
        obtain ⟨hv1, hf⟩ := gd hf
        refine cXi C h00 hW (i := 0) (by decide) (mJ0_charAt (by decide) hv1) kxJ0_charAt w_506 ⟨(Nat.le_of_ble_eq_true rfl), (Nat.le_of_ble_eq_true rfl)⟩ ⟨Nat.zero_le _, Nat.zero_le _⟩ rfl hl.1 (rest := []) rfl (Nat.le_of_ble_eq_true rfl) dX4_isWord_37 (fun H locs _ hW => ?_)
        refine lv_iload C.1.1 C.1.2.1 dX4_isWord_40 (lv_at hl 0 rfl) ?_
        refine lv_icmp_eq (tgt := 47) C.1.1 C.1.2.1 dX4_isWord_42 (by decide) (fun h9 => ?_) (fun h9 => ?_)
        · replace hf := (if_pos h9).symm.trans hf
          refine lv_iinc (v := _) (lv' := [(4, .int _), (5, .int _), (0, .ref _), (1, .int _), (2, .int _), (3, .int _)]) C.1.1 C.1.2.1 dX4_isWord_47 hl (k := 5) rfl (ii (k := 1) (by decide)) (by decide) rfl (fun ls hl => ?_)
          refine lv_goto (tgt := 3) C.1.1 C.1.2.1 dX4_isWord_50 (by decide) ?_
          cases hf
          exact ih _ _ _ _ _ _ hx hW (lv_sub hl [2, 3, 4, 5, 0] rfl) K3_45 K3_53
        · replace hf := (if_neg h9).symm.trans hf
          cases hf
          cases hx
          exact K3_45 _ _ _ _ rfl hW (lv_sub hl [] rfl)
      refine lv_iload C.1.1 C.1.2.1 dX4_isWord_3 (lv_at hl 4 rfl) ?_
      refine lv_bipush (v := 8) C.1.1 C.1.2.1 dX4_isWord_5 (by decide) ?_
      refine lv_icmp_ge (tgt := 53) C.1.1 C.1.2.1 dX4_isWord_7 (by decide) (fun h9 => ?_) (fun h9 => ?_)
      · replace hf := (if_pos h9).symm.trans hf
        cases hf
        cases hx
        exact K3_53 _ _ _ _ rfl hW (lv_sub hl [] rfl)
      · replace hf := (if_neg h9).symm.trans hf
        refine lv_iload_n C.1.1 C.1.2.1 dX4_isWord_10 rfl (lv_at hl 1 rfl) ?_
        refine lv_iload C.1.1 C.1.2.1 dX4_isWord_11 (lv_at hl 4 rfl) ?_
        refine lv_iadd C.1.1 C.1.2.1 dX4_isWord_13 ?_
        refine lv_iload_n C.1.1 C.1.2.1 dX4_isWord_14 rfl (lv_at hl 2 rfl) ?_
        refine lv_icmp_ge (tgt := 27) C.1.1 C.1.2.1 dX4_isWord_15 (by decide) (fun h9 => ?_) (fun h9 => ?_)
        · replace hf := (if_pos h9).symm.trans hf
          refine lv_bipush (v := 32) C.1.1 C.1.2.1 dX4_isWord_27 (by decide) ?_
          exact J29 _ _ _ _ _ _ hf hW (lv_sub hl [0, 1, 2, 3, 4] rfl)
        · replace hf := (if_neg h9).symm.trans hf
          refine lv_aload_n C.1.1 C.1.2.1 dX4_isWord_18 rfl (lv_at hl 0 rfl) ?_
          refine lv_iload_n C.1.1 C.1.2.1 dX4_isWord_19 rfl (lv_at hl 1 rfl) ?_
          refine lv_iload C.1.1 C.1.2.1 dX4_isWord_20 (lv_at hl 4 rfl) ?_
          refine lv_iadd C.1.1 C.1.2.1 dX4_isWord_22 ?_
          obtain ⟨hv3, hf⟩ := gd hf
          refine wab C hW hk_a0 (vin_p hv3) dX4_isWord_23 ?_
          refine lv_goto (tgt := 29) C.1.1 C.1.2.1 dX4_isWord_24 (by decide) ?_
          exact J29 _ _ _ _ _ _ hf hW (lv_sub hl [0, 1, 2, 3, 4] rfl)
  refine lv_iconst (v := 0) C.1.1 C.1.2.1 dX4_isWord_0 (by decide) ?_
  refine lv_istore (lv' := [(4, .int _), (0, .ref _), (1, .int _), (2, .int _), (3, .int _)]) C.1.1 C.1.2.1 dX4_isWord_1 hl (by decide) rfl (fun ls hl => ?_)
  obtain ⟨o4, ho, hf⟩ := bd hf
  obtain ⟨n, ho⟩ := lp_it ho
  refine L3 n _ _ _ _ _ o4 ho hW (lv_sub hl [1, 2, 3, 4, 0] rfl) ?_ ?_
  · intro  σ5 H locs ls e9 hW hl
    subst e9
    try dsimp only at hf
    refine lv_iconst (v := 0) C.1.1 C.1.2.1 dX4_isWord_45 (by decide) ?_
    exact ri hQ C hr hlk hW hf (rok_z (Or.inl rfl)) dX4_isWord_46
  · intro  σ6 H locs ls e9 hW hl
    subst e9
    try dsimp only at hf
    refine lv_iconst (v := 1) C.1.1 C.1.2.1 dX4_isWord_53 (by decide) ?_
    exact ri hQ C hr hlk hW hf (rok_z (Or.inr rfl)) dX4_isWord_54
theorem ksX4_wordOf : KS yX4_wordOf cX4_wordOf 4 (some .int) 3 := ⟨⟨w_500, w_113, w_501⟩, ⟨by decide, by decide, by decide +kernel⟩⟩
noncomputable def bX4_wordOf_2 (a0 : Nat) (p1 : Int32) (p2 : Int32) (x3 : Int32) (σ : Sg) : Option ((Int32 × Sg) ⊕ ((Int32 × Sg) ⊕ (Sg))) := if (20 : Int32) ≤ x3 then (some (Sum.inr (Sum.inr σ))) else ((fX4_isWord a0 p1 p2 (x3 * (8 : Int32)) σ).bind (fun q5 => let r3 := q5.1; let σ2 := q5.2; if r3 = 0 then ((let x3_6 := x3 + (1 : Int32); some (Sum.inl (x3_6, σ2)))) else (some (Sum.inr (Sum.inl (x3, σ2))))))
noncomputable def fX4_wordOf (a0 : Nat) (p1 : Int32) (p2 : Int32) (σ : Sg) : Option (Int32 × Sg) := (lp (fun st => bX4_wordOf_2 a0 p1 p2 st.1 st.2) ((0 : Int32), σ)).bind (fun o7 => Sum.elim (fun q10 => let y9 := q10.1; let σ8 := q10.2;  some (y9, σ8)) (fun o7_ => (fun σ11 => some ((20 : Int32), σ11)) o7_) o7)
set_option maxRecDepth 100000 in
set_option maxHeartbeats 4000000 in
theorem mX4_wordOf {l : Launch} {G : Gm} {a0 : Nat} {p1 : Int32} {p2 : Int32} {σ : Sg} {r : Int32} {σ' : Sg} (hk_a0 : gK G a0 = kA 0 2000) (hf : fX4_wordOf a0 p1 p2 σ = some (r, σ')) : Mi l G yX4_wordOf cX4_wordOf 4 .int 5 110 [.ref (gB G + a0), .int p1, .int p2] σ r σ' := by
  refine of_W "RightKeys$Tokens" rfl (by decide) (Nat.le_of_ble_eq_true rfl) ?_
  intro p e s m args below meth c Q hQ C hr hlk hW ls hl
  have h00 := hW.1
  have hl : lv_has ls 4 [(0, .ref (gB G + a0)), (1, .int p1), (2, .int p2)] := hl
  delta fX4_wordOf at hf
  have L2 : ∀ (n : Nat) (x3 : Int32) (σ : Sg) (H : Heap) (locs : List Loc) (ls : Array Slot) (out : ((Int32 × Sg) ⊕ (Sg))), iter (fun st => bX4_wordOf_2 a0 p1 p2 st.1 st.2) n (x3, σ) = some out → Ws G σ s.heap H locs → lv_has ls 4 [(0, .ref (gB G + a0)), (1, .int p1), (2, .int p2), (3, .int x3)] → (∀ (y3 : Int32) (σ : Sg) (H : Heap) (locs : List Loc) (ls : Array Slot), out = (Sum.inl (y3, σ)) → Ws G σ s.heap H locs → lv_has ls 4 [(3, .int y3)] → W p l e (rmOf 5 110) s m args below meth c H locs 0 0 Q (F0 m 21 ls [])) → (∀ (σ : Sg) (H : Heap) (locs : List Loc) (ls : Array Slot), out = (Sum.inr σ) → Ws G σ s.heap H locs → lv_has ls 4 [] → W p l e (rmOf 5 110) s m args below meth c H locs 0 0 Q (F0 m 29 ls [])) → W p l e (rmOf 5 110) s m args below meth c H locs 0 0 Q (F0 m 2 ls []) := by
    intro n
    induction n with
    | zero =>
      intro x3 σ H locs ls out hf
      exact (it_0 hf).elim
    | succ n ih =>
      intro x3 σ H locs ls out hf hW hl K2_21 K2_29
      obtain ⟨x, hf, hx⟩ := it_s hf
      have hf : bX4_wordOf_2 a0 p1 p2 x3 σ = some x := hf
      delta bX4_wordOf_2 at hf
      refine lv_iload_n C.1.1 C.1.2.1 dX4_wordOf_2 rfl (lv_at hl 3 rfl) ?_
      refine lv_bipush (v := 20) C.1.1 C.1.2.1 dX4_wordOf_3 (by decide) ?_
      refine lv_icmp_ge (tgt := 29) C.1.1 C.1.2.1 dX4_wordOf_5 (by decide) (fun h9 => ?_) (fun h9 => ?_)
      · replace hf := (if_pos h9).symm.trans hf
        cases hf
        cases hx
        exact K2_29 _ _ _ _ rfl hW (lv_sub hl [] rfl)
      · replace hf := (if_neg h9).symm.trans hf
        refine lv_aload_n C.1.1 C.1.2.1 dX4_wordOf_8 rfl (lv_at hl 0 rfl) ?_
        refine lv_iload_n C.1.1 C.1.2.1 dX4_wordOf_9 rfl (lv_at hl 1 rfl) ?_
        refine lv_iload_n C.1.1 C.1.2.1 dX4_wordOf_10 rfl (lv_at hl 2 rfl) ?_
        refine lv_iload_n C.1.1 C.1.2.1 dX4_wordOf_11 rfl (lv_at hl 3 rfl) ?_
        refine lv_bipush (v := 8) C.1.1 C.1.2.1 dX4_wordOf_12 (by decide) ?_
        refine lv_imul C.1.1 C.1.2.1 dX4_wordOf_14 ?_
        obtain ⟨⟨r3, σ2⟩, hc1, hf⟩ := bd hf
        try dsimp only at hf
        refine cSi C hW (mX4_isWord hk_a0 hc1) ksX4_isWord w_502 ⟨(Nat.le_of_ble_eq_true rfl), (Nat.le_of_ble_eq_true rfl)⟩ ⟨Nat.zero_le _, Nat.zero_le _⟩ rfl hl.1 (rest := []) rfl (Nat.le_of_ble_eq_true rfl) dX4_wordOf_15 (fun H locs hn4 hW => ?_)
        refine lv_if_eq (tgt := 23) C.1.1 C.1.2.1 dX4_wordOf_18 (by decide) (fun h9 => ?_) (fun h9 => ?_)
        · replace hf := (if_pos h9).symm.trans hf
          refine lv_iinc (v := _) (lv' := [(3, .int _), (0, .ref _), (1, .int _), (2, .int _)]) C.1.1 C.1.2.1 dX4_wordOf_23 hl (k := 3) rfl (ii (k := 1) (by decide)) (by decide) rfl (fun ls hl => ?_)
          refine lv_goto (tgt := 2) C.1.1 C.1.2.1 dX4_wordOf_26 (by decide) ?_
          cases hf
          exact ih _ _ _ _ _ _ hx hW (lv_sub hl [1, 2, 3, 0] rfl) K2_21 K2_29
        · replace hf := (if_neg h9).symm.trans hf
          cases hf
          cases hx
          exact K2_21 _ _ _ _ _ rfl hW (lv_sub hl [3] rfl)
  refine lv_iconst (v := 0) C.1.1 C.1.2.1 dX4_wordOf_0 (by decide) ?_
  refine lv_istore_n (lv' := [(3, .int _), (0, .ref _), (1, .int _), (2, .int _)]) C.1.1 C.1.2.1 dX4_wordOf_1 rfl hl (by decide) rfl (fun ls hl => ?_)
  obtain ⟨o7, ho, hf⟩ := bd hf
  obtain ⟨n, ho⟩ := lp_it ho
  refine L2 n _ _ _ _ _ o7 ho hW (lv_sub hl [1, 2, 3, 0] rfl) ?_ ?_
  · intro y9 σ8 H locs ls e9 hW hl
    subst e9
    try dsimp only at hf
    refine lv_iload_n C.1.1 C.1.2.1 dX4_wordOf_21 rfl (lv_at hl 0 rfl) ?_
    exact ri hQ C hr hlk hW hf (rok_i _) dX4_wordOf_22
  · intro  σ11 H locs ls e9 hW hl
    subst e9
    try dsimp only at hf
    refine lv_bipush (v := 20) C.1.1 C.1.2.1 dX4_wordOf_29 (by decide) ?_
    exact ri hQ C hr hlk hW hf (rok_i _) dX4_wordOf_31
theorem ksX4_kindOf : KS yX4_kindOf cX4_kindOf 4 (some .int) 3 := ⟨⟨w_497, w_113, w_498⟩, ⟨by decide, by decide, by decide +kernel⟩⟩
noncomputable def bX4_kindOf_55 (a0 : Nat) (p1 : Int32) (p2 : Int32) (x3 : Int32) (σ : Sg) : Option ((Int32 × Sg) ⊕ ((Int32 × Sg) ⊕ (Sg))) := if (Int32.ofNat (slen 1)) ≤ x3 then (some (Sum.inr (Sum.inr σ))) else (if vin x3 9 then (if vin p1 2000 then (if (schr 1 (x3).toNatClampNeg) = (σ.1 a0 ((p1).toNatClampNeg)) then (some (Sum.inr (Sum.inl (x3, σ)))) else ((let x3_14 := x3 + (1 : Int32); some (Sum.inl (x3_14, σ))))) else none) else none)
noncomputable def fX4_kindOf (a0 : Nat) (p1 : Int32) (p2 : Int32) (σ : Sg) : Option (Int32 × Sg) := if vin p1 2000 then ((fX4_isLetter (σ.1 a0 ((p1).toNatClampNeg)) σ).bind (fun q6 => let r4 := q6.1; let σ3 := q6.2; if r4 = 0 then ((fX4_isDigit (σ3.1 a0 ((p1).toNatClampNeg)) σ3).bind (fun q11 => let r9 := q11.1; let σ8 := q11.2; if r9 = 0 then ((lp (fun st => bX4_kindOf_55 a0 p1 p2 st.1 st.2) ((0 : Int32), σ8)).bind (fun o15 => Sum.elim (fun q18 => let y17 := q18.1; let σ16 := q18.2;  some (((22 : Int32) + y17), σ16)) (fun o15_ => (fun σ19 => some ((32 : Int32), σ19)) o15_) o15)) else (if (p2 - p1) ≤ (4 : Int32) then (some ((21 : Int32), σ8)) else (some ((32 : Int32), σ8))))) else (if (p2 - p1) ≤ (8 : Int32) then ((fX4_wordOf a0 p1 p2 σ3).bind (fun q24 => let r22 := q24.1; let σ21 := q24.2; some (r22, σ21))) else (some ((32 : Int32), σ3))))) else none
set_option maxRecDepth 100000 in
set_option maxHeartbeats 4000000 in
theorem mX4_kindOf {l : Launch} {G : Gm} {a0 : Nat} {p1 : Int32} {p2 : Int32} {σ : Sg} {r : Int32} {σ' : Sg} (hk_a0 : gK G a0 = kA 0 2000) (hf : fX4_kindOf a0 p1 p2 σ = some (r, σ')) : Mi l G yX4_kindOf cX4_kindOf 4 .int 6 133 [.ref (gB G + a0), .int p1, .int p2] σ r σ' := by
  refine of_W "RightKeys$Tokens" rfl (by decide) (Nat.le_of_ble_eq_true rfl) ?_
  intro p e s m args below meth c Q hQ C hr hlk hW ls hl
  have h00 := hW.1
  have hl : lv_has ls 4 [(0, .ref (gB G + a0)), (1, .int p1), (2, .int p2)] := hl
  delta fX4_kindOf at hf
  have L55 : ∀ (n : Nat) (x3 : Int32) (σ : Sg) (H : Heap) (locs : List Loc) (ls : Array Slot) (out : ((Int32 × Sg) ⊕ (Sg))), iter (fun st => bX4_kindOf_55 a0 p1 p2 st.1 st.2) n (x3, σ) = some out → Ws G σ s.heap H locs → lv_has ls 4 [(0, .ref (gB G + a0)), (1, .int p1), (3, .int x3)] → (∀ (y3 : Int32) (σ : Sg) (H : Heap) (locs : List Loc) (ls : Array Slot), out = (Sum.inl (y3, σ)) → Ws G σ s.heap H locs → lv_has ls 4 [(3, .int y3)] → W p l e (rmOf 6 133) s m args below meth c H locs 0 0 Q (F0 m 76 ls [])) → (∀ (σ : Sg) (H : Heap) (locs : List Loc) (ls : Array Slot), out = (Sum.inr σ) → Ws G σ s.heap H locs → lv_has ls 4 [] → W p l e (rmOf 6 133) s m args below meth c H locs 0 0 Q (F0 m 87 ls [])) → W p l e (rmOf 6 133) s m args below meth c H locs 0 0 Q (F0 m 55 ls []) := by
    intro n
    induction n with
    | zero =>
      intro x3 σ H locs ls out hf
      exact (it_0 hf).elim
    | succ n ih =>
      intro x3 σ H locs ls out hf hW hl K55_76 K55_87
      obtain ⟨x, hf, hx⟩ := it_s hf
      have hf : bX4_kindOf_55 a0 p1 p2 x3 σ = some x := hf
      delta bX4_kindOf_55 at hf
      refine lv_iload_n C.1.1 C.1.2.1 dX4_kindOf_55 rfl (lv_at hl 2 rfl) ?_
      refine va_ldcS C.1.1 C.1.2.1 C.1.2.2.2.1 C.2.2.2.1.2 dX4_kindOf_56 ?_
      refine cXi C h00 hW (i := 1) (by decide) (mJ0_length (by decide)) kxJ0_length w_547 ⟨(Nat.le_of_ble_eq_true rfl), (Nat.le_of_ble_eq_true rfl)⟩ ⟨Nat.zero_le _, Nat.zero_le _⟩ rfl hl.1 (rest := [.int _]) rfl (Nat.le_of_ble_eq_true rfl) dX4_kindOf_58 (fun H locs _ hW => ?_)
      refine lv_icmp_ge (tgt := 87) C.1.1 C.1.2.1 dX4_kindOf_61 (by decide) (fun h9 => ?_) (fun h9 => ?_)
      · replace hf := (if_pos h9).symm.trans hf
        cases hf
        cases hx
        exact K55_87 _ _ _ _ rfl hW (lv_sub hl [] rfl)
      · replace hf := (if_neg h9).symm.trans hf
        refine va_ldcS C.1.1 C.1.2.1 C.1.2.2.2.1 C.2.2.2.1.2 dX4_kindOf_64 ?_
        refine lv_iload_n C.1.1 C.1.2.1 dX4_kindOf_66 rfl (lv_at hl 2 rfl) ?_
        obtain ⟨hv12, hf⟩ := gd hf
        refine cXi C h00 hW (i := 1) (by decide) (mJ0_charAt (by decide) hv12) kxJ0_charAt w_506 ⟨(Nat.le_of_ble_eq_true rfl), (Nat.le_of_ble_eq_true rfl)⟩ ⟨Nat.zero_le _, Nat.zero_le _⟩ rfl hl.1 (rest := []) rfl (Nat.le_of_ble_eq_true rfl) dX4_kindOf_67 (fun H locs _ hW => ?_)
        refine lv_aload_n C.1.1 C.1.2.1 dX4_kindOf_70 rfl (lv_at hl 0 rfl) ?_
        refine lv_iload_n C.1.1 C.1.2.1 dX4_kindOf_71 rfl (lv_at hl 1 rfl) ?_
        obtain ⟨hv13, hf⟩ := gd hf
        refine wab C hW hk_a0 (vin_p hv13) dX4_kindOf_72 ?_
        refine lv_icmp_ne (tgt := 81) C.1.1 C.1.2.1 dX4_kindOf_73 (by decide) (fun h9 => ?_) (fun h9 => ?_)
        · replace hf := (if_neg h9).symm.trans hf
          refine lv_iinc (v := _) (lv' := [(3, .int _), (0, .ref _), (1, .int _)]) C.1.1 C.1.2.1 dX4_kindOf_81 hl (k := 2) rfl (ii (k := 1) (by decide)) (by decide) rfl (fun ls hl => ?_)
          refine lv_goto (tgt := 55) C.1.1 C.1.2.1 dX4_kindOf_84 (by decide) ?_
          cases hf
          exact ih _ _ _ _ _ _ hx hW (lv_sub hl [1, 2, 0] rfl) K55_76 K55_87
        · replace hf := (if_pos h9).symm.trans hf
          cases hf
          cases hx
          exact K55_76 _ _ _ _ _ rfl hW (lv_sub hl [2] rfl)
  refine lv_aload_n C.1.1 C.1.2.1 dX4_kindOf_0 rfl (lv_at hl 0 rfl) ?_
  refine lv_iload_n C.1.1 C.1.2.1 dX4_kindOf_1 rfl (lv_at hl 1 rfl) ?_
  obtain ⟨hv1, hf⟩ := gd hf
  refine wab C hW hk_a0 (vin_p hv1) dX4_kindOf_2 ?_
  obtain ⟨⟨r4, σ3⟩, hc2, hf⟩ := bd hf
  try dsimp only at hf
  refine cSi C hW (mX4_isLetter hc2) ksX4_isLetter w_490 ⟨(Nat.le_of_ble_eq_true rfl), (Nat.le_of_ble_eq_true rfl)⟩ ⟨Nat.zero_le _, Nat.zero_le _⟩ rfl hl.1 (rest := []) rfl (Nat.le_of_ble_eq_true rfl) dX4_kindOf_3 (fun H locs hn5 hW => ?_)
  refine lv_if_eq (tgt := 29) C.1.1 C.1.2.1 dX4_kindOf_6 (by decide) (fun h9 => ?_) (fun h9 => ?_)
  · replace hf := (if_pos h9).symm.trans hf
    refine lv_aload_n C.1.1 C.1.2.1 dX4_kindOf_29 rfl (lv_at hl 0 rfl) ?_
    refine lv_iload_n C.1.1 C.1.2.1 dX4_kindOf_30 rfl (lv_at hl 1 rfl) ?_
    refine wab C hW hk_a0 (vin_p hv1) dX4_kindOf_31 ?_
    obtain ⟨⟨r9, σ8⟩, hc7, hf⟩ := bd hf
    try dsimp only at hf
    refine cSi C hW (mX4_isDigit hc7) ksX4_isDigit w_493 ⟨(Nat.le_of_ble_eq_true rfl), (Nat.le_of_ble_eq_true rfl)⟩ ⟨Nat.zero_le _, Nat.zero_le _⟩ rfl hl.1 (rest := []) rfl (Nat.le_of_ble_eq_true rfl) dX4_kindOf_32 (fun H locs hn10 hW => ?_)
    refine lv_if_eq (tgt := 53) C.1.1 C.1.2.1 dX4_kindOf_35 (by decide) (fun h9 => ?_) (fun h9 => ?_)
    · replace hf := (if_pos h9).symm.trans hf
      refine lv_iconst (v := 0) C.1.1 C.1.2.1 dX4_kindOf_53 (by decide) ?_
      refine lv_istore_n (lv' := [(3, .int _), (0, .ref _), (1, .int _), (2, .int _)]) C.1.1 C.1.2.1 dX4_kindOf_54 rfl hl (by decide) rfl (fun ls hl => ?_)
      obtain ⟨o15, ho, hf⟩ := bd hf
      obtain ⟨n, ho⟩ := lp_it ho
      refine L55 n _ _ _ _ _ o15 ho hW (lv_sub hl [1, 2, 0] rfl) ?_ ?_
      · intro y17 σ16 H locs ls e9 hW hl
        subst e9
        try dsimp only at hf
        refine lv_bipush (v := 22) C.1.1 C.1.2.1 dX4_kindOf_76 (by decide) ?_
        refine lv_iload_n C.1.1 C.1.2.1 dX4_kindOf_78 rfl (lv_at hl 0 rfl) ?_
        refine lv_iadd C.1.1 C.1.2.1 dX4_kindOf_79 ?_
        exact ri hQ C hr hlk hW hf (rok_i _) dX4_kindOf_80
      · intro  σ19 H locs ls e9 hW hl
        subst e9
        try dsimp only at hf
        refine lv_bipush (v := 32) C.1.1 C.1.2.1 dX4_kindOf_87 (by decide) ?_
        exact ri hQ C hr hlk hW hf (rok_i _) dX4_kindOf_89
    · replace hf := (if_neg h9).symm.trans hf
      refine lv_iload_n C.1.1 C.1.2.1 dX4_kindOf_38 rfl (lv_at hl 2 rfl) ?_
      refine lv_iload_n C.1.1 C.1.2.1 dX4_kindOf_39 rfl (lv_at hl 1 rfl) ?_
      refine lv_isub C.1.1 C.1.2.1 dX4_kindOf_40 ?_
      refine lv_iconst (v := 4) C.1.1 C.1.2.1 dX4_kindOf_41 (by decide) ?_
      refine lv_icmp_le (tgt := 50) C.1.1 C.1.2.1 dX4_kindOf_42 (by decide) (fun h9 => ?_) (fun h9 => ?_)
      · replace hf := (if_pos h9).symm.trans hf
        refine lv_bipush (v := 21) C.1.1 C.1.2.1 dX4_kindOf_50 (by decide) ?_
        exact ri hQ C hr hlk hW hf (rok_i _) dX4_kindOf_52
      · replace hf := (if_neg h9).symm.trans hf
        refine lv_bipush (v := 32) C.1.1 C.1.2.1 dX4_kindOf_45 (by decide) ?_
        refine lv_goto (tgt := 52) C.1.1 C.1.2.1 dX4_kindOf_47 (by decide) ?_
        exact ri hQ C hr hlk hW hf (rok_i _) dX4_kindOf_52
  · replace hf := (if_neg h9).symm.trans hf
    refine lv_iload_n C.1.1 C.1.2.1 dX4_kindOf_9 rfl (lv_at hl 2 rfl) ?_
    refine lv_iload_n C.1.1 C.1.2.1 dX4_kindOf_10 rfl (lv_at hl 1 rfl) ?_
    refine lv_isub C.1.1 C.1.2.1 dX4_kindOf_11 ?_
    refine lv_bipush (v := 8) C.1.1 C.1.2.1 dX4_kindOf_12 (by decide) ?_
    refine lv_icmp_le (tgt := 22) C.1.1 C.1.2.1 dX4_kindOf_14 (by decide) (fun h9 => ?_) (fun h9 => ?_)
    · replace hf := (if_pos h9).symm.trans hf
      refine lv_aload_n C.1.1 C.1.2.1 dX4_kindOf_22 rfl (lv_at hl 0 rfl) ?_
      refine lv_iload_n C.1.1 C.1.2.1 dX4_kindOf_23 rfl (lv_at hl 1 rfl) ?_
      refine lv_iload_n C.1.1 C.1.2.1 dX4_kindOf_24 rfl (lv_at hl 2 rfl) ?_
      obtain ⟨⟨r22, σ21⟩, hc20, hf⟩ := bd hf
      try dsimp only at hf
      refine cSi C hW (mX4_wordOf hk_a0 hc20) ksX4_wordOf w_499 ⟨(Nat.le_of_ble_eq_true rfl), (Nat.le_of_ble_eq_true rfl)⟩ ⟨Nat.zero_le _, Nat.zero_le _⟩ rfl hl.1 (rest := []) rfl (Nat.le_of_ble_eq_true rfl) dX4_kindOf_25 (fun H locs hn23 hW => ?_)
      exact ri hQ C hr hlk hW hf (rok_i _) dX4_kindOf_28
    · replace hf := (if_neg h9).symm.trans hf
      refine lv_bipush (v := 32) C.1.1 C.1.2.1 dX4_kindOf_17 (by decide) ?_
      refine lv_goto (tgt := 28) C.1.1 C.1.2.1 dX4_kindOf_19 (by decide) ?_
      exact ri hQ C hr hlk hW hf (rok_i _) dX4_kindOf_28
theorem kvX4_put : KV 4 "RightKeys$Tokens" yX4_put cX4_put 5 none 3 := ⟨⟨w_565, w_2, w_113, w_566⟩, ⟨rfl, by decide, by decide, by decide +kernel⟩, by decide, rfl⟩
noncomputable def fX4_put (a0 : Nat) (p1 : Int32) (p2 : Int32) (p3 : Int64) (σ : Sg) : Option (Sg) := if (402 : Int32) ≤ (σ.1 a0 3) then (some σ) else (if vin (σ.1 a0 3) 402 then (let σ3 := wI σ (a0 + 1) (((σ.1 a0 3)).toNatClampNeg) p1; if vin (σ3.1 a0 3) 402 then (let σ6 := wI σ3 (a0 + 2) (((σ3.1 a0 3)).toNatClampNeg) p2; if vin (σ6.1 a0 3) 402 then (let σ9 := wJ σ6 (a0 + 3) (((σ6.1 a0 3)).toNatClampNeg) p3; (let σ10 := wI σ9 a0 3 ((σ9.1 a0 3) + (1 : Int32)); some σ10)) else none) else none) else none)
set_option maxRecDepth 100000 in
set_option maxHeartbeats 4000000 in
theorem mX4_put {l : Launch} {G : Gm} {a0 : Nat} {p1 : Int32} {p2 : Int32} {p3 : Int64} {σ : Sg} {σ' : Sg} (hk_a0 : gK G a0 = 5) (hf : fX4_put a0 p1 p2 p3 σ = some σ') : Mv l G yX4_put cX4_put 5 0 0 [.ref (gB G + a0), .int p1, .int p2, .long p3] σ σ' := by
  refine of_W "RightKeys$Tokens" rfl (by decide) (Nat.le_of_ble_eq_true rfl) ?_
  intro p e s m args below meth c Q hQ C hr hlk hW ls hl
  have h00 := hW.1
  have hl : lv_has ls 5 [(0, .ref (gB G + a0)), (1, .int p1), (2, .int p2), (3, .long p3)] := hl
  delta fX4_put at hf
  refine lv_aload_n C.1.1 C.1.2.1 dX4_put_0 rfl (lv_at hl 0 rfl) ?_
  refine gf4_3 C hW hk_a0 w_257 dX4_put_1 ?_
  refine lv_sipush (v := 402) C.1.1 C.1.2.1 dX4_put_4 (by decide) ?_
  refine lv_icmp_ge (tgt := 50) C.1.1 C.1.2.1 dX4_put_7 (by decide) (fun h9 => ?_) (fun h9 => ?_)
  · replace hf := (if_pos h9).symm.trans hf
    exact rv hQ C hr hlk hW hf dX4_put_50
  · replace hf := (if_neg h9).symm.trans hf
    refine lv_aload_n C.1.1 C.1.2.1 dX4_put_10 rfl (lv_at hl 0 rfl) ?_
    have hk1 := sh4_0 hW hk_a0
    refine gf4_0 C hW hk_a0 w_251 dX4_put_11 ?_
    refine lv_aload_n C.1.1 C.1.2.1 dX4_put_14 rfl (lv_at hl 0 rfl) ?_
    refine gf4_3 C hW hk_a0 w_257 dX4_put_15 ?_
    refine lv_iload_n C.1.1 C.1.2.1 dX4_put_18 rfl (lv_at hl 1 rfl) ?_
    obtain ⟨hv2, hf⟩ := gd hf
    refine wsi C hW hk1 (vin_p hv2) dX4_put_19 (fun H locs hW => ?_)
    refine lv_aload_n C.1.1 C.1.2.1 dX4_put_20 rfl (lv_at hl 0 rfl) ?_
    have hk4 := sh4_1 hW hk_a0
    refine gf4_1 C hW hk_a0 w_253 dX4_put_21 ?_
    refine lv_aload_n C.1.1 C.1.2.1 dX4_put_24 rfl (lv_at hl 0 rfl) ?_
    refine gf4_3 C hW hk_a0 w_257 dX4_put_25 ?_
    refine lv_iload_n C.1.1 C.1.2.1 dX4_put_28 rfl (lv_at hl 2 rfl) ?_
    obtain ⟨hv5, hf⟩ := gd hf
    refine wsi C hW hk4 (vin_p hv5) dX4_put_29 (fun H locs hW => ?_)
    refine lv_aload_n C.1.1 C.1.2.1 dX4_put_30 rfl (lv_at hl 0 rfl) ?_
    have hk7 := sh4_2 hW hk_a0
    refine gf4_2 C hW hk_a0 w_255 dX4_put_31 ?_
    refine lv_aload_n C.1.1 C.1.2.1 dX4_put_34 rfl (lv_at hl 0 rfl) ?_
    refine gf4_3 C hW hk_a0 w_257 dX4_put_35 ?_
    refine lv_lload_n C.1.1 C.1.2.1 dX4_put_38 rfl (lv_at hl 3 rfl) ?_
    obtain ⟨hv8, hf⟩ := gd hf
    refine wsl C hW hk7 (vin_p hv8) dX4_put_39 (fun H locs hW => ?_)
    refine lv_aload_n C.1.1 C.1.2.1 dX4_put_40 rfl (lv_at hl 0 rfl) ?_
    refine lv_dup C.1.1 C.1.2.1 dX4_put_41 rfl ?_
    refine gf4_3 C hW hk_a0 w_257 dX4_put_42 ?_
    refine lv_iconst (v := 1) C.1.1 C.1.2.1 dX4_put_45 (by decide) ?_
    refine lv_iadd C.1.1 C.1.2.1 dX4_put_46 ?_
    refine pf4_3 C hW hk_a0 w_257 dX4_put_47 (fun H locs hW => ?_)
    exact rv hQ C hr hlk hW hf dX4_put_50
theorem ksX4_runEnd : KS yX4_runEnd cX4_runEnd 4 (some .int) 3 := ⟨⟨w_488, w_113, w_489⟩, ⟨by decide, by decide, by decide +kernel⟩⟩
noncomputable def bX4_runEnd_42 (a0 : Nat) (p1 : Int32) (p2 : Int32) (x3 : Int32) (σ : Sg) : Option ((Int32 × Sg) ⊕ (Int32 × Sg)) := if p2 ≤ x3 then (some (Sum.inr (x3, σ))) else (if vin x3 2000 then ((fX4_isDigit (σ.1 a0 ((x3).toNatClampNeg)) σ).bind (fun q18 => let r16 := q18.1; let σ15 := q18.2; if r16 = 0 then (some (Sum.inr (x3, σ15))) else ((let x3_19 := x3 + (1 : Int32); some (Sum.inl (x3_19, σ15)))))) else none)
noncomputable def bX4_runEnd_13 (a0 : Nat) (p1 : Int32) (p2 : Int32) (x3 : Int32) (σ : Sg) : Option ((Int32 × Sg) ⊕ (Int32 × Sg)) := if p2 ≤ x3 then (some (Sum.inr (x3, σ))) else (if vin x3 2000 then ((fX4_isLetter (σ.1 a0 ((x3).toNatClampNeg)) σ).bind (fun q29 => let r27 := q29.1; let σ26 := q29.2; if r27 = 0 then (some (Sum.inr (x3, σ26))) else ((let x3_30 := x3 + (1 : Int32); some (Sum.inl (x3_30, σ26)))))) else none)
noncomputable def fX4_runEnd (a0 : Nat) (p1 : Int32) (p2 : Int32) (σ : Sg) : Option (Int32 × Sg) := (let x3_1 := (p1 + (1 : Int32)); if vin p1 2000 then ((fX4_isLetter (σ.1 a0 ((p1).toNatClampNeg)) σ).bind (fun q7 => let r5 := q7.1; let σ4 := q7.2; if r5 = 0 then ((fX4_isDigit (σ4.1 a0 ((p1).toNatClampNeg)) σ4).bind (fun q12 => let r10 := q12.1; let σ9 := q12.2; if r10 = 0 then (some (x3_1, σ9)) else ((lp (fun st => bX4_runEnd_42 a0 p1 p2 st.1 st.2) (x3_1, σ9)).bind (fun q23 => let y22 := q23.1; let σ21 := q23.2;  some (y22, σ21))))) else ((lp (fun st => bX4_runEnd_13 a0 p1 p2 st.1 st.2) (x3_1, σ4)).bind (fun q34 => let y33 := q34.1; let σ32 := q34.2;  some (y33, σ32))))) else none)
set_option maxRecDepth 100000 in
set_option maxHeartbeats 4000000 in
theorem mX4_runEnd {l : Launch} {G : Gm} {a0 : Nat} {p1 : Int32} {p2 : Int32} {σ : Sg} {r : Int32} {σ' : Sg} (hk_a0 : gK G a0 = kA 0 2000) (hf : fX4_runEnd a0 p1 p2 σ = some (r, σ')) : Mi l G yX4_runEnd cX4_runEnd 4 .int 1 20 [.ref (gB G + a0), .int p1, .int p2] σ r σ' := by
  refine of_W "RightKeys$Tokens" rfl (by decide) (Nat.le_of_ble_eq_true rfl) ?_
  intro p e s m args below meth c Q hQ C hr hlk hW ls hl
  have h00 := hW.1
  have hl : lv_has ls 4 [(0, .ref (gB G + a0)), (1, .int p1), (2, .int p2)] := hl
  delta fX4_runEnd at hf
  have L42 : ∀ (n : Nat) (x3 : Int32) (σ : Sg) (H : Heap) (locs : List Loc) (ls : Array Slot) (out : (Int32 × Sg)), iter (fun st => bX4_runEnd_42 a0 p1 p2 st.1 st.2) n (x3, σ) = some out → Ws G σ s.heap H locs → lv_has ls 4 [(0, .ref (gB G + a0)), (2, .int p2), (3, .int x3)] → (∀ (y3 : Int32) (σ : Sg) (H : Heap) (locs : List Loc) (ls : Array Slot), out = (y3, σ) → Ws G σ s.heap H locs → lv_has ls 4 [(3, .int y3)] → W p l e (rmOf 1 20) s m args below meth c H locs 0 0 Q (F0 m 62 ls [])) → W p l e (rmOf 1 20) s m args below meth c H locs 0 0 Q (F0 m 42 ls []) := by
    intro n
    induction n with
    | zero =>
      intro x3 σ H locs ls out hf
      exact (it_0 hf).elim
    | succ n ih =>
      intro x3 σ H locs ls out hf hW hl K42_62
      obtain ⟨x, hf, hx⟩ := it_s hf
      have hf : bX4_runEnd_42 a0 p1 p2 x3 σ = some x := hf
      delta bX4_runEnd_42 at hf
      refine lv_iload_n C.1.1 C.1.2.1 dX4_runEnd_42 rfl (lv_at hl 2 rfl) ?_
      refine lv_iload_n C.1.1 C.1.2.1 dX4_runEnd_43 rfl (lv_at hl 1 rfl) ?_
      refine lv_icmp_ge (tgt := 62) C.1.1 C.1.2.1 dX4_runEnd_44 (by decide) (fun h9 => ?_) (fun h9 => ?_)
      · replace hf := (if_pos h9).symm.trans hf
        cases hf
        cases hx
        exact K42_62 _ _ _ _ _ rfl hW (lv_sub hl [2] rfl)
      · replace hf := (if_neg h9).symm.trans hf
        refine lv_aload_n C.1.1 C.1.2.1 dX4_runEnd_47 rfl (lv_at hl 0 rfl) ?_
        refine lv_iload_n C.1.1 C.1.2.1 dX4_runEnd_48 rfl (lv_at hl 2 rfl) ?_
        obtain ⟨hv13, hf⟩ := gd hf
        refine wab C hW hk_a0 (vin_p hv13) dX4_runEnd_49 ?_
        obtain ⟨⟨r16, σ15⟩, hc14, hf⟩ := bd hf
        try dsimp only at hf
        refine cSi C hW (mX4_isDigit hc14) ksX4_isDigit w_493 ⟨(Nat.le_of_ble_eq_true rfl), (Nat.le_of_ble_eq_true rfl)⟩ ⟨Nat.zero_le _, Nat.zero_le _⟩ rfl hl.1 (rest := []) rfl (Nat.le_of_ble_eq_true rfl) dX4_runEnd_50 (fun H locs hn17 hW => ?_)
        refine lv_if_eq (tgt := 62) C.1.1 C.1.2.1 dX4_runEnd_53 (by decide) (fun h9 => ?_) (fun h9 => ?_)
        · replace hf := (if_pos h9).symm.trans hf
          cases hf
          cases hx
          exact K42_62 _ _ _ _ _ rfl hW (lv_sub hl [2] rfl)
        · replace hf := (if_neg h9).symm.trans hf
          refine lv_iinc (v := _) (lv' := [(3, .int _), (0, .ref _), (2, .int _)]) C.1.1 C.1.2.1 dX4_runEnd_56 hl (k := 2) rfl (ii (k := 1) (by decide)) (by decide) rfl (fun ls hl => ?_)
          refine lv_goto (tgt := 42) C.1.1 C.1.2.1 dX4_runEnd_59 (by decide) ?_
          cases hf
          exact ih _ _ _ _ _ _ hx hW (lv_sub hl [1, 2, 0] rfl) K42_62
  have L13 : ∀ (n : Nat) (x3 : Int32) (σ : Sg) (H : Heap) (locs : List Loc) (ls : Array Slot) (out : (Int32 × Sg)), iter (fun st => bX4_runEnd_13 a0 p1 p2 st.1 st.2) n (x3, σ) = some out → Ws G σ s.heap H locs → lv_has ls 4 [(0, .ref (gB G + a0)), (2, .int p2), (3, .int x3)] → (∀ (y3 : Int32) (σ : Sg) (H : Heap) (locs : List Loc) (ls : Array Slot), out = (y3, σ) → Ws G σ s.heap H locs → lv_has ls 4 [(3, .int y3)] → W p l e (rmOf 1 20) s m args below meth c H locs 0 0 Q (F0 m 62 ls [])) → W p l e (rmOf 1 20) s m args below meth c H locs 0 0 Q (F0 m 13 ls []) := by
    intro n
    induction n with
    | zero =>
      intro x3 σ H locs ls out hf
      exact (it_0 hf).elim
    | succ n ih =>
      intro x3 σ H locs ls out hf hW hl K13_62
      obtain ⟨x, hf, hx⟩ := it_s hf
      have hf : bX4_runEnd_13 a0 p1 p2 x3 σ = some x := hf
      delta bX4_runEnd_13 at hf
      refine lv_iload_n C.1.1 C.1.2.1 dX4_runEnd_13 rfl (lv_at hl 2 rfl) ?_
      refine lv_iload_n C.1.1 C.1.2.1 dX4_runEnd_14 rfl (lv_at hl 1 rfl) ?_
      refine lv_icmp_ge (tgt := 62) C.1.1 C.1.2.1 dX4_runEnd_15 (by decide) (fun h9 => ?_) (fun h9 => ?_)
      · replace hf := (if_pos h9).symm.trans hf
        cases hf
        cases hx
        exact K13_62 _ _ _ _ _ rfl hW (lv_sub hl [2] rfl)
      · replace hf := (if_neg h9).symm.trans hf
        refine lv_aload_n C.1.1 C.1.2.1 dX4_runEnd_18 rfl (lv_at hl 0 rfl) ?_
        refine lv_iload_n C.1.1 C.1.2.1 dX4_runEnd_19 rfl (lv_at hl 2 rfl) ?_
        obtain ⟨hv24, hf⟩ := gd hf
        refine wab C hW hk_a0 (vin_p hv24) dX4_runEnd_20 ?_
        obtain ⟨⟨r27, σ26⟩, hc25, hf⟩ := bd hf
        try dsimp only at hf
        refine cSi C hW (mX4_isLetter hc25) ksX4_isLetter w_490 ⟨(Nat.le_of_ble_eq_true rfl), (Nat.le_of_ble_eq_true rfl)⟩ ⟨Nat.zero_le _, Nat.zero_le _⟩ rfl hl.1 (rest := []) rfl (Nat.le_of_ble_eq_true rfl) dX4_runEnd_21 (fun H locs hn28 hW => ?_)
        refine lv_if_eq (tgt := 62) C.1.1 C.1.2.1 dX4_runEnd_24 (by decide) (fun h9 => ?_) (fun h9 => ?_)
        · replace hf := (if_pos h9).symm.trans hf
          cases hf
          cases hx
          exact K13_62 _ _ _ _ _ rfl hW (lv_sub hl [2] rfl)
        · replace hf := (if_neg h9).symm.trans hf
          refine lv_iinc (v := _) (lv' := [(3, .int _), (0, .ref _), (2, .int _)]) C.1.1 C.1.2.1 dX4_runEnd_27 hl (k := 2) rfl (ii (k := 1) (by decide)) (by decide) rfl (fun ls hl => ?_)
          refine lv_goto (tgt := 13) C.1.1 C.1.2.1 dX4_runEnd_30 (by decide) ?_
          cases hf
          exact ih _ _ _ _ _ _ hx hW (lv_sub hl [1, 2, 0] rfl) K13_62
  refine lv_iload_n C.1.1 C.1.2.1 dX4_runEnd_0 rfl (lv_at hl 1 rfl) ?_
  refine lv_iconst (v := 1) C.1.1 C.1.2.1 dX4_runEnd_1 (by decide) ?_
  refine lv_iadd C.1.1 C.1.2.1 dX4_runEnd_2 ?_
  refine lv_istore_n (lv' := [(3, .int _), (0, .ref _), (1, .int _), (2, .int _)]) C.1.1 C.1.2.1 dX4_runEnd_3 rfl hl (by decide) rfl (fun ls hl => ?_)
  refine lv_aload_n C.1.1 C.1.2.1 dX4_runEnd_4 rfl (lv_at hl 1 rfl) ?_
  refine lv_iload_n C.1.1 C.1.2.1 dX4_runEnd_5 rfl (lv_at hl 2 rfl) ?_
  obtain ⟨hv2, hf⟩ := gd hf
  refine wab C hW hk_a0 (vin_p hv2) dX4_runEnd_6 ?_
  obtain ⟨⟨r5, σ4⟩, hc3, hf⟩ := bd hf
  try dsimp only at hf
  refine cSi C hW (mX4_isLetter hc3) ksX4_isLetter w_490 ⟨(Nat.le_of_ble_eq_true rfl), (Nat.le_of_ble_eq_true rfl)⟩ ⟨Nat.zero_le _, Nat.zero_le _⟩ rfl hl.1 (rest := []) rfl (Nat.le_of_ble_eq_true rfl) dX4_runEnd_7 (fun H locs hn6 hW => ?_)
  refine lv_if_eq (tgt := 33) C.1.1 C.1.2.1 dX4_runEnd_10 (by decide) (fun h9 => ?_) (fun h9 => ?_)
  · replace hf := (if_pos h9).symm.trans hf
    refine lv_aload_n C.1.1 C.1.2.1 dX4_runEnd_33 rfl (lv_at hl 1 rfl) ?_
    refine lv_iload_n C.1.1 C.1.2.1 dX4_runEnd_34 rfl (lv_at hl 2 rfl) ?_
    refine wab C hW hk_a0 (vin_p hv2) dX4_runEnd_35 ?_
    obtain ⟨⟨r10, σ9⟩, hc8, hf⟩ := bd hf
    try dsimp only at hf
    refine cSi C hW (mX4_isDigit hc8) ksX4_isDigit w_493 ⟨(Nat.le_of_ble_eq_true rfl), (Nat.le_of_ble_eq_true rfl)⟩ ⟨Nat.zero_le _, Nat.zero_le _⟩ rfl hl.1 (rest := []) rfl (Nat.le_of_ble_eq_true rfl) dX4_runEnd_36 (fun H locs hn11 hW => ?_)
    refine lv_if_eq (tgt := 62) C.1.1 C.1.2.1 dX4_runEnd_39 (by decide) (fun h9 => ?_) (fun h9 => ?_)
    · replace hf := (if_pos h9).symm.trans hf
      refine lv_iload_n C.1.1 C.1.2.1 dX4_runEnd_62 rfl (lv_at hl 0 rfl) ?_
      exact ri hQ C hr hlk hW hf (rok_i _) dX4_runEnd_63
    · replace hf := (if_neg h9).symm.trans hf
      obtain ⟨o20, ho, hf⟩ := bd hf
      obtain ⟨n, ho⟩ := lp_it ho
      refine L42 n _ _ _ _ _ o20 ho hW (lv_sub hl [1, 3, 0] rfl) ?_
      intro y22 σ21 H locs ls e9 hW hl
      subst e9
      try dsimp only at hf
      refine lv_iload_n C.1.1 C.1.2.1 dX4_runEnd_62 rfl (lv_at hl 0 rfl) ?_
      exact ri hQ C hr hlk hW hf (rok_i _) dX4_runEnd_63
  · replace hf := (if_neg h9).symm.trans hf
    obtain ⟨o31, ho, hf⟩ := bd hf
    obtain ⟨n, ho⟩ := lp_it ho
    refine L13 n _ _ _ _ _ o31 ho hW (lv_sub hl [1, 3, 0] rfl) ?_
    intro y33 σ32 H locs ls e9 hW hl
    subst e9
    try dsimp only at hf
    refine lv_iload_n C.1.1 C.1.2.1 dX4_runEnd_62 rfl (lv_at hl 0 rfl) ?_
    exact ri hQ C hr hlk hW hf (rok_i _) dX4_runEnd_63
theorem ksX4_valueOf : KS yX4_valueOf cX4_valueOf 8 (some .long) 3 := ⟨⟨w_556, w_113, w_557⟩, ⟨by decide, by decide, by decide +kernel⟩⟩
noncomputable def jX4_valueOf_68 (a0 : Nat) (p1 : Int32) (p2 : Int32) (x5 : Int32) (x6 : Int32) (x7 : Int32) (s0 : Int64) (σ : Sg) : Option ((Int64 × Int32 × Sg) ⊕ (Int64 × Sg)) := (let x7_9 := x7 + (1 : Int32); some (Sum.inl (s0, x7_9, σ)))
noncomputable def bX4_valueOf_23 (a0 : Nat) (p1 : Int32) (p2 : Int32) (x5 : Int32) (x6 : Int32) (x3 : Int64) (x7 : Int32) (σ : Sg) : Option ((Int64 × Int32 × Sg) ⊕ (Int64 × Sg)) := if x6 ≤ x7 then (some (Sum.inr (x3, σ))) else (if x5 = 0 then (if vin x7 2000 then (jX4_valueOf_68 a0 p1 p2 x5 x6 x7 ((x3 * (10 : Int64)) + ((((σ.1 a0 ((x7).toNatClampNeg)) - (48 : Int32))).toInt64)) σ) else none) else (if vin x7 2000 then (jX4_valueOf_68 a0 p1 p2 x5 x6 x7 ((x3 * (27 : Int64)) + (((((σ.1 a0 ((x7).toNatClampNeg)) - (97 : Int32)) + (1 : Int32))).toInt64)) σ) else none))
noncomputable def fX4_valueOf (a0 : Nat) (p1 : Int32) (p2 : Int32) (σ : Sg) : Option (Int64 × Sg) := if vin p1 2000 then ((fX4_isLetter (σ.1 a0 ((p1).toNatClampNeg)) σ).bind (fun q6 => let r4 := q6.1; let σ3 := q6.2; (let x6_7 := (imin p2 (p1 + (8 : Int32))); (lp (fun st => bX4_valueOf_23 a0 p1 p2 r4 x6_7 st.1 st.2.1 st.2.2) ((0 : Int64), p1, σ3)).bind (fun q14 => let y13 := q14.1; let σ12 := q14.2;  some (y13, σ12))))) else none
set_option maxRecDepth 100000 in
set_option maxHeartbeats 4000000 in
theorem mX4_valueOf {l : Launch} {G : Gm} {a0 : Nat} {p1 : Int32} {p2 : Int32} {σ : Sg} {r : Int64} {σ' : Sg} (hk_a0 : gK G a0 = kA 0 2000) (hf : fX4_valueOf a0 p1 p2 σ = some (r, σ')) : Ml l G yX4_valueOf cX4_valueOf 8 1 40 [.ref (gB G + a0), .int p1, .int p2] σ r σ' := by
  refine of_W "RightKeys$Tokens" rfl (by decide) (Nat.le_of_ble_eq_true rfl) ?_
  intro p e s m args below meth c Q hQ C hr hlk hW ls hl
  have h00 := hW.1
  have hl : lv_has ls 8 [(0, .ref (gB G + a0)), (1, .int p1), (2, .int p2)] := hl
  delta fX4_valueOf at hf
  have L23 : ∀ (x5 : Int32) (x6 : Int32) (n : Nat) (x3 : Int64) (x7 : Int32) (σ : Sg) (H : Heap) (locs : List Loc) (ls : Array Slot) (out : (Int64 × Sg)), iter (fun st => bX4_valueOf_23 a0 p1 p2 x5 x6 st.1 st.2.1 st.2.2) n (x3, x7, σ) = some out → Ws G σ s.heap H locs → lv_has ls 8 [(0, .ref (gB G + a0)), (3, .long x3), (5, .int x5), (6, .int x6), (7, .int x7)] → (∀ (y3 : Int64) (σ : Sg) (H : Heap) (locs : List Loc) (ls : Array Slot), out = (y3, σ) → Ws G σ s.heap H locs → lv_has ls 8 [(3, .long y3)] → W p l e (rmOf 1 40) s m args below meth c H locs 0 0 Q (F0 m 75 ls [])) → W p l e (rmOf 1 40) s m args below meth c H locs 0 0 Q (F0 m 23 ls []) := by
    intro x5 x6 n
    induction n with
    | zero =>
      intro x3 x7 σ H locs ls out hf
      exact (it_0 hf).elim
    | succ n ih =>
      intro x3 x7 σ H locs ls out hf hW hl K23_75
      obtain ⟨x, hf, hx⟩ := it_s hf
      have hf : bX4_valueOf_23 a0 p1 p2 x5 x6 x3 x7 σ = some x := hf
      delta bX4_valueOf_23 at hf
      have J68 : ∀ (x7 : Int32) (s0 : Int64) (σ : Sg) (H : Heap) (locs : List Loc) (ls : Array Slot), jX4_valueOf_68 a0 p1 p2 x5 x6 x7 s0 σ = some x → Ws G σ s.heap H locs → lv_has ls 8 [(0, .ref (gB G + a0)), (5, .int x5), (6, .int x6), (7, .int x7)] → W p l e (rmOf 1 40) s m args below meth c H locs 0 0 Q (F0 m 68 ls [.long s0]) := by
        intro x7 s0 σ H locs ls hf hW hl
        delta jX4_valueOf_68 at hf
        refine lv_lstore_n (lv' := [(3, .long _), (0, .ref _), (5, .int _), (6, .int _), (7, .int _)]) C.1.1 C.1.2.1 dX4_valueOf_68 rfl hl (by decide) rfl (fun ls hl => ?_)
        refine lv_iinc (v := _) (lv' := [(7, .int _), (3, .long _), (0, .ref _), (5, .int _), (6, .int _)]) C.1.1 C.1.2.1 dX4_valueOf_69 hl (k := 4) rfl (ii (k := 1) (by decide)) (by decide) rfl (fun ls hl => ?_)
        refine lv_goto (tgt := 23) C.1.1 C.1.2.1 dX4_valueOf_72 (by decide) ?_
        cases hf
        exact ih _ _ _ _ _ _ _ hx hW (lv_sub hl [2, 1, 3, 4, 0] rfl) K23_75
      refine lv_iload C.1.1 C.1.2.1 dX4_valueOf_23 (lv_at hl 4 rfl) ?_
      refine lv_iload C.1.1 C.1.2.1 dX4_valueOf_25 (lv_at hl 3 rfl) ?_
      refine lv_icmp_ge (tgt := 75) C.1.1 C.1.2.1 dX4_valueOf_27 (by decide) (fun h9 => ?_) (fun h9 => ?_)
      · replace hf := (if_pos h9).symm.trans hf
        cases hf
        cases hx
        exact K23_75 _ _ _ _ _ rfl hW (lv_sub hl [1] rfl)
      · replace hf := (if_neg h9).symm.trans hf
        refine lv_iload C.1.1 C.1.2.1 dX4_valueOf_30 (lv_at hl 2 rfl) ?_
        refine lv_if_eq (tgt := 54) C.1.1 C.1.2.1 dX4_valueOf_32 (by decide) (fun h9 => ?_) (fun h9 => ?_)
        · replace hf := (if_pos h9).symm.trans hf
          refine lv_lload_n C.1.1 C.1.2.1 dX4_valueOf_54 rfl (lv_at hl 1 rfl) ?_
          refine lv_ldc2 (v := 10) C.1.1 C.1.2.1 C.1.2.2.2.1 (C.w w_562) dX4_valueOf_55 ?_
          refine lv_lmul C.1.1 C.1.2.1 dX4_valueOf_58 ?_
          refine lv_aload_n C.1.1 C.1.2.1 dX4_valueOf_59 rfl (lv_at hl 0 rfl) ?_
          refine lv_iload C.1.1 C.1.2.1 dX4_valueOf_60 (lv_at hl 4 rfl) ?_
          obtain ⟨hv8, hf⟩ := gd hf
          refine wab C hW hk_a0 (vin_p hv8) dX4_valueOf_62 ?_
          refine lv_bipush (v := 48) C.1.1 C.1.2.1 dX4_valueOf_63 (by decide) ?_
          refine lv_isub C.1.1 C.1.2.1 dX4_valueOf_65 ?_
          refine lv_i2l (v := Int32.toInt64 _) C.1.1 C.1.2.1 dX4_valueOf_66 rfl ?_
          refine lv_ladd C.1.1 C.1.2.1 dX4_valueOf_67 ?_
          exact J68 _ _ _ _ _ _ hf hW (lv_sub hl [0, 2, 3, 4] rfl)
        · replace hf := (if_neg h9).symm.trans hf
          refine lv_lload_n C.1.1 C.1.2.1 dX4_valueOf_35 rfl (lv_at hl 1 rfl) ?_
          refine lv_ldc2 (v := 27) C.1.1 C.1.2.1 C.1.2.2.2.1 (C.w w_561) dX4_valueOf_36 ?_
          refine lv_lmul C.1.1 C.1.2.1 dX4_valueOf_39 ?_
          refine lv_aload_n C.1.1 C.1.2.1 dX4_valueOf_40 rfl (lv_at hl 0 rfl) ?_
          refine lv_iload C.1.1 C.1.2.1 dX4_valueOf_41 (lv_at hl 4 rfl) ?_
          obtain ⟨hv10, hf⟩ := gd hf
          refine wab C hW hk_a0 (vin_p hv10) dX4_valueOf_43 ?_
          refine lv_bipush (v := 97) C.1.1 C.1.2.1 dX4_valueOf_44 (by decide) ?_
          refine lv_isub C.1.1 C.1.2.1 dX4_valueOf_46 ?_
          refine lv_iconst (v := 1) C.1.1 C.1.2.1 dX4_valueOf_47 (by decide) ?_
          refine lv_iadd C.1.1 C.1.2.1 dX4_valueOf_48 ?_
          refine lv_i2l (v := Int32.toInt64 _) C.1.1 C.1.2.1 dX4_valueOf_49 rfl ?_
          refine lv_ladd C.1.1 C.1.2.1 dX4_valueOf_50 ?_
          refine lv_goto (tgt := 68) C.1.1 C.1.2.1 dX4_valueOf_51 (by decide) ?_
          exact J68 _ _ _ _ _ _ hf hW (lv_sub hl [0, 2, 3, 4] rfl)
  refine lv_lconst (v := 0) C.1.1 C.1.2.1 dX4_valueOf_0 (by decide) ?_
  refine lv_lstore_n (lv' := [(3, .long _), (0, .ref _), (1, .int _), (2, .int _)]) C.1.1 C.1.2.1 dX4_valueOf_1 rfl hl (by decide) rfl (fun ls hl => ?_)
  refine lv_aload_n C.1.1 C.1.2.1 dX4_valueOf_2 rfl (lv_at hl 1 rfl) ?_
  refine lv_iload_n C.1.1 C.1.2.1 dX4_valueOf_3 rfl (lv_at hl 2 rfl) ?_
  obtain ⟨hv1, hf⟩ := gd hf
  refine wab C hW hk_a0 (vin_p hv1) dX4_valueOf_4 ?_
  obtain ⟨⟨r4, σ3⟩, hc2, hf⟩ := bd hf
  try dsimp only at hf
  refine cSi C hW (mX4_isLetter hc2) ksX4_isLetter w_490 ⟨(Nat.le_of_ble_eq_true rfl), (Nat.le_of_ble_eq_true rfl)⟩ ⟨Nat.zero_le _, Nat.zero_le _⟩ rfl hl.1 (rest := []) rfl (Nat.le_of_ble_eq_true rfl) dX4_valueOf_5 (fun H locs hn5 hW => ?_)
  refine lv_istore (lv' := [(5, .int _), (3, .long _), (0, .ref _), (1, .int _), (2, .int _)]) C.1.1 C.1.2.1 dX4_valueOf_8 hl (by decide) rfl (fun ls hl => ?_)
  refine lv_iload_n C.1.1 C.1.2.1 dX4_valueOf_10 rfl (lv_at hl 4 rfl) ?_
  refine lv_iload_n C.1.1 C.1.2.1 dX4_valueOf_11 rfl (lv_at hl 3 rfl) ?_
  refine lv_bipush (v := 8) C.1.1 C.1.2.1 dX4_valueOf_12 (by decide) ?_
  refine lv_iadd C.1.1 C.1.2.1 dX4_valueOf_14 ?_
  refine cMin C w_558 w_559 w_121 w_560 hl.1 (Nat.le_of_ble_eq_true rfl) (Nat.le_of_ble_eq_true rfl) ⟨Nat.zero_le _, Nat.zero_le _⟩ dX4_valueOf_15 ?_
  refine lv_istore (lv' := [(6, .int _), (5, .int _), (3, .long _), (0, .ref _), (1, .int _), (2, .int _)]) C.1.1 C.1.2.1 dX4_valueOf_18 hl (by decide) rfl (fun ls hl => ?_)
  refine lv_iload_n C.1.1 C.1.2.1 dX4_valueOf_20 rfl (lv_at hl 4 rfl) ?_
  refine lv_istore (lv' := [(7, .int _), (6, .int _), (5, .int _), (3, .long _), (0, .ref _), (1, .int _), (2, .int _)]) C.1.1 C.1.2.1 dX4_valueOf_21 hl (by decide) rfl (fun ls hl => ?_)
  obtain ⟨o11, ho, hf⟩ := bd hf
  obtain ⟨n, ho⟩ := lp_it ho
  refine L23 _ _ n _ _ _ _ _ _ o11 ho hW (lv_sub hl [4, 3, 2, 1, 0] rfl) ?_
  intro y13 σ12 H locs ls e9 hW hl
  subst e9
  try dsimp only at hf
  refine lv_lload_n C.1.1 C.1.2.1 dX4_valueOf_75 rfl (lv_at hl 0 rfl) ?_
  exact rl hQ C hr hlk hW hf dX4_valueOf_76
theorem kvX4_scan : KV 4 "RightKeys$Tokens" yX4_scan cX4_scan 5 none 2 := ⟨⟨w_481, w_482, w_113, w_483⟩, ⟨rfl, by decide, by decide, by decide +kernel⟩, by decide, rfl⟩
noncomputable def jX4_scan_86 (a0 : Nat) (a1 : Nat) (p2 : Int32) (s0 : Int32) (σ : Sg) : Option ((Int32 × Sg) ⊕ (Sg)) := some (Sum.inl (s0, σ))
noncomputable def bX4_scan_7 (a0 : Nat) (a1 : Nat) (p2 : Int32) (x3 : Int32) (σ : Sg) : Option ((Int32 × Sg) ⊕ (Sg)) := if p2 ≤ x3 then (some (Sum.inr σ)) else (if (400 : Int32) < (σ.1 a0 3) then (some (Sum.inr σ)) else (if vin x3 2000 then ((fX4_isBlank (σ.1 a1 ((x3).toNatClampNeg)) σ).bind (fun q7 => let r5 := q7.1; let σ4 := q7.2; if r5 = 0 then ((fX4_runEnd a1 x3 p2 σ4).bind (fun q12 => let r10 := q12.1; let σ9 := q12.2; (fX4_kindOf a1 x3 r10 σ9).bind (fun q17 => let r15 := q17.1; let σ14 := q17.2; (fX4_valueOf a1 x3 r10 σ14).bind (fun q22 => let r20 := q22.1; let σ19 := q22.2; (fX4_put a0 r15 x3 r20 σ19).bind (fun σ24 => if vin ((σ24.1 a0 3) - (1 : Int32)) 402 then (if (σ24.1 (a0 + 1) ((((σ24.1 a0 3) - (1 : Int32))).toNatClampNeg)) = (32 : Int32) then (jX4_scan_86 a0 a1 p2 p2 σ24) else (jX4_scan_86 a0 a1 p2 r10 σ24)) else none))))) else ((let x3_30 := x3 + (1 : Int32); some (Sum.inl (x3_30, σ4)))))) else none))
noncomputable def jX4_scan_113 (a0 : Nat) (a1 : Nat) (p2 : Int32) (σ : Sg) : Option (Sg) := (fX4_put a0 (31 : Int32) p2 (0 : Int64) σ).bind (fun σ34 => some σ34)
noncomputable def fX4_scan (a0 : Nat) (a1 : Nat) (p2 : Int32) (σ : Sg) : Option (Sg) := (let σ1 := wI σ a0 3 (0 : Int32); (lp (fun st => bX4_scan_7 a0 a1 p2 st.1 st.2) ((0 : Int32), σ1)).bind (fun σ32 => if (σ32.1 a0 3) = 0 then (jX4_scan_113 a0 a1 p2 σ32) else (if vin ((σ32.1 a0 3) - (1 : Int32)) 402 then (if (σ32.1 (a0 + 1) ((((σ32.1 a0 3) - (1 : Int32))).toNatClampNeg)) = (32 : Int32) then (some σ32) else (jX4_scan_113 a0 a1 p2 σ32)) else none)))
set_option maxRecDepth 100000 in
set_option maxHeartbeats 4000000 in
theorem mX4_scan {l : Launch} {G : Gm} {a0 : Nat} {a1 : Nat} {p2 : Int32} {σ : Sg} {σ' : Sg} (hk_a0 : gK G a0 = 5) (hk_a1 : gK G a1 = kA 0 2000) (hf : fX4_scan a0 a1 p2 σ = some σ') : Mv l G yX4_scan cX4_scan 5 7 156 [.ref (gB G + a0), .ref (gB G + a1), .int p2] σ σ' := by
  refine of_W "RightKeys$Tokens" rfl (by decide) (Nat.le_of_ble_eq_true rfl) ?_
  intro p e s m args below meth c Q hQ C hr hlk hW ls hl
  have h00 := hW.1
  have hl : lv_has ls 5 [(0, .ref (gB G + a0)), (1, .ref (gB G + a1)), (2, .int p2)] := hl
  delta fX4_scan at hf
  have L7 : ∀ (n : Nat) (x3 : Int32) (σ : Sg) (H : Heap) (locs : List Loc) (ls : Array Slot) (out : (Sg)), iter (fun st => bX4_scan_7 a0 a1 p2 st.1 st.2) n (x3, σ) = some out → Ws G σ s.heap H locs → lv_has ls 5 [(0, .ref (gB G + a0)), (1, .ref (gB G + a1)), (2, .int p2), (3, .int x3)] → (∀ (σ : Sg) (H : Heap) (locs : List Loc) (ls : Array Slot), out = σ → Ws G σ s.heap H locs → lv_has ls 5 [(0, .ref (gB G + a0)), (2, .int p2)] → W p l e (rmOf 7 156) s m args below meth c H locs 0 0 Q (F0 m 90 ls [])) → W p l e (rmOf 7 156) s m args below meth c H locs 0 0 Q (F0 m 7 ls []) := by
    intro n
    induction n with
    | zero =>
      intro x3 σ H locs ls out hf
      exact (it_0 hf).elim
    | succ n ih =>
      intro x3 σ H locs ls out hf hW hl K7_90
      obtain ⟨x, hf, hx⟩ := it_s hf
      have hf : bX4_scan_7 a0 a1 p2 x3 σ = some x := hf
      delta bX4_scan_7 at hf
      have J86 : ∀ (s0 : Int32) (σ : Sg) (H : Heap) (locs : List Loc) (ls : Array Slot), jX4_scan_86 a0 a1 p2 s0 σ = some x → Ws G σ s.heap H locs → lv_has ls 5 [(0, .ref (gB G + a0)), (1, .ref (gB G + a1)), (2, .int p2)] → W p l e (rmOf 7 156) s m args below meth c H locs 0 0 Q (F0 m 86 ls [.int s0]) := by
        intro s0 σ H locs ls hf hW hl
        delta jX4_scan_86 at hf
        refine lv_istore_n (lv' := [(3, .int _), (0, .ref _), (1, .ref _), (2, .int _)]) C.1.1 C.1.2.1 dX4_scan_86 rfl hl (by decide) rfl (fun ls hl => ?_)
        refine lv_goto (tgt := 7) C.1.1 C.1.2.1 dX4_scan_87 (by decide) ?_
        cases hf
        exact ih _ _ _ _ _ _ hx hW (lv_sub hl [1, 2, 3, 0] rfl) K7_90
      refine lv_iload_n C.1.1 C.1.2.1 dX4_scan_7 rfl (lv_at hl 3 rfl) ?_
      refine lv_iload_n C.1.1 C.1.2.1 dX4_scan_8 rfl (lv_at hl 2 rfl) ?_
      refine lv_icmp_ge (tgt := 90) C.1.1 C.1.2.1 dX4_scan_9 (by decide) (fun h9 => ?_) (fun h9 => ?_)
      · replace hf := (if_pos h9).symm.trans hf
        cases hf
        cases hx
        exact K7_90 _ _ _ _ rfl hW (lv_sub hl [0, 2] rfl)
      · replace hf := (if_neg h9).symm.trans hf
        refine lv_aload_n C.1.1 C.1.2.1 dX4_scan_12 rfl (lv_at hl 0 rfl) ?_
        refine gf4_3 C hW hk_a0 w_257 dX4_scan_13 ?_
        refine lv_sipush (v := 400) C.1.1 C.1.2.1 dX4_scan_16 (by decide) ?_
        refine lv_icmp_gt (tgt := 90) C.1.1 C.1.2.1 dX4_scan_19 (by decide) (fun h9 => ?_) (fun h9 => ?_)
        · replace hf := (if_pos h9).symm.trans hf
          cases hf
          cases hx
          exact K7_90 _ _ _ _ rfl hW (lv_sub hl [0, 2] rfl)
        · replace hf := (if_neg h9).symm.trans hf
          refine lv_aload_n C.1.1 C.1.2.1 dX4_scan_22 rfl (lv_at hl 1 rfl) ?_
          refine lv_iload_n C.1.1 C.1.2.1 dX4_scan_23 rfl (lv_at hl 3 rfl) ?_
          obtain ⟨hv2, hf⟩ := gd hf
          refine wab C hW hk_a1 (vin_p hv2) dX4_scan_24 ?_
          obtain ⟨⟨r5, σ4⟩, hc3, hf⟩ := bd hf
          try dsimp only at hf
          refine cSi C hW (mX4_isBlank hc3) ksX4_isBlank w_484 ⟨(Nat.le_of_ble_eq_true rfl), (Nat.le_of_ble_eq_true rfl)⟩ ⟨Nat.zero_le _, Nat.zero_le _⟩ rfl hl.1 (rest := []) rfl (Nat.le_of_ble_eq_true rfl) dX4_scan_25 (fun H locs hn6 hW => ?_)
          refine lv_if_eq (tgt := 37) C.1.1 C.1.2.1 dX4_scan_28 (by decide) (fun h9 => ?_) (fun h9 => ?_)
          · replace hf := (if_pos h9).symm.trans hf
            refine lv_aload_n C.1.1 C.1.2.1 dX4_scan_37 rfl (lv_at hl 1 rfl) ?_
            refine lv_iload_n C.1.1 C.1.2.1 dX4_scan_38 rfl (lv_at hl 3 rfl) ?_
            refine lv_iload_n C.1.1 C.1.2.1 dX4_scan_39 rfl (lv_at hl 2 rfl) ?_
            obtain ⟨⟨r10, σ9⟩, hc8, hf⟩ := bd hf
            try dsimp only at hf
            refine cSi C hW (mX4_runEnd hk_a1 hc8) ksX4_runEnd w_487 ⟨(Nat.le_of_ble_eq_true rfl), (Nat.le_of_ble_eq_true rfl)⟩ ⟨Nat.zero_le _, Nat.zero_le _⟩ rfl hl.1 (rest := []) rfl (Nat.le_of_ble_eq_true rfl) dX4_scan_40 (fun H locs hn11 hW => ?_)
            refine lv_istore (lv' := [(4, .int _), (0, .ref _), (1, .ref _), (2, .int _), (3, .int _)]) C.1.1 C.1.2.1 dX4_scan_43 hl (by decide) rfl (fun ls hl => ?_)
            refine lv_aload_n C.1.1 C.1.2.1 dX4_scan_45 rfl (lv_at hl 1 rfl) ?_
            refine lv_aload_n C.1.1 C.1.2.1 dX4_scan_46 rfl (lv_at hl 2 rfl) ?_
            refine lv_iload_n C.1.1 C.1.2.1 dX4_scan_47 rfl (lv_at hl 4 rfl) ?_
            refine lv_iload C.1.1 C.1.2.1 dX4_scan_48 (lv_at hl 0 rfl) ?_
            obtain ⟨⟨r15, σ14⟩, hc13, hf⟩ := bd hf
            try dsimp only at hf
            refine cSi C hW (mX4_kindOf hk_a1 hc13) ksX4_kindOf w_496 ⟨(Nat.le_of_ble_eq_true rfl), (Nat.le_of_ble_eq_true rfl)⟩ ⟨Nat.zero_le _, Nat.zero_le _⟩ rfl hl.1 (rest := [.ref _]) rfl (Nat.le_of_ble_eq_true rfl) dX4_scan_50 (fun H locs hn16 hW => ?_)
            refine lv_iload_n C.1.1 C.1.2.1 dX4_scan_53 rfl (lv_at hl 4 rfl) ?_
            refine lv_aload_n C.1.1 C.1.2.1 dX4_scan_54 rfl (lv_at hl 2 rfl) ?_
            refine lv_iload_n C.1.1 C.1.2.1 dX4_scan_55 rfl (lv_at hl 4 rfl) ?_
            refine lv_iload C.1.1 C.1.2.1 dX4_scan_56 (lv_at hl 0 rfl) ?_
            obtain ⟨⟨r20, σ19⟩, hc18, hf⟩ := bd hf
            try dsimp only at hf
            refine cSl C hW (mX4_valueOf hk_a1 hc18) ksX4_valueOf w_555 ⟨(Nat.le_of_ble_eq_true rfl), (Nat.le_of_ble_eq_true rfl)⟩ ⟨Nat.zero_le _, Nat.zero_le _⟩ rfl hl.1 (rest := [.int _, .int _, .ref _]) rfl (Nat.le_of_ble_eq_true rfl) dX4_scan_58 (fun H locs hW => ?_)
            obtain ⟨σ24, hc23, hf⟩ := bd hf
            try dsimp only at hf
            refine cVv C hW (mX4_put hk_a0 hc23) hk_a0 kvX4_put w_563 ⟨(Nat.le_of_ble_eq_true rfl), (Nat.le_of_ble_eq_true rfl)⟩ ⟨Nat.zero_le _, Nat.zero_le _⟩ rfl hl.1 (rest := []) rfl (Nat.le_of_ble_eq_true rfl) dX4_scan_61 (fun H locs hW => ?_)
            refine lv_aload_n C.1.1 C.1.2.1 dX4_scan_64 rfl (lv_at hl 1 rfl) ?_
            have hk28 := sh4_0 hW hk_a0
            refine gf4_0 C hW hk_a0 w_251 dX4_scan_65 ?_
            refine lv_aload_n C.1.1 C.1.2.1 dX4_scan_68 rfl (lv_at hl 1 rfl) ?_
            refine gf4_3 C hW hk_a0 w_257 dX4_scan_69 ?_
            refine lv_iconst (v := 1) C.1.1 C.1.2.1 dX4_scan_72 (by decide) ?_
            refine lv_isub C.1.1 C.1.2.1 dX4_scan_73 ?_
            obtain ⟨hv29, hf⟩ := gd hf
            refine wai C hW hk28 (vin_p hv29) dX4_scan_74 ?_
            refine lv_bipush (v := 32) C.1.1 C.1.2.1 dX4_scan_75 (by decide) ?_
            refine lv_icmp_ne (tgt := 84) C.1.1 C.1.2.1 dX4_scan_77 (by decide) (fun h9 => ?_) (fun h9 => ?_)
            · replace hf := (if_neg h9).symm.trans hf
              refine lv_iload C.1.1 C.1.2.1 dX4_scan_84 (lv_at hl 0 rfl) ?_
              exact J86 _ _ _ _ _ hf hW (lv_sub hl [1, 2, 3] rfl)
            · replace hf := (if_pos h9).symm.trans hf
              refine lv_iload_n C.1.1 C.1.2.1 dX4_scan_80 rfl (lv_at hl 3 rfl) ?_
              refine lv_goto (tgt := 86) C.1.1 C.1.2.1 dX4_scan_81 (by decide) ?_
              exact J86 _ _ _ _ _ hf hW (lv_sub hl [1, 2, 3] rfl)
          · replace hf := (if_neg h9).symm.trans hf
            refine lv_iinc (v := _) (lv' := [(3, .int _), (0, .ref _), (1, .ref _), (2, .int _)]) C.1.1 C.1.2.1 dX4_scan_31 hl (k := 3) rfl (ii (k := 1) (by decide)) (by decide) rfl (fun ls hl => ?_)
            refine lv_goto (tgt := 7) C.1.1 C.1.2.1 dX4_scan_34 (by decide) ?_
            cases hf
            exact ih _ _ _ _ _ _ hx hW (lv_sub hl [1, 2, 3, 0] rfl) K7_90
  have J113 : ∀ (σ : Sg) (H : Heap) (locs : List Loc) (ls : Array Slot), jX4_scan_113 a0 a1 p2 σ = some σ' → Ws G σ s.heap H locs → lv_has ls 5 [(0, .ref (gB G + a0)), (2, .int p2)] → W p l e (rmOf 7 156) s m args below meth c H locs 0 0 Q (F0 m 113 ls []) := by
    intro σ H locs ls hf hW hl
    delta jX4_scan_113 at hf
    refine lv_aload_n C.1.1 C.1.2.1 dX4_scan_113 rfl (lv_at hl 0 rfl) ?_
    refine lv_bipush (v := 31) C.1.1 C.1.2.1 dX4_scan_114 (by decide) ?_
    refine lv_iload_n C.1.1 C.1.2.1 dX4_scan_116 rfl (lv_at hl 1 rfl) ?_
    refine lv_lconst (v := 0) C.1.1 C.1.2.1 dX4_scan_117 (by decide) ?_
    obtain ⟨σ34, hc33, hf⟩ := bd hf
    try dsimp only at hf
    refine cVv C hW (mX4_put hk_a0 hc33) hk_a0 kvX4_put w_563 ⟨(Nat.le_of_ble_eq_true rfl), (Nat.le_of_ble_eq_true rfl)⟩ ⟨Nat.zero_le _, Nat.zero_le _⟩ rfl hl.1 (rest := []) rfl (Nat.le_of_ble_eq_true rfl) dX4_scan_118 (fun H locs hW => ?_)
    exact rv hQ C hr hlk hW hf dX4_scan_121
  refine lv_aload_n C.1.1 C.1.2.1 dX4_scan_0 rfl (lv_at hl 0 rfl) ?_
  refine lv_iconst (v := 0) C.1.1 C.1.2.1 dX4_scan_1 (by decide) ?_
  refine pf4_3 C hW hk_a0 w_257 dX4_scan_2 (fun H locs hW => ?_)
  refine lv_iconst (v := 0) C.1.1 C.1.2.1 dX4_scan_5 (by decide) ?_
  refine lv_istore_n (lv' := [(3, .int _), (0, .ref _), (1, .ref _), (2, .int _)]) C.1.1 C.1.2.1 dX4_scan_6 rfl hl (by decide) rfl (fun ls hl => ?_)
  obtain ⟨o31, ho, hf⟩ := bd hf
  obtain ⟨n, ho⟩ := lp_it ho
  refine L7 n _ _ _ _ _ o31 ho hW (lv_sub hl [1, 2, 3, 0] rfl) ?_
  intro  σ32 H locs ls e9 hW hl
  subst e9
  try dsimp only at hf
  refine lv_aload_n C.1.1 C.1.2.1 dX4_scan_90 rfl (lv_at hl 0 rfl) ?_
  refine gf4_3 C hW hk_a0 w_257 dX4_scan_91 ?_
  refine lv_if_eq (tgt := 113) C.1.1 C.1.2.1 dX4_scan_94 (by decide) (fun h9 => ?_) (fun h9 => ?_)
  · replace hf := (if_pos h9).symm.trans hf
    exact J113 _ _ _ _ hf hW (lv_sub hl [0, 1] rfl)
  · replace hf := (if_neg h9).symm.trans hf
    refine lv_aload_n C.1.1 C.1.2.1 dX4_scan_97 rfl (lv_at hl 0 rfl) ?_
    have hk38 := sh4_0 hW hk_a0
    refine gf4_0 C hW hk_a0 w_251 dX4_scan_98 ?_
    refine lv_aload_n C.1.1 C.1.2.1 dX4_scan_101 rfl (lv_at hl 0 rfl) ?_
    refine gf4_3 C hW hk_a0 w_257 dX4_scan_102 ?_
    refine lv_iconst (v := 1) C.1.1 C.1.2.1 dX4_scan_105 (by decide) ?_
    refine lv_isub C.1.1 C.1.2.1 dX4_scan_106 ?_
    obtain ⟨hv39, hf⟩ := gd hf
    refine wai C hW hk38 (vin_p hv39) dX4_scan_107 ?_
    refine lv_bipush (v := 32) C.1.1 C.1.2.1 dX4_scan_108 (by decide) ?_
    refine lv_icmp_eq (tgt := 121) C.1.1 C.1.2.1 dX4_scan_110 (by decide) (fun h9 => ?_) (fun h9 => ?_)
    · replace hf := (if_pos h9).symm.trans hf
      exact rv hQ C hr hlk hW hf dX4_scan_121
    · replace hf := (if_neg h9).symm.trans hf
      exact J113 _ _ _ _ hf hW (lv_sub hl [0, 1] rfl)
