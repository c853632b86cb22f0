theorem tbl_out {x : Int32} (h : ∀ v : Nat, v < 36 → x ≠ nI v) : x.toInt < 0 ∨ 35 < x.toInt := by
  by_cases h1 : x.toInt < 0
  · exact Or.inl h1
  · by_cases h2 : 35 < x.toInt
    · exact Or.inr h2
    · refine absurd ?_ (h x.toInt.toNat (by omega))
      apply Int32.toInt_inj.mp
      rw [show (nI x.toInt.toNat).toInt = (x.toInt.toNat : Int) from Int32.toInt_ofNat_of_lt (by omega)]
      omega
theorem cmp6 {i L : Nat} (hi : i ≤ 4000) (hL : L ≤ 3072) : (Int32.ofNat L - 6 < nI i) ↔ L < i + 6 := by
  have e : Int32.ofNat L = nI L := rfl
  rw [e]
  by_cases h : 6 ≤ L
  · rw [show nI L - 6 = nI (L - 6) from pk_sub (b := 6) h]
    constructor
    · intro z
      have : ¬ nI i ≤ nI (L - 6) := Int32.not_le.mpr z
      by_cases y : i ≤ L - 6
      · exact absurd (nI_le y (by omega)) this
      · omega
    · intro z
      exact Int32.not_le.mp (le_nI (by omega) (by omega) (by omega))
  · have neg : nI L - 6 < 0 := by
      rcases (show L = 0 ∨ L = 1 ∨ L = 2 ∨ L = 3 ∨ L = 4 ∨ L = 5 by omega) with rfl | rfl | rfl | rfl | rfl | rfl <;> decide
    constructor
    · intro _; omega
    · intro _
      exact Int32.lt_of_lt_of_le neg (nI_n1 (by omega))
theorem ii6 (i : Nat) : nI i + Int32.ofInt 6 = nI (i + 6) := (ii (k := 6) (by decide)).trans (nI_add i 6)
set_option maxRecDepth 100000 in
set_option maxHeartbeats 4000000 in
theorem lw_switch {p : Program} {l : Launch} {e : Env} {s : State} {m : MethodId} {below : List Frame} {meth : Method} {c : Code} {b L : Nat} {xs : Nat → Int32} {G : Gm} {i : Nat} {σ : Sg} {H : Heap} {locs : List Loc} {ls : Array Slot} (E : EnvL p s m c b L xs G) (hi : i + 6 ≤ L) (hW : Ws G σ s.heap H locs) (hR : RLe 442 σ) (hl : lv_has ls 4 (LL b G i)) (x : Int32) (K : ∀ σ H locs, Ws G σ s.heap H locs → RLe 442 σ → WL p l e s m b below meth c H locs 1222 ls []) : WL p l e s m b below meth c H locs 33 ls [.int x] := by
  have C := E.1
  by_cases h0 : x = 0
  · refine lv_tableIn (tgt := 192) C.1.1 C.1.2.1 dL_law_33 (by rw [h0]; decide) (by rw [h0]; decide) (off := 159) (by rw [h0]; rfl) (by decide) ?_
    exact lc_0 E hi hW hR hl K
  by_cases h1 : x = 1
  · refine lv_tableIn (tgt := 255) C.1.1 C.1.2.1 dL_law_33 (by rw [h1]; decide) (by rw [h1]; decide) (off := 222) (by rw [h1]; rfl) (by decide) ?_
    exact lc_1 E hi hW hR hl K
  by_cases h2 : x = 2
  · refine lv_tableIn (tgt := 278) C.1.1 C.1.2.1 dL_law_33 (by rw [h2]; decide) (by rw [h2]; decide) (off := 245) (by rw [h2]; rfl) (by decide) ?_
    exact lc_2 E hi hW hR hl K
  by_cases h3 : x = 3
  · refine lv_tableIn (tgt := 291) C.1.1 C.1.2.1 dL_law_33 (by rw [h3]; decide) (by rw [h3]; decide) (off := 258) (by rw [h3]; rfl) (by decide) ?_
    exact lc_3 E hi hW hR hl K
  by_cases h4 : x = 4
  · refine lv_tableIn (tgt := 304) C.1.1 C.1.2.1 dL_law_33 (by rw [h4]; decide) (by rw [h4]; decide) (off := 271) (by rw [h4]; rfl) (by decide) ?_
    exact lc_4 E hi hW hR hl K
  by_cases h5 : x = 5
  · refine lv_tableIn (tgt := 337) C.1.1 C.1.2.1 dL_law_33 (by rw [h5]; decide) (by rw [h5]; decide) (off := 304) (by rw [h5]; rfl) (by decide) ?_
    exact lc_5 E hi hW hR hl K
  by_cases h6 : x = 6
  · refine lv_tableIn (tgt := 370) C.1.1 C.1.2.1 dL_law_33 (by rw [h6]; decide) (by rw [h6]; decide) (off := 337) (by rw [h6]; rfl) (by decide) ?_
    exact lc_6 E hi hW hR hl K
  by_cases h7 : x = 7
  · refine lv_tableIn (tgt := 403) C.1.1 C.1.2.1 dL_law_33 (by rw [h7]; decide) (by rw [h7]; decide) (off := 370) (by rw [h7]; rfl) (by decide) ?_
    exact lc_7 E hi hW hR hl K
  by_cases h8 : x = 8
  · refine lv_tableIn (tgt := 452) C.1.1 C.1.2.1 dL_law_33 (by rw [h8]; decide) (by rw [h8]; decide) (off := 419) (by rw [h8]; rfl) (by decide) ?_
    exact lc_8 E hi hW hR hl K
  by_cases h9 : x = 9
  · refine lv_tableIn (tgt := 485) C.1.1 C.1.2.1 dL_law_33 (by rw [h9]; decide) (by rw [h9]; decide) (off := 452) (by rw [h9]; rfl) (by decide) ?_
    exact lc_9 E hi hW hR hl K
  by_cases h10 : x = 10
  · refine lv_tableIn (tgt := 518) C.1.1 C.1.2.1 dL_law_33 (by rw [h10]; decide) (by rw [h10]; decide) (off := 485) (by rw [h10]; rfl) (by decide) ?_
    exact lc_10 E hi hW hR hl K
  by_cases h11 : x = 11
  · refine lv_tableIn (tgt := 541) C.1.1 C.1.2.1 dL_law_33 (by rw [h11]; decide) (by rw [h11]; decide) (off := 508) (by rw [h11]; rfl) (by decide) ?_
    exact lc_11 E hi hW hR hl K
  by_cases h12 : x = 12
  · refine lv_tableIn (tgt := 554) C.1.1 C.1.2.1 dL_law_33 (by rw [h12]; decide) (by rw [h12]; decide) (off := 521) (by rw [h12]; rfl) (by decide) ?_
    exact lc_12 E hi hW hR hl K
  by_cases h13 : x = 13
  · refine lv_tableIn (tgt := 577) C.1.1 C.1.2.1 dL_law_33 (by rw [h13]; decide) (by rw [h13]; decide) (off := 544) (by rw [h13]; rfl) (by decide) ?_
    exact lc_13 E hi hW hR hl K
  by_cases h14 : x = 14
  · refine lv_tableIn (tgt := 610) C.1.1 C.1.2.1 dL_law_33 (by rw [h14]; decide) (by rw [h14]; decide) (off := 577) (by rw [h14]; rfl) (by decide) ?_
    exact lc_14 E hi hW hR hl K
  by_cases h15 : x = 15
  · refine lv_tableIn (tgt := 633) C.1.1 C.1.2.1 dL_law_33 (by rw [h15]; decide) (by rw [h15]; decide) (off := 600) (by rw [h15]; rfl) (by decide) ?_
    exact lc_15 E hi hW hR hl K
  by_cases h16 : x = 16
  · refine lv_tableIn (tgt := 656) C.1.1 C.1.2.1 dL_law_33 (by rw [h16]; decide) (by rw [h16]; decide) (off := 623) (by rw [h16]; rfl) (by decide) ?_
    exact lc_16 E hi hW hR hl K
  by_cases h17 : x = 17
  · refine lv_tableIn (tgt := 689) C.1.1 C.1.2.1 dL_law_33 (by rw [h17]; decide) (by rw [h17]; decide) (off := 656) (by rw [h17]; rfl) (by decide) ?_
    exact lc_17 E hi hW hR hl K
  by_cases h18 : x = 18
  · refine lv_tableIn (tgt := 712) C.1.1 C.1.2.1 dL_law_33 (by rw [h18]; decide) (by rw [h18]; decide) (off := 679) (by rw [h18]; rfl) (by decide) ?_
    exact lc_18 E hi hW hR hl K
  by_cases h19 : x = 19
  · refine lv_tableIn (tgt := 735) C.1.1 C.1.2.1 dL_law_33 (by rw [h19]; decide) (by rw [h19]; decide) (off := 702) (by rw [h19]; rfl) (by decide) ?_
    exact lc_19 E hi hW hR hl K
  by_cases h20 : x = 20
  · refine lv_tableIn (tgt := 768) C.1.1 C.1.2.1 dL_law_33 (by rw [h20]; decide) (by rw [h20]; decide) (off := 735) (by rw [h20]; rfl) (by decide) ?_
    exact lc_20 E hi hW hR hl K
  by_cases h21 : x = 21
  · refine lv_tableIn (tgt := 801) C.1.1 C.1.2.1 dL_law_33 (by rw [h21]; decide) (by rw [h21]; decide) (off := 768) (by rw [h21]; rfl) (by decide) ?_
    exact lc_21 E hi hW hR hl K
  by_cases h22 : x = 22
  · refine lv_tableIn (tgt := 824) C.1.1 C.1.2.1 dL_law_33 (by rw [h22]; decide) (by rw [h22]; decide) (off := 791) (by rw [h22]; rfl) (by decide) ?_
    exact lc_22 E hi hW hR hl K
  by_cases h23 : x = 23
  · refine lv_tableIn (tgt := 847) C.1.1 C.1.2.1 dL_law_33 (by rw [h23]; decide) (by rw [h23]; decide) (off := 814) (by rw [h23]; rfl) (by decide) ?_
    exact lc_23 E hi hW hR hl K
  by_cases h24 : x = 24
  · refine lv_tableIn (tgt := 880) C.1.1 C.1.2.1 dL_law_33 (by rw [h24]; decide) (by rw [h24]; decide) (off := 847) (by rw [h24]; rfl) (by decide) ?_
    exact lc_24 E hi hW hR hl K
  by_cases h25 : x = 25
  · refine lv_tableIn (tgt := 913) C.1.1 C.1.2.1 dL_law_33 (by rw [h25]; decide) (by rw [h25]; decide) (off := 880) (by rw [h25]; rfl) (by decide) ?_
    exact lc_25 E hi hW hR hl K
  by_cases h26 : x = 26
  · refine lv_tableIn (tgt := 936) C.1.1 C.1.2.1 dL_law_33 (by rw [h26]; decide) (by rw [h26]; decide) (off := 903) (by rw [h26]; rfl) (by decide) ?_
    exact lc_26 E hi hW hR hl K
  by_cases h27 : x = 27
  · refine lv_tableIn (tgt := 959) C.1.1 C.1.2.1 dL_law_33 (by rw [h27]; decide) (by rw [h27]; decide) (off := 926) (by rw [h27]; rfl) (by decide) ?_
    exact lc_27 E hi hW hR hl K
  by_cases h28 : x = 28
  · refine lv_tableIn (tgt := 1002) C.1.1 C.1.2.1 dL_law_33 (by rw [h28]; decide) (by rw [h28]; decide) (off := 969) (by rw [h28]; rfl) (by decide) ?_
    exact lc_28 E hi hW hR hl K
  by_cases h29 : x = 29
  · refine lv_tableIn (tgt := 1035) C.1.1 C.1.2.1 dL_law_33 (by rw [h29]; decide) (by rw [h29]; decide) (off := 1002) (by rw [h29]; rfl) (by decide) ?_
    exact lc_29 E hi hW hR hl K
  by_cases h30 : x = 30
  · refine lv_tableIn (tgt := 1084) C.1.1 C.1.2.1 dL_law_33 (by rw [h30]; decide) (by rw [h30]; decide) (off := 1051) (by rw [h30]; rfl) (by decide) ?_
    exact lc_30 E hi hW hR hl K
  by_cases h31 : x = 31
  · refine lv_tableIn (tgt := 1097) C.1.1 C.1.2.1 dL_law_33 (by rw [h31]; decide) (by rw [h31]; decide) (off := 1064) (by rw [h31]; rfl) (by decide) ?_
    exact lc_31 E hi hW hR hl K
  by_cases h32 : x = 32
  · refine lv_tableIn (tgt := 1130) C.1.1 C.1.2.1 dL_law_33 (by rw [h32]; decide) (by rw [h32]; decide) (off := 1097) (by rw [h32]; rfl) (by decide) ?_
    exact lc_32 E hi hW hR hl K
  by_cases h33 : x = 33
  · refine lv_tableIn (tgt := 1153) C.1.1 C.1.2.1 dL_law_33 (by rw [h33]; decide) (by rw [h33]; decide) (off := 1120) (by rw [h33]; rfl) (by decide) ?_
    exact lc_33 E hi hW hR hl K
  by_cases h34 : x = 34
  · refine lv_tableIn (tgt := 1176) C.1.1 C.1.2.1 dL_law_33 (by rw [h34]; decide) (by rw [h34]; decide) (off := 1143) (by rw [h34]; rfl) (by decide) ?_
    exact lc_34 E hi hW hR hl K
  by_cases h35 : x = 35
  · refine lv_tableIn (tgt := 1199) C.1.1 C.1.2.1 dL_law_33 (by rw [h35]; decide) (by rw [h35]; decide) (off := 1166) (by rw [h35]; rfl) (by decide) ?_
    exact lc_35 E hi hW hR hl K
  refine lv_tableOut (tgt := 1222) C.1.1 C.1.2.1 dL_law_33 (tbl_out (fun v hv => ?_)) (by decide) ?_
  · rcases (show v = 0 ∨ v = 1 ∨ v = 2 ∨ v = 3 ∨ v = 4 ∨ v = 5 ∨ v = 6 ∨ v = 7 ∨ v = 8 ∨ v = 9 ∨ v = 10 ∨ v = 11 ∨ v = 12 ∨ v = 13 ∨ v = 14 ∨ v = 15 ∨ v = 16 ∨ v = 17 ∨ v = 18 ∨ v = 19 ∨ v = 20 ∨ v = 21 ∨ v = 22 ∨ v = 23 ∨ v = 24 ∨ v = 25 ∨ v = 26 ∨ v = 27 ∨ v = 28 ∨ v = 29 ∨ v = 30 ∨ v = 31 ∨ v = 32 ∨ v = 33 ∨ v = 34 ∨ v = 35 by omega) with rfl | rfl | rfl | rfl | rfl | rfl | rfl | rfl | rfl | rfl | rfl | rfl | rfl | rfl | rfl | rfl | rfl | rfl | rfl | rfl | rfl | rfl | rfl | rfl | rfl | rfl | rfl | rfl | rfl | rfl | rfl | rfl | rfl | rfl | rfl | rfl
    · exact h0
    · exact h1
    · exact h2
    · exact h3
    · exact h4
    · exact h5
    · exact h6
    · exact h7
    · exact h8
    · exact h9
    · exact h10
    · exact h11
    · exact h12
    · exact h13
    · exact h14
    · exact h15
    · exact h16
    · exact h17
    · exact h18
    · exact h19
    · exact h20
    · exact h21
    · exact h22
    · exact h23
    · exact h24
    · exact h25
    · exact h26
    · exact h27
    · exact h28
    · exact h29
    · exact h30
    · exact h31
    · exact h32
    · exact h33
    · exact h34
    · exact h35
  · exact K σ H locs hW hR
theorem lw_loop {p : Program} {l : Launch} {e : Env} {s : State} {m : MethodId} {below : List Frame} {meth : Method} {c : Code} {b L : Nat} {xs : Nat → Int32} {G : Gm} (E : EnvL p s m c b L xs G) (hr : meth.sig.returnType = ret) (hlocks : meth.locks = false) : ∀ (k i : Nat) (σ : Sg) (H : Heap) (locs : List Loc) (ls : Array Slot), L + 6 ≤ i + k → i ≤ L → Ws G σ s.heap H locs → RLe 442 σ → lv_has ls 4 (LL b G i) → WL p l e s m b below meth c H locs 18 ls [] := by
  obtain ⟨C, hB, hk6, hk7, hX, hbl, hL⟩ := id E
  have hbA : ¬ (fun q : Nat => gB G ≤ q) b := by show ¬ gB G ≤ b; rw [hB]; exact Nat.not_le.mpr hbl
  intro k
  induction k with
  | zero => intro i σ H locs ls h1 h2; omega
  | succ k ih =>
    intro i σ H locs ls h1 h2 hW hR hl
    have hl : lv_has ls 4 [(0, .ref b), (1, .ref (gB G + 0)), (2, .ref (gB G + 442)), (3, .int (nI i))] := hl
    refine lv_iload_n C.1.1 C.1.2.1 dL_law_18 rfl (lv_at hl 3 rfl) ?_
    refine lv_aload_n C.1.1 C.1.2.1 dL_law_19 rfl (lv_at hl 0 rfl) ?_
    refine va_slen C.1.1 C.1.2.1 hX hbl hbA hW.2 dL_law_20 ?_
    refine lv_bipush (v := 6) C.1.1 C.1.2.1 dL_law_21 (by decide) ?_
    refine lv_isub C.1.1 C.1.2.1 dL_law_23 ?_
    refine lv_icmp_gt (tgt := 1228) C.1.1 C.1.2.1 dL_law_24 (by decide) (fun h9 => ?_) (fun h9 => ?_)
    · refine lv_iconst (v := 1) C.1.1 C.1.2.1 dL_law_1228 (by decide) ?_
      refine va_forget (fun q hq => ?_) (lw_ret C.1.1 C.1.2.1 hr hlocks dL_law_1229)
      have := hW.2.2.2 q hq
      rw [← hB]; exact this
    · have hi : i + 6 ≤ L := by
        by_cases z : i + 6 ≤ L
        · exact z
        · exact absurd ((cmp6 (by omega) hL).mpr (by omega)) h9
      refine lv_aload_n C.1.1 C.1.2.1 dL_law_27 rfl (lv_at hl 0 rfl) ?_
      refine lv_iload_n C.1.1 C.1.2.1 dL_law_28 rfl (lv_at hl 3 rfl) ?_
      refine va_sld C.1.1 C.1.2.1 hX hbl hbA hW.2 (vin_p ⟨nI_pos' (by omega), by rw [nI_clamp (by omega)]; omega⟩) dL_law_29 ?_
      refine lv_bipush (v := 63) C.1.1 C.1.2.1 dL_law_30 (by decide) ?_
      refine lv_iand C.1.1 C.1.2.1 dL_law_32 ?_
      refine lw_switch E hi hW hR hl _ (fun σ H locs hW hR => ?_)
      refine lv_iinc (v := nI (i + 6)) (lv' := [(3, .int _), (0, .ref _), (1, .ref _), (2, .ref _)]) C.1.1 C.1.2.1 dL_law_1222 hl (k := 3) rfl (ii6 i) (by decide) rfl (fun ls hl => ?_)
      refine lv_goto (tgt := 18) C.1.1 C.1.2.1 dL_law_1225 (by decide) ?_
      exact ih (i + 6) _ _ _ _ (by omega) (by omega) hW hR (lv_sub hl [1, 2, 3, 0] rfl)
def σZ : Sg := (fun _ _ => 0, fun _ _ => 0, fun _ _ => 0, fun _ => .inr (0, []))
set_option maxRecDepth 100000 in
set_option maxHeartbeats 8000000 in
theorem whole_start {p : Program} {e : Env} {s : State} {m : MethodId} {below : List Frame} {meth : Method} {c : Code} (l : Launch) (hflags : l.flags = flags0) {b L : Nat} {xs : Nat → Int32} (hL : L ≤ 3072) (C0 : lw_At p s m meth c b L xs) : W p l e room_1 s m #[Value.ref b] below meth c s.heap [] 0 0 (lw_Z below #[Value.ref b] s) (entryFrame m ([Value.ref b] : List Value).toArray 4) := by
  obtain ⟨G, hB, hN, C, hW0⟩ := w_start C0
  obtain ⟨hx, hb, hr, hml, hown, hts, hX, hbl, hlocks, hgv⟩ := id C0
  have hW := hW0 σZ
  have hl := lv_entry ([.ref b]) (n := 4) (Nat.le_of_ble_eq_true rfl)
  rw [lg_entry_eq]
  generalize (lg_sl ([.ref b]) ++ List.replicate (4 - (lg_sl ([.ref b])).length) Slot.unset).toArray = ls at hl ⊢
  have hl : lv_has ls 4 [(0, .ref b)] := hl
  refine wnew C hW tbX6 tyX6 tyX6_ok (ci := 6) rfl w_125 w_126 w_109 (fs := [.null, .int 0, .int 0, .null, .null, .null, .null, .null, .null, .null, .int 0, .int 0, .null, .int 0, .null, .int 0, .int 0, .null]) df6 (Nat.le_of_ble_eq_true rfl) (Nat.le_of_ble_eq_true rfl) dL_law_0 (fun H hW => ?_)
  rw [hN] at hW ⊢
  have n1 : gN (gPush G 9) = 0 + 1 := by show gN G + 1 = 0 + 1; rw [hN]
  have n2 : gK (gPush G 9) 0 = 9 := by rw [gpu, if_pos hN.symm]
  have n3 : (zE σZ 0 (.inr (6, [.null, .int 0, .int 0, .null, .null, .null, .null, .null, .null, .null, .int 0, .int 0, .null, .int 0, .null, .int 0, .int 0, .null]))).2.2.2 0 = .inr (6, [.null, .int 0, .int 0, .null, .null, .null, .null, .null, .null, .null, .int 0, .int 0, .null, .int 0, .null, .int 0, .int 0, .null]) := by simp [zE, wE, va_up]
  generalize zE σZ 0 (.inr (6, [.null, .int 0, .int 0, .null, .null, .null, .null, .null, .null, .null, .int 0, .int 0, .null, .int 0, .null, .int 0, .int 0, .null])) = σ0 at hW n3
  refine lv_dup C.1.1 C.1.2.1 dL_law_3 rfl ?_
  refine cMx C (gS.push G 9) hW (nX6_init (a := 0) (b := gB G) rfl n1 n2 n3) kiX6_init (Or.inl w_127) ⟨(Nat.le_of_ble_eq_true rfl), (Nat.le_of_ble_eq_true rfl)⟩ ⟨(Nat.le_of_ble_eq_true rfl), (Nat.le_of_ble_eq_true rfl)⟩ rfl hl.1 (rest := [.ref _]) rfl (Nat.le_of_ble_eq_true rfl) dL_law_4 (fun G1 σ1 H locs g1 hP hW => ?_)
  refine lv_astore_n (lv' := [(1, .ref _), (0, .ref _)]) C.1.1 C.1.2.1 dL_law_7 rfl hl (by decide) rfl (fun ls hl => ?_)
  have hN1 : gN G1 = 442 := hP.2.1
  have hk1 : gK G1 0 = 7 := hP.2.2.2.2.1.1
  refine wnew (g1.Cx C) hW tbX7 tyX7 tyX7_ok (ci := 7) rfl w_1006 w_1007 w_116 (fs := [.int 0, .null, .int 0, .null, .int 0, .null, .null, .null, .null, .null, .int 0, .int 0, .int 0, .int 0, .int 0, .int 0, .int 0, .int 0, .int 0, .int 0, .int 0, .null, .null, .null, .null, .null, .null, .null, .null, .null, .null, .null, .null, .int 0, .null, .null, .null, .null, .null, .int 0, .null, .null, .null, .int 0, .null, .null, .int 0, .null, .null, .int 0, .int 0, .int 0, .null, .int 0, .null, .null, .int 0, .int 0, .int 0, .int 0, .int 0, .int 0, .null, .null, .null, .null, .null]) df7 (Nat.le_of_ble_eq_true rfl) (Nat.le_of_ble_eq_true rfl) dL_law_8 (fun H hW => ?_)
  rw [hN1] at hW ⊢
  rw [g1.B]
  have m1 : gN (gPush G1 9) = 442 + 1 := by show gN G1 + 1 = 442 + 1; rw [hN1]
  have m2 : gK (gPush G1 9) 442 = 9 := by rw [gpu, if_pos hN1.symm]
  have m3 : (zE σ1 442 (.inr (7, [.int 0, .null, .int 0, .null, .int 0, .null, .null, .null, .null, .null, .int 0, .int 0, .int 0, .int 0, .int 0, .int 0, .int 0, .int 0, .int 0, .int 0, .int 0, .null, .null, .null, .null, .null, .null, .null, .null, .null, .null, .null, .null, .int 0, .null, .null, .null, .null, .null, .int 0, .null, .null, .null, .int 0, .null, .null, .int 0, .null, .null, .int 0, .int 0, .int 0, .null, .int 0, .null, .null, .int 0, .int 0, .int 0, .int 0, .int 0, .int 0, .null, .null, .null, .null, .null]))).2.2.2 442 = .inr (7, [.int 0, .null, .int 0, .null, .int 0, .null, .null, .null, .null, .null, .int 0, .int 0, .int 0, .int 0, .int 0, .int 0, .int 0, .int 0, .int 0, .int 0, .int 0, .null, .null, .null, .null, .null, .null, .null, .null, .null, .null, .null, .null, .int 0, .null, .null, .null, .null, .null, .int 0, .null, .null, .null, .int 0, .null, .null, .int 0, .null, .null, .int 0, .int 0, .int 0, .null, .int 0, .null, .null, .int 0, .int 0, .int 0, .int 0, .int 0, .int 0, .null, .null, .null, .null, .null]) := by simp [zE, wE, va_up]
  have m4 : ∀ x, x < 442 → (zE σ1 442 (.inr (7, [.int 0, .null, .int 0, .null, .int 0, .null, .null, .null, .null, .null, .int 0, .int 0, .int 0, .int 0, .int 0, .int 0, .int 0, .int 0, .int 0, .int 0, .int 0, .null, .null, .null, .null, .null, .null, .null, .null, .null, .null, .null, .null, .int 0, .null, .null, .null, .null, .null, .int 0, .null, .null, .null, .int 0, .null, .null, .int 0, .null, .null, .int 0, .int 0, .int 0, .null, .int 0, .null, .null, .int 0, .int 0, .int 0, .int 0, .int 0, .int 0, .null, .null, .null, .null, .null]))).1 x = σ1.1 x ∧ (zE σ1 442 (.inr (7, [.int 0, .null, .int 0, .null, .int 0, .null, .null, .null, .null, .null, .int 0, .int 0, .int 0, .int 0, .int 0, .int 0, .int 0, .int 0, .int 0, .int 0, .int 0, .null, .null, .null, .null, .null, .null, .null, .null, .null, .null, .null, .null, .int 0, .null, .null, .null, .null, .null, .int 0, .null, .null, .null, .int 0, .null, .null, .int 0, .null, .null, .int 0, .int 0, .int 0, .null, .int 0, .null, .null, .int 0, .int 0, .int 0, .int 0, .int 0, .int 0, .null, .null, .null, .null, .null]))).2.1 x = σ1.2.1 x ∧ (zE σ1 442 (.inr (7, [.int 0, .null, .int 0, .null, .int 0, .null, .null, .null, .null, .null, .int 0, .int 0, .int 0, .int 0, .int 0, .int 0, .int 0, .int 0, .int 0, .int 0, .int 0, .null, .null, .null, .null, .null, .null, .null, .null, .null, .null, .null, .null, .int 0, .null, .null, .null, .null, .null, .int 0, .null, .null, .null, .int 0, .null, .null, .int 0, .null, .null, .int 0, .int 0, .int 0, .null, .int 0, .null, .null, .int 0, .int 0, .int 0, .int 0, .int 0, .int 0, .null, .null, .null, .null, .null]))).2.2.1 x = σ1.2.2.1 x := fun x hx => by
    obtain ⟨q1, q2, q3, q4⟩ := oZE (σ := σ1) (k := 442) (e := .inr (7, [.int 0, .null, .int 0, .null, .int 0, .null, .null, .null, .null, .null, .int 0, .int 0, .int 0, .int 0, .int 0, .int 0, .int 0, .int 0, .int 0, .int 0, .int 0, .null, .null, .null, .null, .null, .null, .null, .null, .null, .null, .null, .null, .int 0, .null, .null, .null, .null, .null, .int 0, .null, .null, .null, .int 0, .null, .null, .int 0, .null, .null, .int 0, .int 0, .int 0, .null, .int 0, .null, .null, .int 0, .int 0, .int 0, .int 0, .int 0, .int 0, .null, .null, .null, .null, .null])) x (by omega)
    exact ⟨q1, q2, q3⟩
  generalize zE σ1 442 (.inr (7, [.int 0, .null, .int 0, .null, .int 0, .null, .null, .null, .null, .null, .int 0, .int 0, .int 0, .int 0, .int 0, .int 0, .int 0, .int 0, .int 0, .int 0, .int 0, .null, .null, .null, .null, .null, .null, .null, .null, .null, .null, .null, .null, .int 0, .null, .null, .null, .null, .null, .int 0, .null, .null, .null, .int 0, .null, .null, .int 0, .null, .null, .int 0, .int 0, .int 0, .null, .int 0, .null, .null, .int 0, .int 0, .int 0, .int 0, .int 0, .int 0, .null, .null, .null, .null, .null])) = σ2 at hW m3 m4
  refine lv_dup C.1.1 C.1.2.1 dL_law_11 rfl ?_
  refine cMx C (g1.tr (gS.push G1 9)) hW (nX7_init (a := 442) (b := gB G) g1.B m1 m2 m3) kiX7_init (Or.inl w_1008) ⟨(Nat.le_of_ble_eq_true rfl), (Nat.le_of_ble_eq_true rfl)⟩ ⟨(Nat.le_of_ble_eq_true rfl), (Nat.le_of_ble_eq_true rfl)⟩ rfl hl.1 (rest := [.ref _]) rfl (Nat.le_of_ble_eq_true rfl) dL_law_12 (fun G2 σ3 H locs g2 hQ hW => ?_)
  obtain ⟨⟨p1, p2, p3, p4⟩, f1, f2, f3, f4, f5, f6, f7⟩ := hQ
  have hR : RLe 442 σ3 := rl_init hP (fun x hx => by
    obtain ⟨q1, q2, q3, q4⟩ := p4 x hx
    obtain ⟨w1, w2, w3⟩ := m4 x hx
    exact ⟨q1.trans w1, q2.trans w2, q3.trans w3⟩) f1 f2 f3 f4 f5 f6 f7
  have hk6 : gK G2 0 = 7 := by rw [p2 0 (by omega), gpu, if_neg (by rw [hN1]; omega)]; exact hk1
  have hk7 : gK G2 442 = 8 := p3 0 (by omega)
  have E : EnvL p s m c b L xs G2 := ⟨g2.Cx C, g2.B.trans hB, hk6, hk7, hX, hbl, hL⟩
  refine lv_astore_n (lv' := [(2, .ref _), (1, .ref _), (0, .ref _)]) C.1.1 C.1.2.1 dL_law_15 rfl hl (by decide) rfl (fun ls hl => ?_)
  refine lv_iconst (v := 0) C.1.1 C.1.2.1 dL_law_16 (by decide) ?_
  refine lv_istore_n (lv' := [(3, .int _), (2, .ref _), (1, .ref _), (0, .ref _)]) C.1.1 C.1.2.1 dL_law_17 rfl hl (by decide) rfl (fun ls hl => ?_)
  refine W.widen (k := 600000) (n := 7302250) (Nat.le_of_ble_eq_true rfl) (Nat.le_of_ble_eq_true rfl) ?_
  refine lw_loop E hr hlocks (L + 6) 0 σ3 _ _ _ (by omega) (by omega) hW hR ?_
  have hl2 := lv_sub (l' := [(0, .ref b), (1, .ref (gB G + 0)), (2, .ref (gB G + 442)), (3, .int 0)]) hl [3, 2, 1, 0] rfl
  show lv_has _ 4 [(0, .ref b), (1, .ref (gB G2 + 0)), (2, .ref (gB G2 + 442)), (3, .int (nI 0))]
  rw [g2.B]
  exact hl2
