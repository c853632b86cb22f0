set_option maxRecDepth 100000 in
set_option maxHeartbeats 4000000 in
/-- the two texts that the class names: their letters, as the JDK's own code answers them -/
theorem mJ0_isLatin1 {l : Launch} {G : Gm} {i : Nat} (hi : i < 2) {σ : Sg} : Mi l G yJ0_isLatin1_aae02 cJ0_isLatin1_aae02 1 .boolean 0 0 [.ref (gA G i)] σ 1 σ := by
  refine of_W "java/lang/String" rfl (by decide) (Nat.le_of_ble_eq_true rfl) ?_
  intro p e s m args below meth c Q hQ C hr hlk hW ls hl
  have hl : lv_has ls 1 [(0, .ref (gA G i))] := hl
  have lo : ∀ a : Nat, a < (gH G).size → ¬ (fun q => gB G ≤ q) a → s.heap[a]? = (gH G)[a]? := fun a _ h => hW.1.2.2.1 a (Nat.not_le.mp h)
  have hz := C.2.2.2.2.2.1.kept lo
  have hs := C.2.2.2.2.1.kept lo
  refine va_gets C.1.1 C.1.2.1 hz hW.2 C.1.2.2.2.1 (C.w w_514) (fun _ h => h) dJ0_isLatin1_aae02_0 ?_
  refine lv_if_eq (tgt := 17) C.1.1 C.1.2.1 dJ0_isLatin1_aae02_3 (by decide) (fun h9 => absurd h9 (by decide)) (fun h9 => ?_)
  refine lv_aload_n C.1.1 C.1.2.1 dJ0_isLatin1_aae02_6 rfl (lv_at hl 0 rfl) ?_
  refine vk_getf C.1.1 C.1.2.1 (hs.1 i hi).2.1 hW.2 C.1.2.2.2.1 (C.w w_1655) (fun _ h => h) dJ0_isLatin1_aae02_7 ?_
  refine lv_if_ne (tgt := 17) C.1.1 C.1.2.1 dJ0_isLatin1_aae02_10 (by decide) (fun h9 => absurd rfl h9) (fun h9 => ?_)
  refine lv_iconst (v := 1) C.1.1 C.1.2.1 dJ0_isLatin1_aae02_13 (by decide) ?_
  refine lv_goto (tgt := 18) C.1.1 C.1.2.1 dJ0_isLatin1_aae02_14 (by decide) ?_
  exact ri hQ C hr hlk hW rfl (rok_z (Or.inr rfl)) dJ0_isLatin1_aae02_18
set_option maxRecDepth 100000 in
set_option maxHeartbeats 4000000 in
theorem mJ3_checkIndex {l : Launch} {G : Gm} {k n : Int32} (h0 : ¬ k < 0) (h1 : k < n) {v : Value} (hv : v = .null ∨ ∃ t, v = .ref t) {σ : Sg} : Mi l G yJ3_checkIndex_8e157 cJ3_checkIndex_8e157 3 .int 0 0 [.int k, .int n, v] σ k σ := by
  refine of_W "jdk/internal/util/Preconditions" rfl (by decide) (by rcases hv with rfl | ⟨t, rfl⟩ <;> exact Nat.le_of_ble_eq_true rfl) ?_
  intro p e s m args below meth c Q hQ C hr hlk hW ls hl
  have hl : lv_has ls 3 [(0, .int k), (1, .int n), (2, v)] := hl
  refine lv_iload_n C.1.1 C.1.2.1 dJ3_checkIndex_8e157_0 rfl (lv_at hl 0 rfl) ?_
  refine lv_if_lt (tgt := 9) C.1.1 C.1.2.1 dJ3_checkIndex_8e157_1 (by decide) (fun h9 => absurd h9 h0) (fun h9 => ?_)
  refine lv_iload_n C.1.1 C.1.2.1 dJ3_checkIndex_8e157_4 rfl (lv_at hl 0 rfl) ?_
  refine lv_iload_n C.1.1 C.1.2.1 dJ3_checkIndex_8e157_5 rfl (lv_at hl 1 rfl) ?_
  refine lv_icmp_lt (tgt := 16) C.1.1 C.1.2.1 dJ3_checkIndex_8e157_6 (by decide) (fun h9 => ?_) (fun h9 => absurd h1 h9)
  refine lv_iload_n C.1.1 C.1.2.1 dJ3_checkIndex_8e157_16 rfl (lv_at hl 0 rfl) ?_
  exact ri hQ C hr hlk hW rfl (rok_i _) dJ3_checkIndex_8e157_17
theorem ksJ3_checkIndex : KS yJ3_checkIndex_8e157 cJ3_checkIndex_8e157 3 (some .int) 3 := ⟨⟨w_525, w_119, w_526⟩, ⟨by decide, by decide, by decide +kernel⟩⟩
set_option maxRecDepth 100000 in
set_option maxHeartbeats 4000000 in
theorem mJ0_checkIndex {l : Launch} {G : Gm} {k n : Int32} (h0 : ¬ k < 0) (h1 : k < n) {σ : Sg} : Mv l G yJ0_checkIndex_df160 cJ0_checkIndex_df160 2 1 22 [.int k, .int n] σ σ := by
  refine of_W "java/lang/String" rfl (by decide) (Nat.le_of_ble_eq_true rfl) ?_
  intro p e s m args below meth c Q hQ C hr hlk hW ls hl
  have hl : lv_has ls 2 [(0, .int k), (1, .int n)] := hl
  have lo : ∀ a : Nat, a < (gH G).size → ¬ (fun q => gB G ≤ q) a → s.heap[a]? = (gH G)[a]? := fun a _ h => hW.1.2.2.1 a (Nat.not_le.mp h)
  have hq := C.2.2.2.2.2.2.1.kept lo
  refine lv_iload_n C.1.1 C.1.2.1 dJ0_checkIndex_df160_0 rfl (lv_at hl 0 rfl) ?_
  refine lv_iload_n C.1.1 C.1.2.1 dJ0_checkIndex_df160_1 rfl (lv_at hl 1 rfl) ?_
  rcases hq with hz | ⟨t, hz⟩
  · refine va_gets C.1.1 C.1.2.1 hz hW.2 C.1.2.2.2.1 (C.w w_522) (fun _ h => h) dJ0_checkIndex_df160_2 ?_
    refine cSi C hW (mJ3_checkIndex h0 h1 (v := .null) (Or.inl rfl)) ksJ3_checkIndex w_524 ⟨(Nat.le_of_ble_eq_true rfl), (Nat.le_of_ble_eq_true rfl)⟩ ⟨Nat.zero_le _, Nat.zero_le _⟩ rfl hl.1 (rest := []) rfl (Nat.le_of_ble_eq_true rfl) dJ0_checkIndex_df160_5 (fun H locs hn hW => ?_)
    refine lv_pop C.1.1 C.1.2.1 dJ0_checkIndex_df160_8 rfl ?_
    exact rv hQ C hr hlk hW rfl dJ0_checkIndex_df160_9
  · refine va_gets C.1.1 C.1.2.1 hz hW.2 C.1.2.2.2.1 (C.w w_522) (fun _ h => h) dJ0_checkIndex_df160_2 ?_
    refine cSi C hW (mJ3_checkIndex h0 h1 (v := .ref t) (Or.inr ⟨t, rfl⟩)) ksJ3_checkIndex w_524 ⟨(Nat.le_of_ble_eq_true rfl), (Nat.le_of_ble_eq_true rfl)⟩ ⟨Nat.zero_le _, Nat.zero_le _⟩ rfl hl.1 (rest := []) rfl (Nat.le_of_ble_eq_true rfl) dJ0_checkIndex_df160_5 (fun H locs hn hW => ?_)
    refine lv_pop C.1.1 C.1.2.1 dJ0_checkIndex_df160_8 rfl ?_
    exact rv hQ C hr hlk hW rfl dJ0_checkIndex_df160_9
theorem ksJ0_checkIndex : KS yJ0_checkIndex_df160 cJ0_checkIndex_df160 2 none 2 := ⟨⟨w_520, w_117, w_521⟩, ⟨by decide, by decide, by decide +kernel⟩⟩
def slen (i : Nat) : Nat := sxL.getD i 0
def schr (i k : Nat) : Int32 := (((sxB.getD i []).getD k 0 &&& 255).toUInt32 % 65536).toInt32
theorem slen_s {i : Nat} (hi : i < 2) : slen i < 2 ^ 31 := by
  match i, hi with
  | 0, _ => decide
  | 1, _ => decide
theorem vin_lt {k : Int32} {n : Nat} (h : vin k n) (hn : n < 2 ^ 31) : ¬ k < 0 ∧ k < Int32.ofNat n := by
  obtain ⟨j, hj, e⟩ := vp_in_of (vin_p h) hn
  rw [e]
  exact ⟨nI_pos (by omega), nI_lt hj hn⟩
set_option maxRecDepth 100000 in
set_option maxHeartbeats 4000000 in
theorem mJ1_charAt {l : Launch} {G : Gm} {i : Nat} (hi : i < 2) {k : Int32} (hk : vin k (slen i)) {σ : Sg} : Mi l G yJ1_charAt_3b067 cJ1_charAt_3b067 2 .char 2 43 [.ref (gA G (i + 2)), .int k] σ (schr i k.toNatClampNeg) σ := by
  refine of_W "java/lang/StringLatin1" rfl (by decide) (Nat.le_of_ble_eq_true rfl) ?_
  intro p e s m args below meth c Q hQ C hr hlk hW ls hl
  have hl : lv_has ls 2 [(0, .ref (gA G (i + 2))), (1, .int k)] := hl
  have lo : ∀ a : Nat, a < (gH G).size → ¬ (fun q => gB G ≤ q) a → s.heap[a]? = (gH G)[a]? := fun a _ h => hW.1.2.2.1 a (Nat.not_le.mp h)
  have hs := C.2.2.2.2.1.kept lo
  refine lv_iload_n C.1.1 C.1.2.1 dJ1_charAt_3b067_0 rfl (lv_at hl 1 rfl) ?_
  refine lv_aload_n C.1.1 C.1.2.1 dJ1_charAt_3b067_1 rfl (lv_at hl 0 rfl) ?_
  refine va_tlen C.1.1 C.1.2.1 (hs.1 i hi).2.2.2 hW.2 rfl dJ1_charAt_3b067_2 ?_
  refine cSv C hW (mJ0_checkIndex (vin_lt hk (slen_s hi)).1 (vin_lt hk (slen_s hi)).2) ksJ0_checkIndex w_519 ⟨(Nat.le_of_ble_eq_true rfl), (Nat.le_of_ble_eq_true rfl)⟩ ⟨Nat.zero_le _, Nat.zero_le _⟩ rfl hl.1 (rest := []) rfl (Nat.le_of_ble_eq_true rfl) dJ1_charAt_3b067_3 (fun H locs hW => ?_)
  refine lv_aload_n C.1.1 C.1.2.1 dJ1_charAt_3b067_6 rfl (lv_at hl 0 rfl) ?_
  refine lv_iload_n C.1.1 C.1.2.1 dJ1_charAt_3b067_7 rfl (lv_at hl 1 rfl) ?_
  refine va_tb C.1.1 C.1.2.1 (hs.1 i hi).2.2.2 hW.2 (vin_p hk) rfl dJ1_charAt_3b067_8 ?_
  refine lv_sipush (v := 255) C.1.1 C.1.2.1 dJ1_charAt_3b067_9 (by decide) ?_
  refine lv_iand C.1.1 C.1.2.1 dJ1_charAt_3b067_12 ?_
  refine lv_i2c (v := schr i k.toNatClampNeg) C.1.1 C.1.2.1 dJ1_charAt_3b067_13 rfl ?_
  exact ri hQ C hr hlk hW rfl ⟨pk_nc _, fun h => by cases h⟩ dJ1_charAt_3b067_14
theorem ksJ1_charAt : KS yJ1_charAt_3b067 cJ1_charAt_3b067 2 (some .char) 2 := ⟨⟨w_517, w_118, w_518⟩, ⟨by decide, by decide, by decide +kernel⟩⟩
def KX (CN : String) (y : MethodName) (bc : ByteArray) (mL : Nat) (ret : Option FieldType) (n : Nat) : Prop := (Cond.instanceMethod y ∈ TB ∧ Cond.selects CN y y ∈ TB ∧ Cond.initialized CN ∈ TB ∧ Cond.code y bc mL ret ∈ TB) ∧ (y.cls = CN ∧ y.cls ≠ "java/lang/invoke/MethodHandle" ∧ y.cls ≠ "java/lang/invoke/VarHandle" ∧ (parseMethodDescriptor y.desc).map (fun d => d.parameters.length) = some n)
theorem gdX {Y : Cond} {own : String} {idx : Nat} {CN : String} {y : MethodName} {bc : ByteArray} {mL n : Nat} {ret : Option FieldType} (kv : KX CN y bc mL ret n) (hl : Cond.methodLink own idx y ∈ TB) : GoodIn (Y :: TB) (wsV own idx CN y (.code y bc mL ret :: TB)) := tb_in (fun w hw => by
  unfold wsV at hw
  simp only [List.cons_append, List.nil_append, List.mem_cons] at hw
  rcases hw with h | h | h | h | h | h
  · rw [h]; exact hl
  · rw [h]; exact kv.1.1
  · rw [h]; exact kv.1.2.1
  · rw [h]; exact kv.1.2.2.1
  · rw [h]; exact kv.1.2.2.2
  · exact h)
section STR
variable {p : Program} {l : Launch} {e : Env} {R : Room} {s : State} {m : MethodId} {args : Array Value} {below : List Frame} {meth : Method} {c : Code} {H : Heap} {locs : List Loc} {cells slots : Nat} {Q : State → Prop} {cc : ByteArray} {own : String} {nL : Nat} {Y : Cond} {G : Gm} {σ σ0 : Sg} {pc : Nat} {ls : Array Slot} {rest : List Value}
theorem cXi (C : Cx p s m args c cc own nL Y G) (h0 : Wo G σ0 s.heap) (hW : Ws G σ s.heap H locs) {y : MethodName} {bc : ByteArray} {mL fr lo i n idx : Nat} {rt : FieldType} {r : Int32} {As : List Value} {σ' : Sg} (hi : i < 2) (hM : Mi l G y bc mL rt fr lo (.ref (gA G i) :: As) σ r σ') (kv : KX "java/lang/String" y bc mL (some rt) n) (hl : Cond.methodLink own idx y ∈ TB) (hR : fr + 1 ≤ R.frames ∧ 8 + (mL + 11) + lo ≤ R.locals) (hc : cells ≤ R.cells ∧ slots ≤ R.slots) (hn : As.length = n) (hsz : ls.size = nL) {st0 : List Value} (hst : st0 = As.reverse ++ .ref (gA G i) :: rest) (hcat : (rest.map fun v => v.category).sum ≤ 8) (hdg : decode cc pc = .ok (.invokevirtual idx, 3))
    (kk : ∀ (H1 : Heap) (locs1 : List Loc), rok rt r → Ws G σ' s.heap H1 locs1 → W p l e R s m args below meth c H1 locs1 cells slots Q (F0 m (pc + 3) ls (.int r :: rest))) : W p l e R s m args below meth c H locs cells slots Q (F0 m pc ls st0) := by
  subst hst
  have lo9 : ∀ a : Nat, a < (gH G).size → ¬ (fun q => gB G ≤ q) a → s.heap[a]? = (gH G)[a]? := fun a _ h => h0.2.2.1 a (Nat.not_le.mp h)
  exact va_calli (va_runV C.1 hM (cwV n C.1.2.2.2.2 (gdX kv hl) rfl rfl rfl kv.2 hR) ⟨bln, vk_recv (C.2.2.2.2.1.kept lo9) hi hW.2, (prS C hW).2⟩ rfl hn hsz rfl (lv_room hcat) hdg hc) hW.2 (fun q _ h => h) (fun q h => h) (fun r' u t H1 locs1 ht hvm hw hB hz1 hk1 hS => by obtain ⟨rfl, hn9⟩ := hw; exact kk H1 locs1 hn9 ⟨by rw [← ht]; exact hB, hS⟩)
end STR
theorem kxJ0_isLatin1 : KX "java/lang/String" yJ0_isLatin1_aae02 cJ0_isLatin1_aae02 1 (some .boolean) 0 := ⟨⟨w_511, w_512, w_117, w_513⟩, ⟨rfl, by decide, by decide, by decide +kernel⟩⟩
theorem kxJ0_charAt : KX "java/lang/String" yJ0_charAt_5068e cJ0_charAt_5068e 2 (some .char) 1 := ⟨⟨w_507, w_508, w_117, w_509⟩, ⟨rfl, by decide, by decide, by decide +kernel⟩⟩
theorem kxJ0_length : KX "java/lang/String" yJ0_length_8abf5 cJ0_length_8abf5 1 (some .int) 0 := ⟨⟨w_548, w_549, w_117, w_550⟩, ⟨rfl, by decide, by decide, by decide +kernel⟩⟩
theorem kxJ0_coder : KX "java/lang/String" yJ0_coder_7d493 cJ0_coder_7d493 1 (some .byte) 0 := ⟨⟨w_552, w_553, w_117, w_554⟩, ⟨rfl, by decide, by decide, by decide +kernel⟩⟩
set_option maxRecDepth 100000 in
set_option maxHeartbeats 4000000 in
theorem mJ0_charAt {l : Launch} {G : Gm} {i : Nat} (hi : i < 2) {k : Int32} (hk : vin k (slen i)) {σ : Sg} : Mi l G yJ0_charAt_5068e cJ0_charAt_5068e 2 .char 3 64 [.ref (gA G i), .int k] σ (schr i k.toNatClampNeg) σ := by
  refine of_W "java/lang/String" rfl (by decide) (Nat.le_of_ble_eq_true rfl) ?_
  intro p e s m args below meth c Q hQ C hr hlk hW ls hl
  have hl : lv_has ls 2 [(0, .ref (gA G i)), (1, .int k)] := hl
  have lo : ∀ a : Nat, a < (gH G).size → ¬ (fun q => gB G ≤ q) a → s.heap[a]? = (gH G)[a]? := fun a _ h => hW.1.2.2.1 a (Nat.not_le.mp h)
  have hs := C.2.2.2.2.1.kept lo
  have h0 := hW.1
  refine lv_aload_n C.1.1 C.1.2.1 dJ0_charAt_5068e_0 rfl (lv_at hl 0 rfl) ?_
  refine cXi C h0 hW hi (mJ0_isLatin1 hi) kxJ0_isLatin1 w_510 ⟨(Nat.le_of_ble_eq_true rfl), (Nat.le_of_ble_eq_true rfl)⟩ ⟨Nat.zero_le _, Nat.zero_le _⟩ rfl hl.1 (rest := []) rfl (Nat.le_of_ble_eq_true rfl) dJ0_charAt_5068e_1 (fun H locs hn hW => ?_)
  refine lv_if_eq (tgt := 16) C.1.1 C.1.2.1 dJ0_charAt_5068e_4 (by decide) (fun h9 => absurd h9 (by decide)) (fun h9 => ?_)
  refine lv_aload_n C.1.1 C.1.2.1 dJ0_charAt_5068e_7 rfl (lv_at hl 0 rfl) ?_
  refine vk_getf C.1.1 C.1.2.1 (hs.1 i hi).2.2.1 hW.2 C.1.2.2.2.1 (C.w w_1656) (fun _ h => h) dJ0_charAt_5068e_8 ?_
  refine lv_iload_n C.1.1 C.1.2.1 dJ0_charAt_5068e_11 rfl (lv_at hl 1 rfl) ?_
  refine cSi C hW (mJ1_charAt hi hk) ksJ1_charAt w_516 ⟨(Nat.le_of_ble_eq_true rfl), (Nat.le_of_ble_eq_true rfl)⟩ ⟨Nat.zero_le _, Nat.zero_le _⟩ rfl hl.1 (rest := []) rfl (Nat.le_of_ble_eq_true rfl) dJ0_charAt_5068e_12 (fun H locs hn hW => ?_)
  exact ri hQ C hr hlk hW rfl hn dJ0_charAt_5068e_15
set_option maxRecDepth 100000 in
set_option maxHeartbeats 4000000 in
theorem mJ0_coder {l : Launch} {G : Gm} {i : Nat} (hi : i < 2) {σ : Sg} : Mi l G yJ0_coder_7d493 cJ0_coder_7d493 1 .byte 0 0 [.ref (gA G i)] σ 0 σ := by
  refine of_W "java/lang/String" rfl (by decide) (Nat.le_of_ble_eq_true rfl) ?_
  intro p e s m args below meth c Q hQ C hr hlk hW ls hl
  have hl : lv_has ls 1 [(0, .ref (gA G i))] := hl
  have lo : ∀ a : Nat, a < (gH G).size → ¬ (fun q => gB G ≤ q) a → s.heap[a]? = (gH G)[a]? := fun a _ h => hW.1.2.2.1 a (Nat.not_le.mp h)
  have hs := C.2.2.2.2.1.kept lo
  have hz := C.2.2.2.2.2.1.kept lo
  refine va_gets C.1.1 C.1.2.1 hz hW.2 C.1.2.2.2.1 (C.w w_514) (fun _ h => h) dJ0_coder_7d493_0 ?_
  refine lv_if_eq (tgt := 13) C.1.1 C.1.2.1 dJ0_coder_7d493_3 (by decide) (fun h9 => absurd h9 (by decide)) (fun h9 => ?_)
  refine lv_aload_n C.1.1 C.1.2.1 dJ0_coder_7d493_6 rfl (lv_at hl 0 rfl) ?_
  refine vk_getf C.1.1 C.1.2.1 (hs.1 i hi).2.1 hW.2 C.1.2.2.2.1 (C.w w_1655) (fun _ h => h) dJ0_coder_7d493_7 ?_
  refine lv_goto (tgt := 14) C.1.1 C.1.2.1 dJ0_coder_7d493_10 (by decide) ?_
  exact ri hQ C hr hlk hW rfl ⟨rfl, fun h => by cases h⟩ dJ0_coder_7d493_14
set_option maxRecDepth 100000 in
set_option maxHeartbeats 4000000 in
theorem mJ0_length {l : Launch} {G : Gm} {i : Nat} (hi : i < 2) {σ : Sg} : Mi l G yJ0_length_8abf5 cJ0_length_8abf5 1 .int 1 20 [.ref (gA G i)] σ (Int32.ofNat (slen i)) σ := by
  refine of_W "java/lang/String" rfl (by decide) (Nat.le_of_ble_eq_true rfl) ?_
  intro p e s m args below meth c Q hQ C hr hlk hW ls hl
  have hl : lv_has ls 1 [(0, .ref (gA G i))] := hl
  have lo : ∀ a : Nat, a < (gH G).size → ¬ (fun q => gB G ≤ q) a → s.heap[a]? = (gH G)[a]? := fun a _ h => hW.1.2.2.1 a (Nat.not_le.mp h)
  have hs := C.2.2.2.2.1.kept lo
  have h0 := hW.1
  refine lv_aload_n C.1.1 C.1.2.1 dJ0_length_8abf5_0 rfl (lv_at hl 0 rfl) ?_
  refine vk_getf C.1.1 C.1.2.1 (hs.1 i hi).2.2.1 hW.2 C.1.2.2.2.1 (C.w w_1656) (fun _ h => h) dJ0_length_8abf5_1 ?_
  refine va_tlen C.1.1 C.1.2.1 (hs.1 i hi).2.2.2 hW.2 rfl dJ0_length_8abf5_4 ?_
  refine lv_aload_n C.1.1 C.1.2.1 dJ0_length_8abf5_5 rfl (lv_at hl 0 rfl) ?_
  refine cXi C h0 hW hi (mJ0_coder hi) kxJ0_coder w_551 ⟨(Nat.le_of_ble_eq_true rfl), (Nat.le_of_ble_eq_true rfl)⟩ ⟨Nat.zero_le _, Nat.zero_le _⟩ rfl hl.1 (rest := [.int _]) rfl (Nat.le_of_ble_eq_true rfl) dJ0_length_8abf5_6 (fun H locs hn hW => ?_)
  refine lv_ishr C.1.1 C.1.2.1 dJ0_length_8abf5_9 ?_
  exact ri hQ C hr hlk hW (by rw [sb_shr0]; rfl) (rok_i _) dJ0_length_8abf5_10
