abbrev LY : Cond := Jvm.Cond.arrayClass Jvm.ClassFile.FieldType.int
def EnvL (p : Program) (s : State) (m : MethodId) (c : Code) (b L : Nat) (xs : Nat → Int32) (G : Gm) : Prop := Cx p s m #[Value.ref b] c code R_law 4 LY G ∧ gB G = s.heap.size ∧ gK G 0 = 7 ∧ gK G 442 = 8 ∧ va_X b L xs s s.heap ∧ b < s.heap.size ∧ L ≤ 3072
abbrev WL (p : Program) (l : Launch) (e : Env) (s : State) (m : MethodId) (b : Nat) (below : List Frame) (meth : Method) (c : Code) (H : Heap) (locs : List Loc) (pc : Nat) (ls : Array Slot) (st : List Value) : Prop := W p l e room_1 s m #[Value.ref b] below meth c H locs 600000 7302250 (lw_Z below #[Value.ref b] s) (F0 m pc ls st)
abbrev LL (b : Nat) (G : Gm) (i : Nat) : List (Nat × Value) := [(0, .ref b), (1, .ref (gB G + 0)), (2, .ref (gB G + 442)), (3, .int (nI i))]
theorem vin_j {i j L : Nat} {k : Int32} (hk : k = nI j) (hj : j < 6) (hi : i + 6 ≤ L) (hL : L ≤ 3072) : vp_in (nI i + k) L := by
  subst hk
  rw [nI_add]
  exact vin_p ⟨nI_pos' (by omega), by rw [nI_clamp (by omega)]; omega⟩
set_option maxRecDepth 100000 in
set_option maxHeartbeats 4000000 in
theorem lc_0 {p : Program} {l : Launch} {e : Env} {s : State} {m : MethodId} {below : List Frame} {meth : Method} {c : Code} {b L : Nat} {xs : Nat → Int32} {G : Gm} {i : Nat} {σ : Sg} {H : Heap} {locs : List Loc} {ls : Array Slot} (E : EnvL p s m c b L xs G) (hi : i + 6 ≤ L) (hW : Ws G σ s.heap H locs) (hR : RLe 442 σ) (hl : lv_has ls 4 (LL b G i)) (K : ∀ σ H locs, Ws G σ s.heap H locs → RLe 442 σ → WL p l e s m b below meth c H locs 1222 ls []) : WL p l e s m b below meth c H locs 192 ls [] := by
  obtain ⟨C, hB, hk6, hk7, hX, hbl, hL⟩ := E
  have hbA : ¬ (fun q : Nat => gB G ≤ q) b := by show ¬ gB G ≤ b; rw [hB]; exact Nat.not_le.mpr hbl
  have hl : lv_has ls 4 [(0, .ref b), (1, .ref (gB G + 0)), (2, .ref (gB G + 442)), (3, .int (nI i))] := hl
  obtain ⟨t, t', ℓ, n, mm, bo, dr, lb, lf, sd, hRL⟩ := hR
  obtain ⟨r, σ1, σ2, f6, f7, hR2⟩ := ag_feed hRL (xs (nI i + 1).toNatClampNeg) (xs (nI i + 2).toNatClampNeg) (xs (nI i + 3).toNatClampNeg) (xs (nI i + 4).toNatClampNeg) (xs (nI i + 5).toNatClampNeg)
  have hR2 : RLe 442 σ2 := ⟨t, t', ℓ, n, mm, bo, dr, lb, lf, sd, hR2⟩
  refine lv_aload_n C.1.1 C.1.2.1 dL_law_192 rfl (lv_at hl 1 rfl) ?_
  refine lv_aload_n C.1.1 C.1.2.1 dL_law_193 rfl (lv_at hl 0 rfl) ?_
  refine lv_iload_n C.1.1 C.1.2.1 dL_law_194 rfl (lv_at hl 3 rfl) ?_
  refine lv_iconst (v := 1) C.1.1 C.1.2.1 dL_law_195 (by decide) ?_
  refine lv_iadd C.1.1 C.1.2.1 dL_law_196 ?_
  refine va_sld C.1.1 C.1.2.1 hX hbl hbA hW.2 (vin_j (j := 1) rfl (by omega) hi hL) dL_law_197 ?_
  refine lv_aload_n C.1.1 C.1.2.1 dL_law_198 rfl (lv_at hl 0 rfl) ?_
  refine lv_iload_n C.1.1 C.1.2.1 dL_law_199 rfl (lv_at hl 3 rfl) ?_
  refine lv_iconst (v := 2) C.1.1 C.1.2.1 dL_law_200 (by decide) ?_
  refine lv_iadd C.1.1 C.1.2.1 dL_law_201 ?_
  refine va_sld C.1.1 C.1.2.1 hX hbl hbA hW.2 (vin_j (j := 2) rfl (by omega) hi hL) dL_law_202 ?_
  refine lv_aload_n C.1.1 C.1.2.1 dL_law_203 rfl (lv_at hl 0 rfl) ?_
  refine lv_iload_n C.1.1 C.1.2.1 dL_law_204 rfl (lv_at hl 3 rfl) ?_
  refine lv_iconst (v := 3) C.1.1 C.1.2.1 dL_law_205 (by decide) ?_
  refine lv_iadd C.1.1 C.1.2.1 dL_law_206 ?_
  refine va_sld C.1.1 C.1.2.1 hX hbl hbA hW.2 (vin_j (j := 3) rfl (by omega) hi hL) dL_law_207 ?_
  refine lv_aload_n C.1.1 C.1.2.1 dL_law_208 rfl (lv_at hl 0 rfl) ?_
  refine lv_iload_n C.1.1 C.1.2.1 dL_law_209 rfl (lv_at hl 3 rfl) ?_
  refine lv_iconst (v := 4) C.1.1 C.1.2.1 dL_law_210 (by decide) ?_
  refine lv_iadd C.1.1 C.1.2.1 dL_law_211 ?_
  refine va_sld C.1.1 C.1.2.1 hX hbl hbA hW.2 (vin_j (j := 4) rfl (by omega) hi hL) dL_law_212 ?_
  refine lv_aload_n C.1.1 C.1.2.1 dL_law_213 rfl (lv_at hl 0 rfl) ?_
  refine lv_iload_n C.1.1 C.1.2.1 dL_law_214 rfl (lv_at hl 3 rfl) ?_
  refine lv_iconst (v := 5) C.1.1 C.1.2.1 dL_law_215 (by decide) ?_
  refine lv_iadd C.1.1 C.1.2.1 dL_law_216 ?_
  refine va_sld C.1.1 C.1.2.1 hX hbl hbA hW.2 (vin_j (j := 5) rfl (by omega) hi hL) dL_law_217 ?_
  refine cVi C hW (mX6_feed hk6 f6) hk6 kvX6_feed w_460 ⟨(Nat.le_of_ble_eq_true rfl), (Nat.le_of_ble_eq_true rfl)⟩ ⟨(Nat.le_of_ble_eq_true rfl), (Nat.le_of_ble_eq_true rfl)⟩ rfl hl.1 (rest := []) rfl (Nat.le_of_ble_eq_true rfl) dL_law_218 (fun H locs hok hW => ?_)
  refine lv_aload_n C.1.1 C.1.2.1 dL_law_221 rfl (lv_at hl 2 rfl) ?_
  refine lv_aload_n C.1.1 C.1.2.1 dL_law_222 rfl (lv_at hl 0 rfl) ?_
  refine lv_iload_n C.1.1 C.1.2.1 dL_law_223 rfl (lv_at hl 3 rfl) ?_
  refine lv_iconst (v := 1) C.1.1 C.1.2.1 dL_law_224 (by decide) ?_
  refine lv_iadd C.1.1 C.1.2.1 dL_law_225 ?_
  refine va_sld C.1.1 C.1.2.1 hX hbl hbA hW.2 (vin_j (j := 1) rfl (by omega) hi hL) dL_law_226 ?_
  refine lv_aload_n C.1.1 C.1.2.1 dL_law_227 rfl (lv_at hl 0 rfl) ?_
  refine lv_iload_n C.1.1 C.1.2.1 dL_law_228 rfl (lv_at hl 3 rfl) ?_
  refine lv_iconst (v := 2) C.1.1 C.1.2.1 dL_law_229 (by decide) ?_
  refine lv_iadd C.1.1 C.1.2.1 dL_law_230 ?_
  refine va_sld C.1.1 C.1.2.1 hX hbl hbA hW.2 (vin_j (j := 2) rfl (by omega) hi hL) dL_law_231 ?_
  refine lv_aload_n C.1.1 C.1.2.1 dL_law_232 rfl (lv_at hl 0 rfl) ?_
  refine lv_iload_n C.1.1 C.1.2.1 dL_law_233 rfl (lv_at hl 3 rfl) ?_
  refine lv_iconst (v := 3) C.1.1 C.1.2.1 dL_law_234 (by decide) ?_
  refine lv_iadd C.1.1 C.1.2.1 dL_law_235 ?_
  refine va_sld C.1.1 C.1.2.1 hX hbl hbA hW.2 (vin_j (j := 3) rfl (by omega) hi hL) dL_law_236 ?_
  refine lv_aload_n C.1.1 C.1.2.1 dL_law_237 rfl (lv_at hl 0 rfl) ?_
  refine lv_iload_n C.1.1 C.1.2.1 dL_law_238 rfl (lv_at hl 3 rfl) ?_
  refine lv_iconst (v := 4) C.1.1 C.1.2.1 dL_law_239 (by decide) ?_
  refine lv_iadd C.1.1 C.1.2.1 dL_law_240 ?_
  refine va_sld C.1.1 C.1.2.1 hX hbl hbA hW.2 (vin_j (j := 4) rfl (by omega) hi hL) dL_law_241 ?_
  refine lv_aload_n C.1.1 C.1.2.1 dL_law_242 rfl (lv_at hl 0 rfl) ?_
  refine lv_iload_n C.1.1 C.1.2.1 dL_law_243 rfl (lv_at hl 3 rfl) ?_
  refine lv_iconst (v := 5) C.1.1 C.1.2.1 dL_law_244 (by decide) ?_
  refine lv_iadd C.1.1 C.1.2.1 dL_law_245 ?_
  refine va_sld C.1.1 C.1.2.1 hX hbl hbA hW.2 (vin_j (j := 5) rfl (by omega) hi hL) dL_law_246 ?_
  refine cVi C hW (mX7_feed hk7 f7) hk7 kvX7_feed w_1233 ⟨(Nat.le_of_ble_eq_true rfl), (Nat.le_of_ble_eq_true rfl)⟩ ⟨(Nat.le_of_ble_eq_true rfl), (Nat.le_of_ble_eq_true rfl)⟩ rfl hl.1 (rest := [.int r]) rfl (Nat.le_of_ble_eq_true rfl) dL_law_247 (fun H locs hok hW => ?_)
  refine lv_icmp_eq (tgt := 1222) C.1.1 C.1.2.1 dL_law_250 (by decide) (fun h9 => ?_) (fun h9 => absurd rfl h9)
  exact K σ2 _ _ hW hR2
set_option maxRecDepth 100000 in
set_option maxHeartbeats 4000000 in
theorem lc_1 {p : Program} {l : Launch} {e : Env} {s : State} {m : MethodId} {below : List Frame} {meth : Method} {c : Code} {b L : Nat} {xs : Nat → Int32} {G : Gm} {i : Nat} {σ : Sg} {H : Heap} {locs : List Loc} {ls : Array Slot} (E : EnvL p s m c b L xs G) (hi : i + 6 ≤ L) (hW : Ws G σ s.heap H locs) (hR : RLe 442 σ) (hl : lv_has ls 4 (LL b G i)) (K : ∀ σ H locs, Ws G σ s.heap H locs → RLe 442 σ → WL p l e s m b below meth c H locs 1222 ls []) : WL p l e s m b below meth c H locs 255 ls [] := by
  obtain ⟨C, hB, hk6, hk7, hX, hbl, hL⟩ := E
  have hbA : ¬ (fun q : Nat => gB G ≤ q) b := by show ¬ gB G ≤ b; rw [hB]; exact Nat.not_le.mpr hbl
  have hl : lv_has ls 4 [(0, .ref b), (1, .ref (gB G + 0)), (2, .ref (gB G + 442)), (3, .int (nI i))] := hl
  obtain ⟨t, t', ℓ, n, mm, bo, dr, lb, lf, sd, hRL⟩ := hR
  obtain ⟨r, σ1, σ2, f6, f7, hR2⟩ := ag_back hRL (xs (nI i + 1).toNatClampNeg)
  have hR2 : RLe 442 σ2 := ⟨t, t', ℓ, n, mm, bo, dr, lb, lf, sd, hR2⟩
  refine lv_aload_n C.1.1 C.1.2.1 dL_law_255 rfl (lv_at hl 1 rfl) ?_
  refine lv_aload_n C.1.1 C.1.2.1 dL_law_256 rfl (lv_at hl 0 rfl) ?_
  refine lv_iload_n C.1.1 C.1.2.1 dL_law_257 rfl (lv_at hl 3 rfl) ?_
  refine lv_iconst (v := 1) C.1.1 C.1.2.1 dL_law_258 (by decide) ?_
  refine lv_iadd C.1.1 C.1.2.1 dL_law_259 ?_
  refine va_sld C.1.1 C.1.2.1 hX hbl hbA hW.2 (vin_j (j := 1) rfl (by omega) hi hL) dL_law_260 ?_
  refine cVi C hW (mX6_back hk6 f6) hk6 kvX6_back w_468 ⟨(Nat.le_of_ble_eq_true rfl), (Nat.le_of_ble_eq_true rfl)⟩ ⟨(Nat.le_of_ble_eq_true rfl), (Nat.le_of_ble_eq_true rfl)⟩ rfl hl.1 (rest := []) rfl (Nat.le_of_ble_eq_true rfl) dL_law_261 (fun H locs hok hW => ?_)
  refine lv_aload_n C.1.1 C.1.2.1 dL_law_264 rfl (lv_at hl 2 rfl) ?_
  refine lv_aload_n C.1.1 C.1.2.1 dL_law_265 rfl (lv_at hl 0 rfl) ?_
  refine lv_iload_n C.1.1 C.1.2.1 dL_law_266 rfl (lv_at hl 3 rfl) ?_
  refine lv_iconst (v := 1) C.1.1 C.1.2.1 dL_law_267 (by decide) ?_
  refine lv_iadd C.1.1 C.1.2.1 dL_law_268 ?_
  refine va_sld C.1.1 C.1.2.1 hX hbl hbA hW.2 (vin_j (j := 1) rfl (by omega) hi hL) dL_law_269 ?_
  refine cVi C hW (mX7_back hk7 f7) hk7 kvX7_back w_1241 ⟨(Nat.le_of_ble_eq_true rfl), (Nat.le_of_ble_eq_true rfl)⟩ ⟨(Nat.le_of_ble_eq_true rfl), (Nat.le_of_ble_eq_true rfl)⟩ rfl hl.1 (rest := [.int r]) rfl (Nat.le_of_ble_eq_true rfl) dL_law_270 (fun H locs hok hW => ?_)
  refine lv_icmp_eq (tgt := 1222) C.1.1 C.1.2.1 dL_law_273 (by decide) (fun h9 => ?_) (fun h9 => absurd rfl h9)
  exact K σ2 _ _ hW hR2
set_option maxRecDepth 100000 in
set_option maxHeartbeats 4000000 in
theorem lc_2 {p : Program} {l : Launch} {e : Env} {s : State} {m : MethodId} {below : List Frame} {meth : Method} {c : Code} {b L : Nat} {xs : Nat → Int32} {G : Gm} {i : Nat} {σ : Sg} {H : Heap} {locs : List Loc} {ls : Array Slot} (E : EnvL p s m c b L xs G) (hi : i + 6 ≤ L) (hW : Ws G σ s.heap H locs) (hR : RLe 442 σ) (hl : lv_has ls 4 (LL b G i)) (K : ∀ σ H locs, Ws G σ s.heap H locs → RLe 442 σ → WL p l e s m b below meth c H locs 1222 ls []) : WL p l e s m b below meth c H locs 278 ls [] := by
  obtain ⟨C, hB, hk6, hk7, hX, hbl, hL⟩ := E
  have hbA : ¬ (fun q : Nat => gB G ≤ q) b := by show ¬ gB G ≤ b; rw [hB]; exact Nat.not_le.mpr hbl
  have hl : lv_has ls 4 [(0, .ref b), (1, .ref (gB G + 0)), (2, .ref (gB G + 442)), (3, .int (nI i))] := hl
  obtain ⟨t, t', ℓ, n, mm, bo, dr, lb, lf, sd, hRL⟩ := hR
  obtain ⟨r, σ1, σ2, f6, f7, hR2⟩ := ag_read hRL
  refine lv_aload_n C.1.1 C.1.2.1 dL_law_278 rfl (lv_at hl 1 rfl) ?_
  refine cVi C hW (mX6_read hk6 f6) hk6 kvX6_read w_472 ⟨(Nat.le_of_ble_eq_true rfl), (Nat.le_of_ble_eq_true rfl)⟩ ⟨(Nat.le_of_ble_eq_true rfl), (Nat.le_of_ble_eq_true rfl)⟩ rfl hl.1 (rest := []) rfl (Nat.le_of_ble_eq_true rfl) dL_law_279 (fun H locs hok hW => ?_)
  refine lv_aload_n C.1.1 C.1.2.1 dL_law_282 rfl (lv_at hl 2 rfl) ?_
  refine cVi C hW (mX7_read hk7 f7) hk7 kvX7_read w_1245 ⟨(Nat.le_of_ble_eq_true rfl), (Nat.le_of_ble_eq_true rfl)⟩ ⟨(Nat.le_of_ble_eq_true rfl), (Nat.le_of_ble_eq_true rfl)⟩ rfl hl.1 (rest := [.int r]) rfl (Nat.le_of_ble_eq_true rfl) dL_law_283 (fun H locs hok hW => ?_)
  refine lv_icmp_eq (tgt := 1222) C.1.1 C.1.2.1 dL_law_286 (by decide) (fun h9 => ?_) (fun h9 => absurd rfl h9)
  exact K σ2 _ _ hW hR2
set_option maxRecDepth 100000 in
set_option maxHeartbeats 4000000 in
theorem lc_3 {p : Program} {l : Launch} {e : Env} {s : State} {m : MethodId} {below : List Frame} {meth : Method} {c : Code} {b L : Nat} {xs : Nat → Int32} {G : Gm} {i : Nat} {σ : Sg} {H : Heap} {locs : List Loc} {ls : Array Slot} (E : EnvL p s m c b L xs G) (hi : i + 6 ≤ L) (hW : Ws G σ s.heap H locs) (hR : RLe 442 σ) (hl : lv_has ls 4 (LL b G i)) (K : ∀ σ H locs, Ws G σ s.heap H locs → RLe 442 σ → WL p l e s m b below meth c H locs 1222 ls []) : WL p l e s m b below meth c H locs 291 ls [] := by
  obtain ⟨C, hB, hk6, hk7, hX, hbl, hL⟩ := E
  have hbA : ¬ (fun q : Nat => gB G ≤ q) b := by show ¬ gB G ≤ b; rw [hB]; exact Nat.not_le.mpr hbl
  have hl : lv_has ls 4 [(0, .ref b), (1, .ref (gB G + 0)), (2, .ref (gB G + 442)), (3, .int (nI i))] := hl
  obtain ⟨t, t', ℓ, n, mm, bo, dr, lb, lf, sd, hRL⟩ := hR
  obtain ⟨r, σ1, σ2, f6, f7, hR2⟩ := ag_place hRL
  have hR2 : RLe 442 σ2 := ⟨t, t', ℓ, n, mm, bo, dr, lb, lf, sd, hR2⟩
  refine lv_aload_n C.1.1 C.1.2.1 dL_law_291 rfl (lv_at hl 1 rfl) ?_
  refine cVi C hW (mX6_place hk6 f6) hk6 kvX6_place w_666 ⟨(Nat.le_of_ble_eq_true rfl), (Nat.le_of_ble_eq_true rfl)⟩ ⟨(Nat.le_of_ble_eq_true rfl), (Nat.le_of_ble_eq_true rfl)⟩ rfl hl.1 (rest := []) rfl (Nat.le_of_ble_eq_true rfl) dL_law_292 (fun H locs hok hW => ?_)
  refine lv_aload_n C.1.1 C.1.2.1 dL_law_295 rfl (lv_at hl 2 rfl) ?_
  refine cVi C hW (mX7_place hk7 f7) hk7 kvX7_place w_1339 ⟨(Nat.le_of_ble_eq_true rfl), (Nat.le_of_ble_eq_true rfl)⟩ ⟨(Nat.le_of_ble_eq_true rfl), (Nat.le_of_ble_eq_true rfl)⟩ rfl hl.1 (rest := [.int r]) rfl (Nat.le_of_ble_eq_true rfl) dL_law_296 (fun H locs hok hW => ?_)
  refine lv_icmp_eq (tgt := 1222) C.1.1 C.1.2.1 dL_law_299 (by decide) (fun h9 => ?_) (fun h9 => absurd rfl h9)
  exact K σ2 _ _ hW hR2
set_option maxRecDepth 100000 in
set_option maxHeartbeats 4000000 in
theorem lc_4 {p : Program} {l : Launch} {e : Env} {s : State} {m : MethodId} {below : List Frame} {meth : Method} {c : Code} {b L : Nat} {xs : Nat → Int32} {G : Gm} {i : Nat} {σ : Sg} {H : Heap} {locs : List Loc} {ls : Array Slot} (E : EnvL p s m c b L xs G) (hi : i + 6 ≤ L) (hW : Ws G σ s.heap H locs) (hR : RLe 442 σ) (hl : lv_has ls 4 (LL b G i)) (K : ∀ σ H locs, Ws G σ s.heap H locs → RLe 442 σ → WL p l e s m b below meth c H locs 1222 ls []) : WL p l e s m b below meth c H locs 304 ls [] := by
  obtain ⟨C, hB, hk6, hk7, hX, hbl, hL⟩ := E
  have hbA : ¬ (fun q : Nat => gB G ≤ q) b := by show ¬ gB G ≤ b; rw [hB]; exact Nat.not_le.mpr hbl
  have hl : lv_has ls 4 [(0, .ref b), (1, .ref (gB G + 0)), (2, .ref (gB G + 442)), (3, .int (nI i))] := hl
  obtain ⟨t, t', ℓ, n, mm, bo, dr, lb, lf, sd, hRL⟩ := hR
  obtain ⟨r, σ1, σ2, f6, f7, hR2⟩ := ag_house hRL (xs (nI i + 1).toNatClampNeg) (xs (nI i + 2).toNatClampNeg)
  have hR2 : RLe 442 σ2 := ⟨t, t', ℓ, n, mm, bo, dr, lb, lf, sd, hR2⟩
  refine lv_aload_n C.1.1 C.1.2.1 dL_law_304 rfl (lv_at hl 1 rfl) ?_
  refine lv_aload_n C.1.1 C.1.2.1 dL_law_305 rfl (lv_at hl 0 rfl) ?_
  refine lv_iload_n C.1.1 C.1.2.1 dL_law_306 rfl (lv_at hl 3 rfl) ?_
  refine lv_iconst (v := 1) C.1.1 C.1.2.1 dL_law_307 (by decide) ?_
  refine lv_iadd C.1.1 C.1.2.1 dL_law_308 ?_
  refine va_sld C.1.1 C.1.2.1 hX hbl hbA hW.2 (vin_j (j := 1) rfl (by omega) hi hL) dL_law_309 ?_
  refine lv_aload_n C.1.1 C.1.2.1 dL_law_310 rfl (lv_at hl 0 rfl) ?_
  refine lv_iload_n C.1.1 C.1.2.1 dL_law_311 rfl (lv_at hl 3 rfl) ?_
  refine lv_iconst (v := 2) C.1.1 C.1.2.1 dL_law_312 (by decide) ?_
  refine lv_iadd C.1.1 C.1.2.1 dL_law_313 ?_
  refine va_sld C.1.1 C.1.2.1 hX hbl hbA hW.2 (vin_j (j := 2) rfl (by omega) hi hL) dL_law_314 ?_
  refine cVi C hW (mX6_house hk6 f6) hk6 kvX6_house w_670 ⟨(Nat.le_of_ble_eq_true rfl), (Nat.le_of_ble_eq_true rfl)⟩ ⟨(Nat.le_of_ble_eq_true rfl), (Nat.le_of_ble_eq_true rfl)⟩ rfl hl.1 (rest := []) rfl (Nat.le_of_ble_eq_true rfl) dL_law_315 (fun H locs hok hW => ?_)
  refine lv_aload_n C.1.1 C.1.2.1 dL_law_318 rfl (lv_at hl 2 rfl) ?_
  refine lv_aload_n C.1.1 C.1.2.1 dL_law_319 rfl (lv_at hl 0 rfl) ?_
  refine lv_iload_n C.1.1 C.1.2.1 dL_law_320 rfl (lv_at hl 3 rfl) ?_
  refine lv_iconst (v := 1) C.1.1 C.1.2.1 dL_law_321 (by decide) ?_
  refine lv_iadd C.1.1 C.1.2.1 dL_law_322 ?_
  refine va_sld C.1.1 C.1.2.1 hX hbl hbA hW.2 (vin_j (j := 1) rfl (by omega) hi hL) dL_law_323 ?_
  refine lv_aload_n C.1.1 C.1.2.1 dL_law_324 rfl (lv_at hl 0 rfl) ?_
  refine lv_iload_n C.1.1 C.1.2.1 dL_law_325 rfl (lv_at hl 3 rfl) ?_
  refine lv_iconst (v := 2) C.1.1 C.1.2.1 dL_law_326 (by decide) ?_
  refine lv_iadd C.1.1 C.1.2.1 dL_law_327 ?_
  refine va_sld C.1.1 C.1.2.1 hX hbl hbA hW.2 (vin_j (j := 2) rfl (by omega) hi hL) dL_law_328 ?_
  refine cVi C hW (mX7_house hk7 f7) hk7 kvX7_house w_1343 ⟨(Nat.le_of_ble_eq_true rfl), (Nat.le_of_ble_eq_true rfl)⟩ ⟨(Nat.le_of_ble_eq_true rfl), (Nat.le_of_ble_eq_true rfl)⟩ rfl hl.1 (rest := [.int r]) rfl (Nat.le_of_ble_eq_true rfl) dL_law_329 (fun H locs hok hW => ?_)
  refine lv_icmp_eq (tgt := 1222) C.1.1 C.1.2.1 dL_law_332 (by decide) (fun h9 => ?_) (fun h9 => absurd rfl h9)
  exact K σ2 _ _ hW hR2
set_option maxRecDepth 100000 in
set_option maxHeartbeats 4000000 in
theorem lc_5 {p : Program} {l : Launch} {e : Env} {s : State} {m : MethodId} {below : List Frame} {meth : Method} {c : Code} {b L : Nat} {xs : Nat → Int32} {G : Gm} {i : Nat} {σ : Sg} {H : Heap} {locs : List Loc} {ls : Array Slot} (E : EnvL p s m c b L xs G) (hi : i + 6 ≤ L) (hW : Ws G σ s.heap H locs) (hR : RLe 442 σ) (hl : lv_has ls 4 (LL b G i)) (K : ∀ σ H locs, Ws G σ s.heap H locs → RLe 442 σ → WL p l e s m b below meth c H locs 1222 ls []) : WL p l e s m b below meth c H locs 337 ls [] := by
  obtain ⟨C, hB, hk6, hk7, hX, hbl, hL⟩ := E
  have hbA : ¬ (fun q : Nat => gB G ≤ q) b := by show ¬ gB G ≤ b; rw [hB]; exact Nat.not_le.mpr hbl
  have hl : lv_has ls 4 [(0, .ref b), (1, .ref (gB G + 0)), (2, .ref (gB G + 442)), (3, .int (nI i))] := hl
  obtain ⟨t, t', ℓ, n, mm, bo, dr, lb, lf, sd, hRL⟩ := hR
  obtain ⟨r, σ1, σ2, f6, f7, hR2⟩ := ag_spare hRL (xs (nI i + 1).toNatClampNeg) (xs (nI i + 2).toNatClampNeg)
  have hR2 : RLe 442 σ2 := ⟨t, t', ℓ, n, mm, bo, dr, lb, lf, sd, hR2⟩
  refine lv_aload_n C.1.1 C.1.2.1 dL_law_337 rfl (lv_at hl 1 rfl) ?_
  refine lv_aload_n C.1.1 C.1.2.1 dL_law_338 rfl (lv_at hl 0 rfl) ?_
  refine lv_iload_n C.1.1 C.1.2.1 dL_law_339 rfl (lv_at hl 3 rfl) ?_
  refine lv_iconst (v := 1) C.1.1 C.1.2.1 dL_law_340 (by decide) ?_
  refine lv_iadd C.1.1 C.1.2.1 dL_law_341 ?_
  refine va_sld C.1.1 C.1.2.1 hX hbl hbA hW.2 (vin_j (j := 1) rfl (by omega) hi hL) dL_law_342 ?_
  refine lv_aload_n C.1.1 C.1.2.1 dL_law_343 rfl (lv_at hl 0 rfl) ?_
  refine lv_iload_n C.1.1 C.1.2.1 dL_law_344 rfl (lv_at hl 3 rfl) ?_
  refine lv_iconst (v := 2) C.1.1 C.1.2.1 dL_law_345 (by decide) ?_
  refine lv_iadd C.1.1 C.1.2.1 dL_law_346 ?_
  refine va_sld C.1.1 C.1.2.1 hX hbl hbA hW.2 (vin_j (j := 2) rfl (by omega) hi hL) dL_law_347 ?_
  refine cVi C hW (mX6_spare hk6 f6) hk6 kvX6_spare w_710 ⟨(Nat.le_of_ble_eq_true rfl), (Nat.le_of_ble_eq_true rfl)⟩ ⟨(Nat.le_of_ble_eq_true rfl), (Nat.le_of_ble_eq_true rfl)⟩ rfl hl.1 (rest := []) rfl (Nat.le_of_ble_eq_true rfl) dL_law_348 (fun H locs hok hW => ?_)
  refine lv_aload_n C.1.1 C.1.2.1 dL_law_351 rfl (lv_at hl 2 rfl) ?_
  refine lv_aload_n C.1.1 C.1.2.1 dL_law_352 rfl (lv_at hl 0 rfl) ?_
  refine lv_iload_n C.1.1 C.1.2.1 dL_law_353 rfl (lv_at hl 3 rfl) ?_
  refine lv_iconst (v := 1) C.1.1 C.1.2.1 dL_law_354 (by decide) ?_
  refine lv_iadd C.1.1 C.1.2.1 dL_law_355 ?_
  refine va_sld C.1.1 C.1.2.1 hX hbl hbA hW.2 (vin_j (j := 1) rfl (by omega) hi hL) dL_law_356 ?_
  refine lv_aload_n C.1.1 C.1.2.1 dL_law_357 rfl (lv_at hl 0 rfl) ?_
  refine lv_iload_n C.1.1 C.1.2.1 dL_law_358 rfl (lv_at hl 3 rfl) ?_
  refine lv_iconst (v := 2) C.1.1 C.1.2.1 dL_law_359 (by decide) ?_
  refine lv_iadd C.1.1 C.1.2.1 dL_law_360 ?_
  refine va_sld C.1.1 C.1.2.1 hX hbl hbA hW.2 (vin_j (j := 2) rfl (by omega) hi hL) dL_law_361 ?_
  refine cVi C hW (mX7_spare hk7 f7) hk7 kvX7_spare w_1388 ⟨(Nat.le_of_ble_eq_true rfl), (Nat.le_of_ble_eq_true rfl)⟩ ⟨(Nat.le_of_ble_eq_true rfl), (Nat.le_of_ble_eq_true rfl)⟩ rfl hl.1 (rest := [.int r]) rfl (Nat.le_of_ble_eq_true rfl) dL_law_362 (fun H locs hok hW => ?_)
  refine lv_icmp_eq (tgt := 1222) C.1.1 C.1.2.1 dL_law_365 (by decide) (fun h9 => ?_) (fun h9 => absurd rfl h9)
  exact K σ2 _ _ hW hR2
set_option maxRecDepth 100000 in
set_option maxHeartbeats 4000000 in
theorem lc_6 {p : Program} {l : Launch} {e : Env} {s : State} {m : MethodId} {below : List Frame} {meth : Method} {c : Code} {b L : Nat} {xs : Nat → Int32} {G : Gm} {i : Nat} {σ : Sg} {H : Heap} {locs : List Loc} {ls : Array Slot} (E : EnvL p s m c b L xs G) (hi : i + 6 ≤ L) (hW : Ws G σ s.heap H locs) (hR : RLe 442 σ) (hl : lv_has ls 4 (LL b G i)) (K : ∀ σ H locs, Ws G σ s.heap H locs → RLe 442 σ → WL p l e s m b below meth c H locs 1222 ls []) : WL p l e s m b below meth c H locs 370 ls [] := by
  obtain ⟨C, hB, hk6, hk7, hX, hbl, hL⟩ := E
  have hbA : ¬ (fun q : Nat => gB G ≤ q) b := by show ¬ gB G ≤ b; rw [hB]; exact Nat.not_le.mpr hbl
  have hl : lv_has ls 4 [(0, .ref b), (1, .ref (gB G + 0)), (2, .ref (gB G + 442)), (3, .int (nI i))] := hl
  obtain ⟨t, t', ℓ, n, mm, bo, dr, lb, lf, sd, hRL⟩ := hR
  obtain ⟨r, σ1, σ2, f6, f7, hR2⟩ := ag_lets hRL (xs (nI i + 1).toNatClampNeg) (xs (nI i + 2).toNatClampNeg)
  have hR2 : RLe 442 σ2 := ⟨t, t', ℓ, n, mm, bo, dr, lb, lf, sd, hR2⟩
  refine lv_aload_n C.1.1 C.1.2.1 dL_law_370 rfl (lv_at hl 1 rfl) ?_
  refine lv_aload_n C.1.1 C.1.2.1 dL_law_371 rfl (lv_at hl 0 rfl) ?_
  refine lv_iload_n C.1.1 C.1.2.1 dL_law_372 rfl (lv_at hl 3 rfl) ?_
  refine lv_iconst (v := 1) C.1.1 C.1.2.1 dL_law_373 (by decide) ?_
  refine lv_iadd C.1.1 C.1.2.1 dL_law_374 ?_
  refine va_sld C.1.1 C.1.2.1 hX hbl hbA hW.2 (vin_j (j := 1) rfl (by omega) hi hL) dL_law_375 ?_
  refine lv_aload_n C.1.1 C.1.2.1 dL_law_376 rfl (lv_at hl 0 rfl) ?_
  refine lv_iload_n C.1.1 C.1.2.1 dL_law_377 rfl (lv_at hl 3 rfl) ?_
  refine lv_iconst (v := 2) C.1.1 C.1.2.1 dL_law_378 (by decide) ?_
  refine lv_iadd C.1.1 C.1.2.1 dL_law_379 ?_
  refine va_sld C.1.1 C.1.2.1 hX hbl hbA hW.2 (vin_j (j := 2) rfl (by omega) hi hL) dL_law_380 ?_
  refine cVi C hW (mX6_lets hk6 f6) hk6 kvX6_lets w_718 ⟨(Nat.le_of_ble_eq_true rfl), (Nat.le_of_ble_eq_true rfl)⟩ ⟨(Nat.le_of_ble_eq_true rfl), (Nat.le_of_ble_eq_true rfl)⟩ rfl hl.1 (rest := []) rfl (Nat.le_of_ble_eq_true rfl) dL_law_381 (fun H locs hok hW => ?_)
  refine lv_aload_n C.1.1 C.1.2.1 dL_law_384 rfl (lv_at hl 2 rfl) ?_
  refine lv_aload_n C.1.1 C.1.2.1 dL_law_385 rfl (lv_at hl 0 rfl) ?_
  refine lv_iload_n C.1.1 C.1.2.1 dL_law_386 rfl (lv_at hl 3 rfl) ?_
  refine lv_iconst (v := 1) C.1.1 C.1.2.1 dL_law_387 (by decide) ?_
  refine lv_iadd C.1.1 C.1.2.1 dL_law_388 ?_
  refine va_sld C.1.1 C.1.2.1 hX hbl hbA hW.2 (vin_j (j := 1) rfl (by omega) hi hL) dL_law_389 ?_
  refine lv_aload_n C.1.1 C.1.2.1 dL_law_390 rfl (lv_at hl 0 rfl) ?_
  refine lv_iload_n C.1.1 C.1.2.1 dL_law_391 rfl (lv_at hl 3 rfl) ?_
  refine lv_iconst (v := 2) C.1.1 C.1.2.1 dL_law_392 (by decide) ?_
  refine lv_iadd C.1.1 C.1.2.1 dL_law_393 ?_
  refine va_sld C.1.1 C.1.2.1 hX hbl hbA hW.2 (vin_j (j := 2) rfl (by omega) hi hL) dL_law_394 ?_
  refine cVi C hW (mX7_lets hk7 f7) hk7 kvX7_lets w_1396 ⟨(Nat.le_of_ble_eq_true rfl), (Nat.le_of_ble_eq_true rfl)⟩ ⟨(Nat.le_of_ble_eq_true rfl), (Nat.le_of_ble_eq_true rfl)⟩ rfl hl.1 (rest := [.int r]) rfl (Nat.le_of_ble_eq_true rfl) dL_law_395 (fun H locs hok hW => ?_)
  refine lv_icmp_eq (tgt := 1222) C.1.1 C.1.2.1 dL_law_398 (by decide) (fun h9 => ?_) (fun h9 => absurd rfl h9)
  exact K σ2 _ _ hW hR2
set_option maxRecDepth 100000 in
set_option maxHeartbeats 4000000 in
theorem lc_7 {p : Program} {l : Launch} {e : Env} {s : State} {m : MethodId} {below : List Frame} {meth : Method} {c : Code} {b L : Nat} {xs : Nat → Int32} {G : Gm} {i : Nat} {σ : Sg} {H : Heap} {locs : List Loc} {ls : Array Slot} (E : EnvL p s m c b L xs G) (hi : i + 6 ≤ L) (hW : Ws G σ s.heap H locs) (hR : RLe 442 σ) (hl : lv_has ls 4 (LL b G i)) (K : ∀ σ H locs, Ws G σ s.heap H locs → RLe 442 σ → WL p l e s m b below meth c H locs 1222 ls []) : WL p l e s m b below meth c H locs 403 ls [] := by
  obtain ⟨C, hB, hk6, hk7, hX, hbl, hL⟩ := E
  have hbA : ¬ (fun q : Nat => gB G ≤ q) b := by show ¬ gB G ≤ b; rw [hB]; exact Nat.not_le.mpr hbl
  have hl : lv_has ls 4 [(0, .ref b), (1, .ref (gB G + 0)), (2, .ref (gB G + 442)), (3, .int (nI i))] := hl
  obtain ⟨t, t', ℓ, n, mm, bo, dr, lb, lf, sd, hRL⟩ := hR
  by_cases hz : (xs (nI i + 2).toNatClampNeg) = 0
  · obtain ⟨r, σ1, σ2, f6, f7, hR2⟩ := ag_keep hRL (xs (nI i + 1).toNatClampNeg) 0 (Or.inl rfl)
    have hR2 : RLe 442 σ2 := ⟨t, t', ℓ, n, mm, bo, dr, lb, lf, sd, hR2⟩
    refine lv_aload_n C.1.1 C.1.2.1 dL_law_403 rfl (lv_at hl 1 rfl) ?_
    refine lv_aload_n C.1.1 C.1.2.1 dL_law_404 rfl (lv_at hl 0 rfl) ?_
    refine lv_iload_n C.1.1 C.1.2.1 dL_law_405 rfl (lv_at hl 3 rfl) ?_
    refine lv_iconst (v := 1) C.1.1 C.1.2.1 dL_law_406 (by decide) ?_
    refine lv_iadd C.1.1 C.1.2.1 dL_law_407 ?_
    refine va_sld C.1.1 C.1.2.1 hX hbl hbA hW.2 (vin_j (j := 1) rfl (by omega) hi hL) dL_law_408 ?_
    refine lv_aload_n C.1.1 C.1.2.1 dL_law_409 rfl (lv_at hl 0 rfl) ?_
    refine lv_iload_n C.1.1 C.1.2.1 dL_law_410 rfl (lv_at hl 3 rfl) ?_
    refine lv_iconst (v := 2) C.1.1 C.1.2.1 dL_law_411 (by decide) ?_
    refine lv_iadd C.1.1 C.1.2.1 dL_law_412 ?_
    refine va_sld C.1.1 C.1.2.1 hX hbl hbA hW.2 (vin_j (j := 2) rfl (by omega) hi hL) dL_law_413 ?_
    refine lv_if_eq (tgt := 421) C.1.1 C.1.2.1 dL_law_414 (by decide) (fun h9 => ?_) (fun h9 => absurd hz h9)
    refine lv_iconst (v := 0) C.1.1 C.1.2.1 dL_law_421 (by decide) ?_
    refine cVi C hW (mX6_keep hk6 f6) hk6 kvX6_keep w_772 ⟨(Nat.le_of_ble_eq_true rfl), (Nat.le_of_ble_eq_true rfl)⟩ ⟨(Nat.le_of_ble_eq_true rfl), (Nat.le_of_ble_eq_true rfl)⟩ rfl hl.1 (rest := []) rfl (Nat.le_of_ble_eq_true rfl) dL_law_422 (fun H locs hok hW => ?_)
    refine lv_aload_n C.1.1 C.1.2.1 dL_law_425 rfl (lv_at hl 2 rfl) ?_
    refine lv_aload_n C.1.1 C.1.2.1 dL_law_426 rfl (lv_at hl 0 rfl) ?_
    refine lv_iload_n C.1.1 C.1.2.1 dL_law_427 rfl (lv_at hl 3 rfl) ?_
    refine lv_iconst (v := 1) C.1.1 C.1.2.1 dL_law_428 (by decide) ?_
    refine lv_iadd C.1.1 C.1.2.1 dL_law_429 ?_
    refine va_sld C.1.1 C.1.2.1 hX hbl hbA hW.2 (vin_j (j := 1) rfl (by omega) hi hL) dL_law_430 ?_
    refine lv_aload_n C.1.1 C.1.2.1 dL_law_431 rfl (lv_at hl 0 rfl) ?_
    refine lv_iload_n C.1.1 C.1.2.1 dL_law_432 rfl (lv_at hl 3 rfl) ?_
    refine lv_iconst (v := 2) C.1.1 C.1.2.1 dL_law_433 (by decide) ?_
    refine lv_iadd C.1.1 C.1.2.1 dL_law_434 ?_
    refine va_sld C.1.1 C.1.2.1 hX hbl hbA hW.2 (vin_j (j := 2) rfl (by omega) hi hL) dL_law_435 ?_
    refine lv_if_eq (tgt := 443) C.1.1 C.1.2.1 dL_law_436 (by decide) (fun h9 => ?_) (fun h9 => absurd hz h9)
    refine lv_iconst (v := 0) C.1.1 C.1.2.1 dL_law_443 (by decide) ?_
    refine cVi C hW (mX7_keep hk7 f7) hk7 kvX7_keep w_1404 ⟨(Nat.le_of_ble_eq_true rfl), (Nat.le_of_ble_eq_true rfl)⟩ ⟨(Nat.le_of_ble_eq_true rfl), (Nat.le_of_ble_eq_true rfl)⟩ rfl hl.1 (rest := [.int r]) rfl (Nat.le_of_ble_eq_true rfl) dL_law_444 (fun H locs hok hW => ?_)
    refine lv_icmp_eq (tgt := 1222) C.1.1 C.1.2.1 dL_law_447 (by decide) (fun h9 => ?_) (fun h9 => absurd rfl h9)
    exact K σ2 _ _ hW hR2
  · obtain ⟨r, σ1, σ2, f6, f7, hR2⟩ := ag_keep hRL (xs (nI i + 1).toNatClampNeg) 1 (Or.inr rfl)
    have hR2 : RLe 442 σ2 := ⟨t, t', ℓ, n, mm, bo, dr, lb, lf, sd, hR2⟩
    refine lv_aload_n C.1.1 C.1.2.1 dL_law_403 rfl (lv_at hl 1 rfl) ?_
    refine lv_aload_n C.1.1 C.1.2.1 dL_law_404 rfl (lv_at hl 0 rfl) ?_
    refine lv_iload_n C.1.1 C.1.2.1 dL_law_405 rfl (lv_at hl 3 rfl) ?_
    refine lv_iconst (v := 1) C.1.1 C.1.2.1 dL_law_406 (by decide) ?_
    refine lv_iadd C.1.1 C.1.2.1 dL_law_407 ?_
    refine va_sld C.1.1 C.1.2.1 hX hbl hbA hW.2 (vin_j (j := 1) rfl (by omega) hi hL) dL_law_408 ?_
    refine lv_aload_n C.1.1 C.1.2.1 dL_law_409 rfl (lv_at hl 0 rfl) ?_
    refine lv_iload_n C.1.1 C.1.2.1 dL_law_410 rfl (lv_at hl 3 rfl) ?_
    refine lv_iconst (v := 2) C.1.1 C.1.2.1 dL_law_411 (by decide) ?_
    refine lv_iadd C.1.1 C.1.2.1 dL_law_412 ?_
    refine va_sld C.1.1 C.1.2.1 hX hbl hbA hW.2 (vin_j (j := 2) rfl (by omega) hi hL) dL_law_413 ?_
    refine lv_if_eq (tgt := 421) C.1.1 C.1.2.1 dL_law_414 (by decide) (fun h9 => absurd h9 hz) (fun h9 => ?_)
    refine lv_iconst (v := 1) C.1.1 C.1.2.1 dL_law_417 (by decide) ?_
    refine lv_goto (tgt := 422) C.1.1 C.1.2.1 dL_law_418 (by decide) ?_
    refine cVi C hW (mX6_keep hk6 f6) hk6 kvX6_keep w_772 ⟨(Nat.le_of_ble_eq_true rfl), (Nat.le_of_ble_eq_true rfl)⟩ ⟨(Nat.le_of_ble_eq_true rfl), (Nat.le_of_ble_eq_true rfl)⟩ rfl hl.1 (rest := []) rfl (Nat.le_of_ble_eq_true rfl) dL_law_422 (fun H locs hok hW => ?_)
    refine lv_aload_n C.1.1 C.1.2.1 dL_law_425 rfl (lv_at hl 2 rfl) ?_
    refine lv_aload_n C.1.1 C.1.2.1 dL_law_426 rfl (lv_at hl 0 rfl) ?_
    refine lv_iload_n C.1.1 C.1.2.1 dL_law_427 rfl (lv_at hl 3 rfl) ?_
    refine lv_iconst (v := 1) C.1.1 C.1.2.1 dL_law_428 (by decide) ?_
    refine lv_iadd C.1.1 C.1.2.1 dL_law_429 ?_
    refine va_sld C.1.1 C.1.2.1 hX hbl hbA hW.2 (vin_j (j := 1) rfl (by omega) hi hL) dL_law_430 ?_
    refine lv_aload_n C.1.1 C.1.2.1 dL_law_431 rfl (lv_at hl 0 rfl) ?_
    refine lv_iload_n C.1.1 C.1.2.1 dL_law_432 rfl (lv_at hl 3 rfl) ?_
    refine lv_iconst (v := 2) C.1.1 C.1.2.1 dL_law_433 (by decide) ?_
    refine lv_iadd C.1.1 C.1.2.1 dL_law_434 ?_
    refine va_sld C.1.1 C.1.2.1 hX hbl hbA hW.2 (vin_j (j := 2) rfl (by omega) hi hL) dL_law_435 ?_
    refine lv_if_eq (tgt := 443) C.1.1 C.1.2.1 dL_law_436 (by decide) (fun h9 => absurd h9 hz) (fun h9 => ?_)
    refine lv_iconst (v := 1) C.1.1 C.1.2.1 dL_law_439 (by decide) ?_
    refine lv_goto (tgt := 444) C.1.1 C.1.2.1 dL_law_440 (by decide) ?_
    refine cVi C hW (mX7_keep hk7 f7) hk7 kvX7_keep w_1404 ⟨(Nat.le_of_ble_eq_true rfl), (Nat.le_of_ble_eq_true rfl)⟩ ⟨(Nat.le_of_ble_eq_true rfl), (Nat.le_of_ble_eq_true rfl)⟩ rfl hl.1 (rest := [.int r]) rfl (Nat.le_of_ble_eq_true rfl) dL_law_444 (fun H locs hok hW => ?_)
    refine lv_icmp_eq (tgt := 1222) C.1.1 C.1.2.1 dL_law_447 (by decide) (fun h9 => ?_) (fun h9 => absurd rfl h9)
    exact K σ2 _ _ hW hR2
set_option maxRecDepth 100000 in
set_option maxHeartbeats 4000000 in
theorem lc_8 {p : Program} {l : Launch} {e : Env} {s : State} {m : MethodId} {below : List Frame} {meth : Method} {c : Code} {b L : Nat} {xs : Nat → Int32} {G : Gm} {i : Nat} {σ : Sg} {H : Heap} {locs : List Loc} {ls : Array Slot} (E : EnvL p s m c b L xs G) (hi : i + 6 ≤ L) (hW : Ws G σ s.heap H locs) (hR : RLe 442 σ) (hl : lv_has ls 4 (LL b G i)) (K : ∀ σ H locs, Ws G σ s.heap H locs → RLe 442 σ → WL p l e s m b below meth c H locs 1222 ls []) : WL p l e s m b below meth c H locs 452 ls [] := by
  obtain ⟨C, hB, hk6, hk7, hX, hbl, hL⟩ := E
  have hbA : ¬ (fun q : Nat => gB G ≤ q) b := by show ¬ gB G ≤ b; rw [hB]; exact Nat.not_le.mpr hbl
  have hl : lv_has ls 4 [(0, .ref b), (1, .ref (gB G + 0)), (2, .ref (gB G + 442)), (3, .int (nI i))] := hl
  obtain ⟨t, t', ℓ, n, mm, bo, dr, lb, lf, sd, hRL⟩ := hR
  obtain ⟨r, σ1, σ2, f6, f7, hR2⟩ := ag_pass hRL (xs (nI i + 1).toNatClampNeg) (xs (nI i + 2).toNatClampNeg)
  have hR2 : RLe 442 σ2 := ⟨t, t', ℓ, n, mm, bo, dr, lb, lf, sd, hR2⟩
  refine lv_aload_n C.1.1 C.1.2.1 dL_law_452 rfl (lv_at hl 1 rfl) ?_
  refine lv_aload_n C.1.1 C.1.2.1 dL_law_453 rfl (lv_at hl 0 rfl) ?_
  refine lv_iload_n C.1.1 C.1.2.1 dL_law_454 rfl (lv_at hl 3 rfl) ?_
  refine lv_iconst (v := 1) C.1.1 C.1.2.1 dL_law_455 (by decide) ?_
  refine lv_iadd C.1.1 C.1.2.1 dL_law_456 ?_
  refine va_sld C.1.1 C.1.2.1 hX hbl hbA hW.2 (vin_j (j := 1) rfl (by omega) hi hL) dL_law_457 ?_
  refine lv_aload_n C.1.1 C.1.2.1 dL_law_458 rfl (lv_at hl 0 rfl) ?_
  refine lv_iload_n C.1.1 C.1.2.1 dL_law_459 rfl (lv_at hl 3 rfl) ?_
  refine lv_iconst (v := 2) C.1.1 C.1.2.1 dL_law_460 (by decide) ?_
  refine lv_iadd C.1.1 C.1.2.1 dL_law_461 ?_
  refine va_sld C.1.1 C.1.2.1 hX hbl hbA hW.2 (vin_j (j := 2) rfl (by omega) hi hL) dL_law_462 ?_
  refine cVi C hW (mX6_pass hk6 f6) hk6 kvX6_pass w_785 ⟨(Nat.le_of_ble_eq_true rfl), (Nat.le_of_ble_eq_true rfl)⟩ ⟨(Nat.le_of_ble_eq_true rfl), (Nat.le_of_ble_eq_true rfl)⟩ rfl hl.1 (rest := []) rfl (Nat.le_of_ble_eq_true rfl) dL_law_463 (fun H locs hok hW => ?_)
  refine lv_aload_n C.1.1 C.1.2.1 dL_law_466 rfl (lv_at hl 2 rfl) ?_
  refine lv_aload_n C.1.1 C.1.2.1 dL_law_467 rfl (lv_at hl 0 rfl) ?_
  refine lv_iload_n C.1.1 C.1.2.1 dL_law_468 rfl (lv_at hl 3 rfl) ?_
  refine lv_iconst (v := 1) C.1.1 C.1.2.1 dL_law_469 (by decide) ?_
  refine lv_iadd C.1.1 C.1.2.1 dL_law_470 ?_
  refine va_sld C.1.1 C.1.2.1 hX hbl hbA hW.2 (vin_j (j := 1) rfl (by omega) hi hL) dL_law_471 ?_
  refine lv_aload_n C.1.1 C.1.2.1 dL_law_472 rfl (lv_at hl 0 rfl) ?_
  refine lv_iload_n C.1.1 C.1.2.1 dL_law_473 rfl (lv_at hl 3 rfl) ?_
  refine lv_iconst (v := 2) C.1.1 C.1.2.1 dL_law_474 (by decide) ?_
  refine lv_iadd C.1.1 C.1.2.1 dL_law_475 ?_
  refine va_sld C.1.1 C.1.2.1 hX hbl hbA hW.2 (vin_j (j := 2) rfl (by omega) hi hL) dL_law_476 ?_
  refine cVi C hW (mX7_pass hk7 f7) hk7 kvX7_pass w_1412 ⟨(Nat.le_of_ble_eq_true rfl), (Nat.le_of_ble_eq_true rfl)⟩ ⟨(Nat.le_of_ble_eq_true rfl), (Nat.le_of_ble_eq_true rfl)⟩ rfl hl.1 (rest := [.int r]) rfl (Nat.le_of_ble_eq_true rfl) dL_law_477 (fun H locs hok hW => ?_)
  refine lv_icmp_eq (tgt := 1222) C.1.1 C.1.2.1 dL_law_480 (by decide) (fun h9 => ?_) (fun h9 => absurd rfl h9)
  exact K σ2 _ _ hW hR2
set_option maxRecDepth 100000 in
set_option maxHeartbeats 4000000 in
theorem lc_9 {p : Program} {l : Launch} {e : Env} {s : State} {m : MethodId} {below : List Frame} {meth : Method} {c : Code} {b L : Nat} {xs : Nat → Int32} {G : Gm} {i : Nat} {σ : Sg} {H : Heap} {locs : List Loc} {ls : Array Slot} (E : EnvL p s m c b L xs G) (hi : i + 6 ≤ L) (hW : Ws G σ s.heap H locs) (hR : RLe 442 σ) (hl : lv_has ls 4 (LL b G i)) (K : ∀ σ H locs, Ws G σ s.heap H locs → RLe 442 σ → WL p l e s m b below meth c H locs 1222 ls []) : WL p l e s m b below meth c H locs 485 ls [] := by
  obtain ⟨C, hB, hk6, hk7, hX, hbl, hL⟩ := E
  have hbA : ¬ (fun q : Nat => gB G ≤ q) b := by show ¬ gB G ≤ b; rw [hB]; exact Nat.not_le.mpr hbl
  have hl : lv_has ls 4 [(0, .ref b), (1, .ref (gB G + 0)), (2, .ref (gB G + 442)), (3, .int (nI i))] := hl
  obtain ⟨t, t', ℓ, n, mm, bo, dr, lb, lf, sd, hRL⟩ := hR
  obtain ⟨r, σ1, σ2, f6, f7, hR2⟩ := ag_change hRL (xs (nI i + 1).toNatClampNeg) (xs (nI i + 2).toNatClampNeg)
  have hR2 : RLe 442 σ2 := ⟨t, t', ℓ, n, mm, bo, dr, lb, lf, sd, hR2⟩
  refine lv_aload_n C.1.1 C.1.2.1 dL_law_485 rfl (lv_at hl 1 rfl) ?_
  refine lv_aload_n C.1.1 C.1.2.1 dL_law_486 rfl (lv_at hl 0 rfl) ?_
  refine lv_iload_n C.1.1 C.1.2.1 dL_law_487 rfl (lv_at hl 3 rfl) ?_
  refine lv_iconst (v := 1) C.1.1 C.1.2.1 dL_law_488 (by decide) ?_
  refine lv_iadd C.1.1 C.1.2.1 dL_law_489 ?_
  refine va_sld C.1.1 C.1.2.1 hX hbl hbA hW.2 (vin_j (j := 1) rfl (by omega) hi hL) dL_law_490 ?_
  refine lv_aload_n C.1.1 C.1.2.1 dL_law_491 rfl (lv_at hl 0 rfl) ?_
  refine lv_iload_n C.1.1 C.1.2.1 dL_law_492 rfl (lv_at hl 3 rfl) ?_
  refine lv_iconst (v := 2) C.1.1 C.1.2.1 dL_law_493 (by decide) ?_
  refine lv_iadd C.1.1 C.1.2.1 dL_law_494 ?_
  refine va_sld C.1.1 C.1.2.1 hX hbl hbA hW.2 (vin_j (j := 2) rfl (by omega) hi hL) dL_law_495 ?_
  refine cVi C hW (mX6_change hk6 f6) hk6 kvX6_change w_789 ⟨(Nat.le_of_ble_eq_true rfl), (Nat.le_of_ble_eq_true rfl)⟩ ⟨(Nat.le_of_ble_eq_true rfl), (Nat.le_of_ble_eq_true rfl)⟩ rfl hl.1 (rest := []) rfl (Nat.le_of_ble_eq_true rfl) dL_law_496 (fun H locs hok hW => ?_)
  refine lv_aload_n C.1.1 C.1.2.1 dL_law_499 rfl (lv_at hl 2 rfl) ?_
  refine lv_aload_n C.1.1 C.1.2.1 dL_law_500 rfl (lv_at hl 0 rfl) ?_
  refine lv_iload_n C.1.1 C.1.2.1 dL_law_501 rfl (lv_at hl 3 rfl) ?_
  refine lv_iconst (v := 1) C.1.1 C.1.2.1 dL_law_502 (by decide) ?_
  refine lv_iadd C.1.1 C.1.2.1 dL_law_503 ?_
  refine va_sld C.1.1 C.1.2.1 hX hbl hbA hW.2 (vin_j (j := 1) rfl (by omega) hi hL) dL_law_504 ?_
  refine lv_aload_n C.1.1 C.1.2.1 dL_law_505 rfl (lv_at hl 0 rfl) ?_
  refine lv_iload_n C.1.1 C.1.2.1 dL_law_506 rfl (lv_at hl 3 rfl) ?_
  refine lv_iconst (v := 2) C.1.1 C.1.2.1 dL_law_507 (by decide) ?_
  refine lv_iadd C.1.1 C.1.2.1 dL_law_508 ?_
  refine va_sld C.1.1 C.1.2.1 hX hbl hbA hW.2 (vin_j (j := 2) rfl (by omega) hi hL) dL_law_509 ?_
  refine cVi C hW (mX7_change hk7 f7) hk7 kvX7_change w_1416 ⟨(Nat.le_of_ble_eq_true rfl), (Nat.le_of_ble_eq_true rfl)⟩ ⟨(Nat.le_of_ble_eq_true rfl), (Nat.le_of_ble_eq_true rfl)⟩ rfl hl.1 (rest := [.int r]) rfl (Nat.le_of_ble_eq_true rfl) dL_law_510 (fun H locs hok hW => ?_)
  refine lv_icmp_eq (tgt := 1222) C.1.1 C.1.2.1 dL_law_513 (by decide) (fun h9 => ?_) (fun h9 => absurd rfl h9)
  exact K σ2 _ _ hW hR2
set_option maxRecDepth 100000 in
set_option maxHeartbeats 4000000 in
theorem lc_10 {p : Program} {l : Launch} {e : Env} {s : State} {m : MethodId} {below : List Frame} {meth : Method} {c : Code} {b L : Nat} {xs : Nat → Int32} {G : Gm} {i : Nat} {σ : Sg} {H : Heap} {locs : List Loc} {ls : Array Slot} (E : EnvL p s m c b L xs G) (hi : i + 6 ≤ L) (hW : Ws G σ s.heap H locs) (hR : RLe 442 σ) (hl : lv_has ls 4 (LL b G i)) (K : ∀ σ H locs, Ws G σ s.heap H locs → RLe 442 σ → WL p l e s m b below meth c H locs 1222 ls []) : WL p l e s m b below meth c H locs 518 ls [] := by
  obtain ⟨C, hB, hk6, hk7, hX, hbl, hL⟩ := E
  have hbA : ¬ (fun q : Nat => gB G ≤ q) b := by show ¬ gB G ≤ b; rw [hB]; exact Nat.not_le.mpr hbl
  have hl : lv_has ls 4 [(0, .ref b), (1, .ref (gB G + 0)), (2, .ref (gB G + 442)), (3, .int (nI i))] := hl
  obtain ⟨t, t', ℓ, n, mm, bo, dr, lb, lf, sd, hRL⟩ := hR
  obtain ⟨r, σ1, σ2, f6, f7, hR2⟩ := ag_hours hRL (xs (nI i + 1).toNatClampNeg)
  have hR2 : RLe 442 σ2 := ⟨t, t', ℓ, n, mm, bo, dr, lb, lf, sd, hR2⟩
  refine lv_aload_n C.1.1 C.1.2.1 dL_law_518 rfl (lv_at hl 1 rfl) ?_
  refine lv_aload_n C.1.1 C.1.2.1 dL_law_519 rfl (lv_at hl 0 rfl) ?_
  refine lv_iload_n C.1.1 C.1.2.1 dL_law_520 rfl (lv_at hl 3 rfl) ?_
  refine lv_iconst (v := 1) C.1.1 C.1.2.1 dL_law_521 (by decide) ?_
  refine lv_iadd C.1.1 C.1.2.1 dL_law_522 ?_
  refine va_sld C.1.1 C.1.2.1 hX hbl hbA hW.2 (vin_j (j := 1) rfl (by omega) hi hL) dL_law_523 ?_
  refine cVi C hW (mX6_hours hk6 f6) hk6 kvX6_hours w_804 ⟨(Nat.le_of_ble_eq_true rfl), (Nat.le_of_ble_eq_true rfl)⟩ ⟨(Nat.le_of_ble_eq_true rfl), (Nat.le_of_ble_eq_true rfl)⟩ rfl hl.1 (rest := []) rfl (Nat.le_of_ble_eq_true rfl) dL_law_524 (fun H locs hok hW => ?_)
  refine lv_aload_n C.1.1 C.1.2.1 dL_law_527 rfl (lv_at hl 2 rfl) ?_
  refine lv_aload_n C.1.1 C.1.2.1 dL_law_528 rfl (lv_at hl 0 rfl) ?_
  refine lv_iload_n C.1.1 C.1.2.1 dL_law_529 rfl (lv_at hl 3 rfl) ?_
  refine lv_iconst (v := 1) C.1.1 C.1.2.1 dL_law_530 (by decide) ?_
  refine lv_iadd C.1.1 C.1.2.1 dL_law_531 ?_
  refine va_sld C.1.1 C.1.2.1 hX hbl hbA hW.2 (vin_j (j := 1) rfl (by omega) hi hL) dL_law_532 ?_
  refine cVi C hW (mX7_hours hk7 f7) hk7 kvX7_hours w_1428 ⟨(Nat.le_of_ble_eq_true rfl), (Nat.le_of_ble_eq_true rfl)⟩ ⟨(Nat.le_of_ble_eq_true rfl), (Nat.le_of_ble_eq_true rfl)⟩ rfl hl.1 (rest := [.int r]) rfl (Nat.le_of_ble_eq_true rfl) dL_law_533 (fun H locs hok hW => ?_)
  refine lv_icmp_eq (tgt := 1222) C.1.1 C.1.2.1 dL_law_536 (by decide) (fun h9 => ?_) (fun h9 => absurd rfl h9)
  exact K σ2 _ _ hW hR2
set_option maxRecDepth 100000 in
set_option maxHeartbeats 4000000 in
theorem lc_11 {p : Program} {l : Launch} {e : Env} {s : State} {m : MethodId} {below : List Frame} {meth : Method} {c : Code} {b L : Nat} {xs : Nat → Int32} {G : Gm} {i : Nat} {σ : Sg} {H : Heap} {locs : List Loc} {ls : Array Slot} (E : EnvL p s m c b L xs G) (hi : i + 6 ≤ L) (hW : Ws G σ s.heap H locs) (hR : RLe 442 σ) (hl : lv_has ls 4 (LL b G i)) (K : ∀ σ H locs, Ws G σ s.heap H locs → RLe 442 σ → WL p l e s m b below meth c H locs 1222 ls []) : WL p l e s m b below meth c H locs 541 ls [] := by
  obtain ⟨C, hB, hk6, hk7, hX, hbl, hL⟩ := E
  have hbA : ¬ (fun q : Nat => gB G ≤ q) b := by show ¬ gB G ≤ b; rw [hB]; exact Nat.not_le.mpr hbl
  have hl : lv_has ls 4 [(0, .ref b), (1, .ref (gB G + 0)), (2, .ref (gB G + 442)), (3, .int (nI i))] := hl
  obtain ⟨t, t', ℓ, n, mm, bo, dr, lb, lf, sd, hRL⟩ := hR
  obtain ⟨r, σ1, σ2, f6, f7, hR2⟩ := ag_undo hRL
  have hR2 : RLe 442 σ2 := ⟨t, t', ℓ, n, mm, bo, dr, lb, lf, sd, hR2⟩
  refine lv_aload_n C.1.1 C.1.2.1 dL_law_541 rfl (lv_at hl 1 rfl) ?_
  refine cVi C hW (mX6_undo hk6 f6) hk6 kvX6_undo w_854 ⟨(Nat.le_of_ble_eq_true rfl), (Nat.le_of_ble_eq_true rfl)⟩ ⟨(Nat.le_of_ble_eq_true rfl), (Nat.le_of_ble_eq_true rfl)⟩ rfl hl.1 (rest := []) rfl (Nat.le_of_ble_eq_true rfl) dL_law_542 (fun H locs hok hW => ?_)
  refine lv_aload_n C.1.1 C.1.2.1 dL_law_545 rfl (lv_at hl 2 rfl) ?_
  refine cVi C hW (mX7_undo hk7 f7) hk7 kvX7_undo w_1516 ⟨(Nat.le_of_ble_eq_true rfl), (Nat.le_of_ble_eq_true rfl)⟩ ⟨(Nat.le_of_ble_eq_true rfl), (Nat.le_of_ble_eq_true rfl)⟩ rfl hl.1 (rest := [.int r]) rfl (Nat.le_of_ble_eq_true rfl) dL_law_546 (fun H locs hok hW => ?_)
  refine lv_icmp_eq (tgt := 1222) C.1.1 C.1.2.1 dL_law_549 (by decide) (fun h9 => ?_) (fun h9 => absurd rfl h9)
  exact K σ2 _ _ hW hR2
set_option maxRecDepth 100000 in
set_option maxHeartbeats 4000000 in
theorem lc_12 {p : Program} {l : Launch} {e : Env} {s : State} {m : MethodId} {below : List Frame} {meth : Method} {c : Code} {b L : Nat} {xs : Nat → Int32} {G : Gm} {i : Nat} {σ : Sg} {H : Heap} {locs : List Loc} {ls : Array Slot} (E : EnvL p s m c b L xs G) (hi : i + 6 ≤ L) (hW : Ws G σ s.heap H locs) (hR : RLe 442 σ) (hl : lv_has ls 4 (LL b G i)) (K : ∀ σ H locs, Ws G σ s.heap H locs → RLe 442 σ → WL p l e s m b below meth c H locs 1222 ls []) : WL p l e s m b below meth c H locs 554 ls [] := by
  obtain ⟨C, hB, hk6, hk7, hX, hbl, hL⟩ := E
  have hbA : ¬ (fun q : Nat => gB G ≤ q) b := by show ¬ gB G ≤ b; rw [hB]; exact Nat.not_le.mpr hbl
  have hl : lv_has ls 4 [(0, .ref b), (1, .ref (gB G + 0)), (2, .ref (gB G + 442)), (3, .int (nI i))] := hl
  obtain ⟨t, t', ℓ, n, mm, bo, dr, lb, lf, sd, hRL⟩ := hR
  obtain ⟨r, σ1, σ2, f6, f7, hR2⟩ := ag_openers hRL (xs (nI i + 1).toNatClampNeg)
  have hR2 : RLe 442 σ2 := ⟨t, t', ℓ, n, mm, bo, dr, lb, lf, sd, hR2⟩
  refine lv_aload_n C.1.1 C.1.2.1 dL_law_554 rfl (lv_at hl 1 rfl) ?_
  refine lv_aload_n C.1.1 C.1.2.1 dL_law_555 rfl (lv_at hl 0 rfl) ?_
  refine lv_iload_n C.1.1 C.1.2.1 dL_law_556 rfl (lv_at hl 3 rfl) ?_
  refine lv_iconst (v := 1) C.1.1 C.1.2.1 dL_law_557 (by decide) ?_
  refine lv_iadd C.1.1 C.1.2.1 dL_law_558 ?_
  refine va_sld C.1.1 C.1.2.1 hX hbl hbA hW.2 (vin_j (j := 1) rfl (by omega) hi hL) dL_law_559 ?_
  refine cVi C hW (mX6_openers hk6 f6) hk6 kvX6_openers w_726 ⟨(Nat.le_of_ble_eq_true rfl), (Nat.le_of_ble_eq_true rfl)⟩ ⟨(Nat.le_of_ble_eq_true rfl), (Nat.le_of_ble_eq_true rfl)⟩ rfl hl.1 (rest := []) rfl (Nat.le_of_ble_eq_true rfl) dL_law_560 (fun H locs hok hW => ?_)
  refine lv_aload_n C.1.1 C.1.2.1 dL_law_563 rfl (lv_at hl 2 rfl) ?_
  refine lv_aload_n C.1.1 C.1.2.1 dL_law_564 rfl (lv_at hl 0 rfl) ?_
  refine lv_iload_n C.1.1 C.1.2.1 dL_law_565 rfl (lv_at hl 3 rfl) ?_
  refine lv_iconst (v := 1) C.1.1 C.1.2.1 dL_law_566 (by decide) ?_
  refine lv_iadd C.1.1 C.1.2.1 dL_law_567 ?_
  refine va_sld C.1.1 C.1.2.1 hX hbl hbA hW.2 (vin_j (j := 1) rfl (by omega) hi hL) dL_law_568 ?_
  refine cVi C hW (mX7_openers hk7 f7) hk7 kvX7_openers w_1520 ⟨(Nat.le_of_ble_eq_true rfl), (Nat.le_of_ble_eq_true rfl)⟩ ⟨(Nat.le_of_ble_eq_true rfl), (Nat.le_of_ble_eq_true rfl)⟩ rfl hl.1 (rest := [.int r]) rfl (Nat.le_of_ble_eq_true rfl) dL_law_569 (fun H locs hok hW => ?_)
  refine lv_icmp_eq (tgt := 1222) C.1.1 C.1.2.1 dL_law_572 (by decide) (fun h9 => ?_) (fun h9 => absurd rfl h9)
  exact K σ2 _ _ hW hR2
set_option maxRecDepth 100000 in
set_option maxHeartbeats 4000000 in
theorem lc_13 {p : Program} {l : Launch} {e : Env} {s : State} {m : MethodId} {below : List Frame} {meth : Method} {c : Code} {b L : Nat} {xs : Nat → Int32} {G : Gm} {i : Nat} {σ : Sg} {H : Heap} {locs : List Loc} {ls : Array Slot} (E : EnvL p s m c b L xs G) (hi : i + 6 ≤ L) (hW : Ws G σ s.heap H locs) (hR : RLe 442 σ) (hl : lv_has ls 4 (LL b G i)) (K : ∀ σ H locs, Ws G σ s.heap H locs → RLe 442 σ → WL p l e s m b below meth c H locs 1222 ls []) : WL p l e s m b below meth c H locs 577 ls [] := by
  obtain ⟨C, hB, hk6, hk7, hX, hbl, hL⟩ := E
  have hbA : ¬ (fun q : Nat => gB G ≤ q) b := by show ¬ gB G ≤ b; rw [hB]; exact Nat.not_le.mpr hbl
  have hl : lv_has ls 4 [(0, .ref b), (1, .ref (gB G + 0)), (2, .ref (gB G + 442)), (3, .int (nI i))] := hl
  obtain ⟨t, t', ℓ, n, mm, bo, dr, lb, lf, sd, hRL⟩ := hR
  obtain ⟨r, σ1, σ2, f6, f7, hR2⟩ := ag_stand hRL (xs (nI i + 1).toNatClampNeg) (xs (nI i + 2).toNatClampNeg)
  have hR2 : RLe 442 σ2 := ⟨t, t', ℓ, n, mm, bo, dr, lb, lf, sd, hR2⟩
  refine lv_aload_n C.1.1 C.1.2.1 dL_law_577 rfl (lv_at hl 1 rfl) ?_
  refine lv_aload_n C.1.1 C.1.2.1 dL_law_578 rfl (lv_at hl 0 rfl) ?_
  refine lv_iload_n C.1.1 C.1.2.1 dL_law_579 rfl (lv_at hl 3 rfl) ?_
  refine lv_iconst (v := 1) C.1.1 C.1.2.1 dL_law_580 (by decide) ?_
  refine lv_iadd C.1.1 C.1.2.1 dL_law_581 ?_
  refine va_sld C.1.1 C.1.2.1 hX hbl hbA hW.2 (vin_j (j := 1) rfl (by omega) hi hL) dL_law_582 ?_
  refine lv_aload_n C.1.1 C.1.2.1 dL_law_583 rfl (lv_at hl 0 rfl) ?_
  refine lv_iload_n C.1.1 C.1.2.1 dL_law_584 rfl (lv_at hl 3 rfl) ?_
  refine lv_iconst (v := 2) C.1.1 C.1.2.1 dL_law_585 (by decide) ?_
  refine lv_iadd C.1.1 C.1.2.1 dL_law_586 ?_
  refine va_sld C.1.1 C.1.2.1 hX hbl hbA hW.2 (vin_j (j := 2) rfl (by omega) hi hL) dL_law_587 ?_
  refine cVi C hW (mX6_stand hk6 f6) hk6 kvX6_stand w_869 ⟨(Nat.le_of_ble_eq_true rfl), (Nat.le_of_ble_eq_true rfl)⟩ ⟨(Nat.le_of_ble_eq_true rfl), (Nat.le_of_ble_eq_true rfl)⟩ rfl hl.1 (rest := []) rfl (Nat.le_of_ble_eq_true rfl) dL_law_588 (fun H locs hok hW => ?_)
  refine lv_aload_n C.1.1 C.1.2.1 dL_law_591 rfl (lv_at hl 2 rfl) ?_
  refine lv_aload_n C.1.1 C.1.2.1 dL_law_592 rfl (lv_at hl 0 rfl) ?_
  refine lv_iload_n C.1.1 C.1.2.1 dL_law_593 rfl (lv_at hl 3 rfl) ?_
  refine lv_iconst (v := 1) C.1.1 C.1.2.1 dL_law_594 (by decide) ?_
  refine lv_iadd C.1.1 C.1.2.1 dL_law_595 ?_
  refine va_sld C.1.1 C.1.2.1 hX hbl hbA hW.2 (vin_j (j := 1) rfl (by omega) hi hL) dL_law_596 ?_
  refine lv_aload_n C.1.1 C.1.2.1 dL_law_597 rfl (lv_at hl 0 rfl) ?_
  refine lv_iload_n C.1.1 C.1.2.1 dL_law_598 rfl (lv_at hl 3 rfl) ?_
  refine lv_iconst (v := 2) C.1.1 C.1.2.1 dL_law_599 (by decide) ?_
  refine lv_iadd C.1.1 C.1.2.1 dL_law_600 ?_
  refine va_sld C.1.1 C.1.2.1 hX hbl hbA hW.2 (vin_j (j := 2) rfl (by omega) hi hL) dL_law_601 ?_
  refine cVi C hW (mX7_stand hk7 f7) hk7 kvX7_stand w_1524 ⟨(Nat.le_of_ble_eq_true rfl), (Nat.le_of_ble_eq_true rfl)⟩ ⟨(Nat.le_of_ble_eq_true rfl), (Nat.le_of_ble_eq_true rfl)⟩ rfl hl.1 (rest := [.int r]) rfl (Nat.le_of_ble_eq_true rfl) dL_law_602 (fun H locs hok hW => ?_)
  refine lv_icmp_eq (tgt := 1222) C.1.1 C.1.2.1 dL_law_605 (by decide) (fun h9 => ?_) (fun h9 => absurd rfl h9)
  exact K σ2 _ _ hW hR2
set_option maxRecDepth 100000 in
set_option maxHeartbeats 4000000 in
theorem lc_14 {p : Program} {l : Launch} {e : Env} {s : State} {m : MethodId} {below : List Frame} {meth : Method} {c : Code} {b L : Nat} {xs : Nat → Int32} {G : Gm} {i : Nat} {σ : Sg} {H : Heap} {locs : List Loc} {ls : Array Slot} (E : EnvL p s m c b L xs G) (hi : i + 6 ≤ L) (hW : Ws G σ s.heap H locs) (hR : RLe 442 σ) (hl : lv_has ls 4 (LL b G i)) (K : ∀ σ H locs, Ws G σ s.heap H locs → RLe 442 σ → WL p l e s m b below meth c H locs 1222 ls []) : WL p l e s m b below meth c H locs 610 ls [] := by
  obtain ⟨C, hB, hk6, hk7, hX, hbl, hL⟩ := E
  have hbA : ¬ (fun q : Nat => gB G ≤ q) b := by show ¬ gB G ≤ b; rw [hB]; exact Nat.not_le.mpr hbl
  have hl : lv_has ls 4 [(0, .ref b), (1, .ref (gB G + 0)), (2, .ref (gB G + 442)), (3, .int (nI i))] := hl
  obtain ⟨t, t', ℓ, n, mm, bo, dr, lb, lf, sd, hRL⟩ := hR
  obtain ⟨r, σ1, σ2, f6, f7, hR2⟩ := ag_firstStand hRL (xs (nI i + 1).toNatClampNeg)
  have hR2 : RLe 442 σ2 := ⟨t, t', ℓ, n, mm, bo, dr, lb, lf, sd, hR2⟩
  refine lv_aload_n C.1.1 C.1.2.1 dL_law_610 rfl (lv_at hl 1 rfl) ?_
  refine lv_aload_n C.1.1 C.1.2.1 dL_law_611 rfl (lv_at hl 0 rfl) ?_
  refine lv_iload_n C.1.1 C.1.2.1 dL_law_612 rfl (lv_at hl 3 rfl) ?_
  refine lv_iconst (v := 1) C.1.1 C.1.2.1 dL_law_613 (by decide) ?_
  refine lv_iadd C.1.1 C.1.2.1 dL_law_614 ?_
  refine va_sld C.1.1 C.1.2.1 hX hbl hbA hW.2 (vin_j (j := 1) rfl (by omega) hi hL) dL_law_615 ?_
  refine cVi C hW (mX6_firstStand hk6 f6) hk6 kvX6_firstStand w_892 ⟨(Nat.le_of_ble_eq_true rfl), (Nat.le_of_ble_eq_true rfl)⟩ ⟨(Nat.le_of_ble_eq_true rfl), (Nat.le_of_ble_eq_true rfl)⟩ rfl hl.1 (rest := []) rfl (Nat.le_of_ble_eq_true rfl) dL_law_616 (fun H locs hok hW => ?_)
  refine lv_aload_n C.1.1 C.1.2.1 dL_law_619 rfl (lv_at hl 2 rfl) ?_
  refine lv_aload_n C.1.1 C.1.2.1 dL_law_620 rfl (lv_at hl 0 rfl) ?_
  refine lv_iload_n C.1.1 C.1.2.1 dL_law_621 rfl (lv_at hl 3 rfl) ?_
  refine lv_iconst (v := 1) C.1.1 C.1.2.1 dL_law_622 (by decide) ?_
  refine lv_iadd C.1.1 C.1.2.1 dL_law_623 ?_
  refine va_sld C.1.1 C.1.2.1 hX hbl hbA hW.2 (vin_j (j := 1) rfl (by omega) hi hL) dL_law_624 ?_
  refine cVi C hW (mX7_firstStand hk7 f7) hk7 kvX7_firstStand w_1539 ⟨(Nat.le_of_ble_eq_true rfl), (Nat.le_of_ble_eq_true rfl)⟩ ⟨(Nat.le_of_ble_eq_true rfl), (Nat.le_of_ble_eq_true rfl)⟩ rfl hl.1 (rest := [.int r]) rfl (Nat.le_of_ble_eq_true rfl) dL_law_625 (fun H locs hok hW => ?_)
  refine lv_icmp_eq (tgt := 1222) C.1.1 C.1.2.1 dL_law_628 (by decide) (fun h9 => ?_) (fun h9 => absurd rfl h9)
  exact K σ2 _ _ hW hR2
set_option maxRecDepth 100000 in
set_option maxHeartbeats 4000000 in
theorem lc_15 {p : Program} {l : Launch} {e : Env} {s : State} {m : MethodId} {below : List Frame} {meth : Method} {c : Code} {b L : Nat} {xs : Nat → Int32} {G : Gm} {i : Nat} {σ : Sg} {H : Heap} {locs : List Loc} {ls : Array Slot} (E : EnvL p s m c b L xs G) (hi : i + 6 ≤ L) (hW : Ws G σ s.heap H locs) (hR : RLe 442 σ) (hl : lv_has ls 4 (LL b G i)) (K : ∀ σ H locs, Ws G σ s.heap H locs → RLe 442 σ → WL p l e s m b below meth c H locs 1222 ls []) : WL p l e s m b below meth c H locs 633 ls [] := by
  obtain ⟨C, hB, hk6, hk7, hX, hbl, hL⟩ := E
  have hbA : ¬ (fun q : Nat => gB G ≤ q) b := by show ¬ gB G ≤ b; rw [hB]; exact Nat.not_le.mpr hbl
  have hl : lv_has ls 4 [(0, .ref b), (1, .ref (gB G + 0)), (2, .ref (gB G + 442)), (3, .int (nI i))] := hl
  obtain ⟨t, t', ℓ, n, mm, bo, dr, lb, lf, sd, hRL⟩ := hR
  obtain ⟨r, σ1, σ2, f6, f7, hR2⟩ := ag_stay hRL (xs (nI i + 1).toNatClampNeg)
  have hR2 : RLe 442 σ2 := ⟨t, t', ℓ, n, mm, bo, dr, lb, lf, sd, hR2⟩
  refine lv_aload_n C.1.1 C.1.2.1 dL_law_633 rfl (lv_at hl 1 rfl) ?_
  refine lv_aload_n C.1.1 C.1.2.1 dL_law_634 rfl (lv_at hl 0 rfl) ?_
  refine lv_iload_n C.1.1 C.1.2.1 dL_law_635 rfl (lv_at hl 3 rfl) ?_
  refine lv_iconst (v := 1) C.1.1 C.1.2.1 dL_law_636 (by decide) ?_
  refine lv_iadd C.1.1 C.1.2.1 dL_law_637 ?_
  refine va_sld C.1.1 C.1.2.1 hX hbl hbA hW.2 (vin_j (j := 1) rfl (by omega) hi hL) dL_law_638 ?_
  refine cVi C hW (mX6_stay hk6 f6) hk6 kvX6_stay w_900 ⟨(Nat.le_of_ble_eq_true rfl), (Nat.le_of_ble_eq_true rfl)⟩ ⟨(Nat.le_of_ble_eq_true rfl), (Nat.le_of_ble_eq_true rfl)⟩ rfl hl.1 (rest := []) rfl (Nat.le_of_ble_eq_true rfl) dL_law_639 (fun H locs hok hW => ?_)
  refine lv_aload_n C.1.1 C.1.2.1 dL_law_642 rfl (lv_at hl 2 rfl) ?_
  refine lv_aload_n C.1.1 C.1.2.1 dL_law_643 rfl (lv_at hl 0 rfl) ?_
  refine lv_iload_n C.1.1 C.1.2.1 dL_law_644 rfl (lv_at hl 3 rfl) ?_
  refine lv_iconst (v := 1) C.1.1 C.1.2.1 dL_law_645 (by decide) ?_
  refine lv_iadd C.1.1 C.1.2.1 dL_law_646 ?_
  refine va_sld C.1.1 C.1.2.1 hX hbl hbA hW.2 (vin_j (j := 1) rfl (by omega) hi hL) dL_law_647 ?_
  refine cVi C hW (mX7_stay hk7 f7) hk7 kvX7_stay w_1543 ⟨(Nat.le_of_ble_eq_true rfl), (Nat.le_of_ble_eq_true rfl)⟩ ⟨(Nat.le_of_ble_eq_true rfl), (Nat.le_of_ble_eq_true rfl)⟩ rfl hl.1 (rest := [.int r]) rfl (Nat.le_of_ble_eq_true rfl) dL_law_648 (fun H locs hok hW => ?_)
  refine lv_icmp_eq (tgt := 1222) C.1.1 C.1.2.1 dL_law_651 (by decide) (fun h9 => ?_) (fun h9 => absurd rfl h9)
  exact K σ2 _ _ hW hR2
set_option maxRecDepth 100000 in
set_option maxHeartbeats 4000000 in
theorem lc_16 {p : Program} {l : Launch} {e : Env} {s : State} {m : MethodId} {below : List Frame} {meth : Method} {c : Code} {b L : Nat} {xs : Nat → Int32} {G : Gm} {i : Nat} {σ : Sg} {H : Heap} {locs : List Loc} {ls : Array Slot} (E : EnvL p s m c b L xs G) (hi : i + 6 ≤ L) (hW : Ws G σ s.heap H locs) (hR : RLe 442 σ) (hl : lv_has ls 4 (LL b G i)) (K : ∀ σ H locs, Ws G σ s.heap H locs → RLe 442 σ → WL p l e s m b below meth c H locs 1222 ls []) : WL p l e s m b below meth c H locs 656 ls [] := by
  obtain ⟨C, hB, hk6, hk7, hX, hbl, hL⟩ := E
  have hbA : ¬ (fun q : Nat => gB G ≤ q) b := by show ¬ gB G ≤ b; rw [hB]; exact Nat.not_le.mpr hbl
  have hl : lv_has ls 4 [(0, .ref b), (1, .ref (gB G + 0)), (2, .ref (gB G + 442)), (3, .int (nI i))] := hl
  obtain ⟨t, t', ℓ, n, mm, bo, dr, lb, lf, sd, hRL⟩ := hR
  obtain ⟨r, σ1, σ2, f6, f7, hR2⟩ := ag_shift hRL (xs (nI i + 1).toNatClampNeg) (xs (nI i + 2).toNatClampNeg)
  have hR2 : RLe 442 σ2 := ⟨t, t', ℓ, n, mm, bo, dr, lb, lf, sd, hR2⟩
  refine lv_aload_n C.1.1 C.1.2.1 dL_law_656 rfl (lv_at hl 1 rfl) ?_
  refine lv_aload_n C.1.1 C.1.2.1 dL_law_657 rfl (lv_at hl 0 rfl) ?_
  refine lv_iload_n C.1.1 C.1.2.1 dL_law_658 rfl (lv_at hl 3 rfl) ?_
  refine lv_iconst (v := 1) C.1.1 C.1.2.1 dL_law_659 (by decide) ?_
  refine lv_iadd C.1.1 C.1.2.1 dL_law_660 ?_
  refine va_sld C.1.1 C.1.2.1 hX hbl hbA hW.2 (vin_j (j := 1) rfl (by omega) hi hL) dL_law_661 ?_
  refine lv_aload_n C.1.1 C.1.2.1 dL_law_662 rfl (lv_at hl 0 rfl) ?_
  refine lv_iload_n C.1.1 C.1.2.1 dL_law_663 rfl (lv_at hl 3 rfl) ?_
  refine lv_iconst (v := 2) C.1.1 C.1.2.1 dL_law_664 (by decide) ?_
  refine lv_iadd C.1.1 C.1.2.1 dL_law_665 ?_
  refine va_sld C.1.1 C.1.2.1 hX hbl hbA hW.2 (vin_j (j := 2) rfl (by omega) hi hL) dL_law_666 ?_
  refine cVi C hW (mX6_shift hk6 f6) hk6 kvX6_shift w_907 ⟨(Nat.le_of_ble_eq_true rfl), (Nat.le_of_ble_eq_true rfl)⟩ ⟨(Nat.le_of_ble_eq_true rfl), (Nat.le_of_ble_eq_true rfl)⟩ rfl hl.1 (rest := []) rfl (Nat.le_of_ble_eq_true rfl) dL_law_667 (fun H locs hok hW => ?_)
  refine lv_aload_n C.1.1 C.1.2.1 dL_law_670 rfl (lv_at hl 2 rfl) ?_
  refine lv_aload_n C.1.1 C.1.2.1 dL_law_671 rfl (lv_at hl 0 rfl) ?_
  refine lv_iload_n C.1.1 C.1.2.1 dL_law_672 rfl (lv_at hl 3 rfl) ?_
  refine lv_iconst (v := 1) C.1.1 C.1.2.1 dL_law_673 (by decide) ?_
  refine lv_iadd C.1.1 C.1.2.1 dL_law_674 ?_
  refine va_sld C.1.1 C.1.2.1 hX hbl hbA hW.2 (vin_j (j := 1) rfl (by omega) hi hL) dL_law_675 ?_
  refine lv_aload_n C.1.1 C.1.2.1 dL_law_676 rfl (lv_at hl 0 rfl) ?_
  refine lv_iload_n C.1.1 C.1.2.1 dL_law_677 rfl (lv_at hl 3 rfl) ?_
  refine lv_iconst (v := 2) C.1.1 C.1.2.1 dL_law_678 (by decide) ?_
  refine lv_iadd C.1.1 C.1.2.1 dL_law_679 ?_
  refine va_sld C.1.1 C.1.2.1 hX hbl hbA hW.2 (vin_j (j := 2) rfl (by omega) hi hL) dL_law_680 ?_
  refine cVi C hW (mX7_shift hk7 f7) hk7 kvX7_shift w_1555 ⟨(Nat.le_of_ble_eq_true rfl), (Nat.le_of_ble_eq_true rfl)⟩ ⟨(Nat.le_of_ble_eq_true rfl), (Nat.le_of_ble_eq_true rfl)⟩ rfl hl.1 (rest := [.int r]) rfl (Nat.le_of_ble_eq_true rfl) dL_law_681 (fun H locs hok hW => ?_)
  refine lv_icmp_eq (tgt := 1222) C.1.1 C.1.2.1 dL_law_684 (by decide) (fun h9 => ?_) (fun h9 => absurd rfl h9)
  exact K σ2 _ _ hW hR2
set_option maxRecDepth 100000 in
set_option maxHeartbeats 4000000 in
theorem lc_17 {p : Program} {l : Launch} {e : Env} {s : State} {m : MethodId} {below : List Frame} {meth : Method} {c : Code} {b L : Nat} {xs : Nat → Int32} {G : Gm} {i : Nat} {σ : Sg} {H : Heap} {locs : List Loc} {ls : Array Slot} (E : EnvL p s m c b L xs G) (hi : i + 6 ≤ L) (hW : Ws G σ s.heap H locs) (hR : RLe 442 σ) (hl : lv_has ls 4 (LL b G i)) (K : ∀ σ H locs, Ws G σ s.heap H locs → RLe 442 σ → WL p l e s m b below meth c H locs 1222 ls []) : WL p l e s m b below meth c H locs 689 ls [] := by
  obtain ⟨C, hB, hk6, hk7, hX, hbl, hL⟩ := E
  have hbA : ¬ (fun q : Nat => gB G ≤ q) b := by show ¬ gB G ≤ b; rw [hB]; exact Nat.not_le.mpr hbl
  have hl : lv_has ls 4 [(0, .ref b), (1, .ref (gB G + 0)), (2, .ref (gB G + 442)), (3, .int (nI i))] := hl
  obtain ⟨t, t', ℓ, n, mm, bo, dr, lb, lf, sd, hRL⟩ := hR
  obtain ⟨r, σ1, σ2, f6, f7, hR2⟩ := ag_changeBest hRL (xs (nI i + 1).toNatClampNeg)
  have hR2 : RLe 442 σ2 := ⟨t, t', ℓ, n, mm, bo, dr, lb, lf, sd, hR2⟩
  refine lv_aload_n C.1.1 C.1.2.1 dL_law_689 rfl (lv_at hl 1 rfl) ?_
  refine lv_aload_n C.1.1 C.1.2.1 dL_law_690 rfl (lv_at hl 0 rfl) ?_
  refine lv_iload_n C.1.1 C.1.2.1 dL_law_691 rfl (lv_at hl 3 rfl) ?_
  refine lv_iconst (v := 1) C.1.1 C.1.2.1 dL_law_692 (by decide) ?_
  refine lv_iadd C.1.1 C.1.2.1 dL_law_693 ?_
  refine va_sld C.1.1 C.1.2.1 hX hbl hbA hW.2 (vin_j (j := 1) rfl (by omega) hi hL) dL_law_694 ?_
  refine cVi C hW (mX6_changeBest hk6 f6) hk6 kvX6_changeBest w_915 ⟨(Nat.le_of_ble_eq_true rfl), (Nat.le_of_ble_eq_true rfl)⟩ ⟨(Nat.le_of_ble_eq_true rfl), (Nat.le_of_ble_eq_true rfl)⟩ rfl hl.1 (rest := []) rfl (Nat.le_of_ble_eq_true rfl) dL_law_695 (fun H locs hok hW => ?_)
  refine lv_aload_n C.1.1 C.1.2.1 dL_law_698 rfl (lv_at hl 2 rfl) ?_
  refine lv_aload_n C.1.1 C.1.2.1 dL_law_699 rfl (lv_at hl 0 rfl) ?_
  refine lv_iload_n C.1.1 C.1.2.1 dL_law_700 rfl (lv_at hl 3 rfl) ?_
  refine lv_iconst (v := 1) C.1.1 C.1.2.1 dL_law_701 (by decide) ?_
  refine lv_iadd C.1.1 C.1.2.1 dL_law_702 ?_
  refine va_sld C.1.1 C.1.2.1 hX hbl hbA hW.2 (vin_j (j := 1) rfl (by omega) hi hL) dL_law_703 ?_
  refine cVi C hW (mX7_changeBest hk7 f7) hk7 kvX7_changeBest w_1562 ⟨(Nat.le_of_ble_eq_true rfl), (Nat.le_of_ble_eq_true rfl)⟩ ⟨(Nat.le_of_ble_eq_true rfl), (Nat.le_of_ble_eq_true rfl)⟩ rfl hl.1 (rest := [.int r]) rfl (Nat.le_of_ble_eq_true rfl) dL_law_704 (fun H locs hok hW => ?_)
  refine lv_icmp_eq (tgt := 1222) C.1.1 C.1.2.1 dL_law_707 (by decide) (fun h9 => ?_) (fun h9 => absurd rfl h9)
  exact K σ2 _ _ hW hR2
set_option maxRecDepth 100000 in
set_option maxHeartbeats 4000000 in
theorem lc_18 {p : Program} {l : Launch} {e : Env} {s : State} {m : MethodId} {below : List Frame} {meth : Method} {c : Code} {b L : Nat} {xs : Nat → Int32} {G : Gm} {i : Nat} {σ : Sg} {H : Heap} {locs : List Loc} {ls : Array Slot} (E : EnvL p s m c b L xs G) (hi : i + 6 ≤ L) (hW : Ws G σ s.heap H locs) (hR : RLe 442 σ) (hl : lv_has ls 4 (LL b G i)) (K : ∀ σ H locs, Ws G σ s.heap H locs → RLe 442 σ → WL p l e s m b below meth c H locs 1222 ls []) : WL p l e s m b below meth c H locs 712 ls [] := by
  obtain ⟨C, hB, hk6, hk7, hX, hbl, hL⟩ := E
  have hbA : ¬ (fun q : Nat => gB G ≤ q) b := by show ¬ gB G ≤ b; rw [hB]; exact Nat.not_le.mpr hbl
  have hl : lv_has ls 4 [(0, .ref b), (1, .ref (gB G + 0)), (2, .ref (gB G + 442)), (3, .int (nI i))] := hl
  obtain ⟨t, t', ℓ, n, mm, bo, dr, lb, lf, sd, hRL⟩ := hR
  obtain ⟨r, σ1, σ2, f6, f7, hR2⟩ := ag_frees hRL (xs (nI i + 1).toNatClampNeg)
  have hR2 : RLe 442 σ2 := ⟨t, t', ℓ, n, mm, bo, dr, lb, lf, sd, hR2⟩
  refine lv_aload_n C.1.1 C.1.2.1 dL_law_712 rfl (lv_at hl 1 rfl) ?_
  refine lv_aload_n C.1.1 C.1.2.1 dL_law_713 rfl (lv_at hl 0 rfl) ?_
  refine lv_iload_n C.1.1 C.1.2.1 dL_law_714 rfl (lv_at hl 3 rfl) ?_
  refine lv_iconst (v := 1) C.1.1 C.1.2.1 dL_law_715 (by decide) ?_
  refine lv_iadd C.1.1 C.1.2.1 dL_law_716 ?_
  refine va_sld C.1.1 C.1.2.1 hX hbl hbA hW.2 (vin_j (j := 1) rfl (by omega) hi hL) dL_law_717 ?_
  refine cVi C hW (mX6_frees hk6 f6) hk6 kvX6_frees w_919 ⟨(Nat.le_of_ble_eq_true rfl), (Nat.le_of_ble_eq_true rfl)⟩ ⟨(Nat.le_of_ble_eq_true rfl), (Nat.le_of_ble_eq_true rfl)⟩ rfl hl.1 (rest := []) rfl (Nat.le_of_ble_eq_true rfl) dL_law_718 (fun H locs hok hW => ?_)
  refine lv_aload_n C.1.1 C.1.2.1 dL_law_721 rfl (lv_at hl 2 rfl) ?_
  refine lv_aload_n C.1.1 C.1.2.1 dL_law_722 rfl (lv_at hl 0 rfl) ?_
  refine lv_iload_n C.1.1 C.1.2.1 dL_law_723 rfl (lv_at hl 3 rfl) ?_
  refine lv_iconst (v := 1) C.1.1 C.1.2.1 dL_law_724 (by decide) ?_
  refine lv_iadd C.1.1 C.1.2.1 dL_law_725 ?_
  refine va_sld C.1.1 C.1.2.1 hX hbl hbA hW.2 (vin_j (j := 1) rfl (by omega) hi hL) dL_law_726 ?_
  refine cVi C hW (mX7_frees hk7 f7) hk7 kvX7_frees w_1566 ⟨(Nat.le_of_ble_eq_true rfl), (Nat.le_of_ble_eq_true rfl)⟩ ⟨(Nat.le_of_ble_eq_true rfl), (Nat.le_of_ble_eq_true rfl)⟩ rfl hl.1 (rest := [.int r]) rfl (Nat.le_of_ble_eq_true rfl) dL_law_727 (fun H locs hok hW => ?_)
  refine lv_icmp_eq (tgt := 1222) C.1.1 C.1.2.1 dL_law_730 (by decide) (fun h9 => ?_) (fun h9 => absurd rfl h9)
  exact K σ2 _ _ hW hR2
set_option maxRecDepth 100000 in
set_option maxHeartbeats 4000000 in
theorem lc_19 {p : Program} {l : Launch} {e : Env} {s : State} {m : MethodId} {below : List Frame} {meth : Method} {c : Code} {b L : Nat} {xs : Nat → Int32} {G : Gm} {i : Nat} {σ : Sg} {H : Heap} {locs : List Loc} {ls : Array Slot} (E : EnvL p s m c b L xs G) (hi : i + 6 ≤ L) (hW : Ws G σ s.heap H locs) (hR : RLe 442 σ) (hl : lv_has ls 4 (LL b G i)) (K : ∀ σ H locs, Ws G σ s.heap H locs → RLe 442 σ → WL p l e s m b below meth c H locs 1222 ls []) : WL p l e s m b below meth c H locs 735 ls [] := by
  obtain ⟨C, hB, hk6, hk7, hX, hbl, hL⟩ := E
  have hbA : ¬ (fun q : Nat => gB G ≤ q) b := by show ¬ gB G ≤ b; rw [hB]; exact Nat.not_le.mpr hbl
  have hl : lv_has ls 4 [(0, .ref b), (1, .ref (gB G + 0)), (2, .ref (gB G + 442)), (3, .int (nI i))] := hl
  obtain ⟨t, t', ℓ, n, mm, bo, dr, lb, lf, sd, hRL⟩ := hR
  obtain ⟨r, σ1, σ2, f6, f7, hR2⟩ := ag_worst hRL (xs (nI i + 1).toNatClampNeg) (xs (nI i + 2).toNatClampNeg)
  have hR2 : RLe 442 σ2 := ⟨t, t', ℓ, n, mm, bo, dr, lb, lf, sd, hR2⟩
  refine lv_aload_n C.1.1 C.1.2.1 dL_law_735 rfl (lv_at hl 1 rfl) ?_
  refine lv_aload_n C.1.1 C.1.2.1 dL_law_736 rfl (lv_at hl 0 rfl) ?_
  refine lv_iload_n C.1.1 C.1.2.1 dL_law_737 rfl (lv_at hl 3 rfl) ?_
  refine lv_iconst (v := 1) C.1.1 C.1.2.1 dL_law_738 (by decide) ?_
  refine lv_iadd C.1.1 C.1.2.1 dL_law_739 ?_
  refine va_sld C.1.1 C.1.2.1 hX hbl hbA hW.2 (vin_j (j := 1) rfl (by omega) hi hL) dL_law_740 ?_
  refine lv_aload_n C.1.1 C.1.2.1 dL_law_741 rfl (lv_at hl 0 rfl) ?_
  refine lv_iload_n C.1.1 C.1.2.1 dL_law_742 rfl (lv_at hl 3 rfl) ?_
  refine lv_iconst (v := 2) C.1.1 C.1.2.1 dL_law_743 (by decide) ?_
  refine lv_iadd C.1.1 C.1.2.1 dL_law_744 ?_
  refine va_sld C.1.1 C.1.2.1 hX hbl hbA hW.2 (vin_j (j := 2) rfl (by omega) hi hL) dL_law_745 ?_
  refine cVi C hW (mX6_worst hk6 f6) hk6 kvX6_worst w_925 ⟨(Nat.le_of_ble_eq_true rfl), (Nat.le_of_ble_eq_true rfl)⟩ ⟨(Nat.le_of_ble_eq_true rfl), (Nat.le_of_ble_eq_true rfl)⟩ rfl hl.1 (rest := []) rfl (Nat.le_of_ble_eq_true rfl) dL_law_746 (fun H locs hok hW => ?_)
  refine lv_aload_n C.1.1 C.1.2.1 dL_law_749 rfl (lv_at hl 2 rfl) ?_
  refine lv_aload_n C.1.1 C.1.2.1 dL_law_750 rfl (lv_at hl 0 rfl) ?_
  refine lv_iload_n C.1.1 C.1.2.1 dL_law_751 rfl (lv_at hl 3 rfl) ?_
  refine lv_iconst (v := 1) C.1.1 C.1.2.1 dL_law_752 (by decide) ?_
  refine lv_iadd C.1.1 C.1.2.1 dL_law_753 ?_
  refine va_sld C.1.1 C.1.2.1 hX hbl hbA hW.2 (vin_j (j := 1) rfl (by omega) hi hL) dL_law_754 ?_
  refine lv_aload_n C.1.1 C.1.2.1 dL_law_755 rfl (lv_at hl 0 rfl) ?_
  refine lv_iload_n C.1.1 C.1.2.1 dL_law_756 rfl (lv_at hl 3 rfl) ?_
  refine lv_iconst (v := 2) C.1.1 C.1.2.1 dL_law_757 (by decide) ?_
  refine lv_iadd C.1.1 C.1.2.1 dL_law_758 ?_
  refine va_sld C.1.1 C.1.2.1 hX hbl hbA hW.2 (vin_j (j := 2) rfl (by omega) hi hL) dL_law_759 ?_
  refine cVi C hW (mX7_worst hk7 f7) hk7 kvX7_worst w_1570 ⟨(Nat.le_of_ble_eq_true rfl), (Nat.le_of_ble_eq_true rfl)⟩ ⟨(Nat.le_of_ble_eq_true rfl), (Nat.le_of_ble_eq_true rfl)⟩ rfl hl.1 (rest := [.int r]) rfl (Nat.le_of_ble_eq_true rfl) dL_law_760 (fun H locs hok hW => ?_)
  refine lv_icmp_eq (tgt := 1222) C.1.1 C.1.2.1 dL_law_763 (by decide) (fun h9 => ?_) (fun h9 => absurd rfl h9)
  exact K σ2 _ _ hW hR2
set_option maxRecDepth 100000 in
set_option maxHeartbeats 4000000 in
theorem lc_20 {p : Program} {l : Launch} {e : Env} {s : State} {m : MethodId} {below : List Frame} {meth : Method} {c : Code} {b L : Nat} {xs : Nat → Int32} {G : Gm} {i : Nat} {σ : Sg} {H : Heap} {locs : List Loc} {ls : Array Slot} (E : EnvL p s m c b L xs G) (hi : i + 6 ≤ L) (hW : Ws G σ s.heap H locs) (hR : RLe 442 σ) (hl : lv_has ls 4 (LL b G i)) (K : ∀ σ H locs, Ws G σ s.heap H locs → RLe 442 σ → WL p l e s m b below meth c H locs 1222 ls []) : WL p l e s m b below meth c H locs 768 ls [] := by
  obtain ⟨C, hB, hk6, hk7, hX, hbl, hL⟩ := E
  have hbA : ¬ (fun q : Nat => gB G ≤ q) b := by show ¬ gB G ≤ b; rw [hB]; exact Nat.not_le.mpr hbl
  have hl : lv_has ls 4 [(0, .ref b), (1, .ref (gB G + 0)), (2, .ref (gB G + 442)), (3, .int (nI i))] := hl
  obtain ⟨t, t', ℓ, n, mm, bo, dr, lb, lf, sd, hRL⟩ := hR
  obtain ⟨r, σ1, σ2, f6, f7, hR2⟩ := ag_peak hRL (xs (nI i + 1).toNatClampNeg) (xs (nI i + 2).toNatClampNeg)
  have hR2 : RLe 442 σ2 := ⟨t, t', ℓ, n, mm, bo, dr, lb, lf, sd, hR2⟩
  refine lv_aload_n C.1.1 C.1.2.1 dL_law_768 rfl (lv_at hl 1 rfl) ?_
  refine lv_aload_n C.1.1 C.1.2.1 dL_law_769 rfl (lv_at hl 0 rfl) ?_
  refine lv_iload_n C.1.1 C.1.2.1 dL_law_770 rfl (lv_at hl 3 rfl) ?_
  refine lv_iconst (v := 1) C.1.1 C.1.2.1 dL_law_771 (by decide) ?_
  refine lv_iadd C.1.1 C.1.2.1 dL_law_772 ?_
  refine va_sld C.1.1 C.1.2.1 hX hbl hbA hW.2 (vin_j (j := 1) rfl (by omega) hi hL) dL_law_773 ?_
  refine lv_aload_n C.1.1 C.1.2.1 dL_law_774 rfl (lv_at hl 0 rfl) ?_
  refine lv_iload_n C.1.1 C.1.2.1 dL_law_775 rfl (lv_at hl 3 rfl) ?_
  refine lv_iconst (v := 2) C.1.1 C.1.2.1 dL_law_776 (by decide) ?_
  refine lv_iadd C.1.1 C.1.2.1 dL_law_777 ?_
  refine va_sld C.1.1 C.1.2.1 hX hbl hbA hW.2 (vin_j (j := 2) rfl (by omega) hi hL) dL_law_778 ?_
  refine cVi C hW (mX6_peak hk6 f6) hk6 kvX6_peak w_929 ⟨(Nat.le_of_ble_eq_true rfl), (Nat.le_of_ble_eq_true rfl)⟩ ⟨(Nat.le_of_ble_eq_true rfl), (Nat.le_of_ble_eq_true rfl)⟩ rfl hl.1 (rest := []) rfl (Nat.le_of_ble_eq_true rfl) dL_law_779 (fun H locs hok hW => ?_)
  refine lv_aload_n C.1.1 C.1.2.1 dL_law_782 rfl (lv_at hl 2 rfl) ?_
  refine lv_aload_n C.1.1 C.1.2.1 dL_law_783 rfl (lv_at hl 0 rfl) ?_
  refine lv_iload_n C.1.1 C.1.2.1 dL_law_784 rfl (lv_at hl 3 rfl) ?_
  refine lv_iconst (v := 1) C.1.1 C.1.2.1 dL_law_785 (by decide) ?_
  refine lv_iadd C.1.1 C.1.2.1 dL_law_786 ?_
  refine va_sld C.1.1 C.1.2.1 hX hbl hbA hW.2 (vin_j (j := 1) rfl (by omega) hi hL) dL_law_787 ?_
  refine lv_aload_n C.1.1 C.1.2.1 dL_law_788 rfl (lv_at hl 0 rfl) ?_
  refine lv_iload_n C.1.1 C.1.2.1 dL_law_789 rfl (lv_at hl 3 rfl) ?_
  refine lv_iconst (v := 2) C.1.1 C.1.2.1 dL_law_790 (by decide) ?_
  refine lv_iadd C.1.1 C.1.2.1 dL_law_791 ?_
  refine va_sld C.1.1 C.1.2.1 hX hbl hbA hW.2 (vin_j (j := 2) rfl (by omega) hi hL) dL_law_792 ?_
  refine cVi C hW (mX7_peak hk7 f7) hk7 kvX7_peak w_1574 ⟨(Nat.le_of_ble_eq_true rfl), (Nat.le_of_ble_eq_true rfl)⟩ ⟨(Nat.le_of_ble_eq_true rfl), (Nat.le_of_ble_eq_true rfl)⟩ rfl hl.1 (rest := [.int r]) rfl (Nat.le_of_ble_eq_true rfl) dL_law_793 (fun H locs hok hW => ?_)
  refine lv_icmp_eq (tgt := 1222) C.1.1 C.1.2.1 dL_law_796 (by decide) (fun h9 => ?_) (fun h9 => absurd rfl h9)
  exact K σ2 _ _ hW hR2
set_option maxRecDepth 100000 in
set_option maxHeartbeats 4000000 in
theorem lc_21 {p : Program} {l : Launch} {e : Env} {s : State} {m : MethodId} {below : List Frame} {meth : Method} {c : Code} {b L : Nat} {xs : Nat → Int32} {G : Gm} {i : Nat} {σ : Sg} {H : Heap} {locs : List Loc} {ls : Array Slot} (E : EnvL p s m c b L xs G) (hi : i + 6 ≤ L) (hW : Ws G σ s.heap H locs) (hR : RLe 442 σ) (hl : lv_has ls 4 (LL b G i)) (K : ∀ σ H locs, Ws G σ s.heap H locs → RLe 442 σ → WL p l e s m b below meth c H locs 1222 ls []) : WL p l e s m b below meth c H locs 801 ls [] := by
  obtain ⟨C, hB, hk6, hk7, hX, hbl, hL⟩ := E
  have hbA : ¬ (fun q : Nat => gB G ≤ q) b := by show ¬ gB G ≤ b; rw [hB]; exact Nat.not_le.mpr hbl
  have hl : lv_has ls 4 [(0, .ref b), (1, .ref (gB G + 0)), (2, .ref (gB G + 442)), (3, .int (nI i))] := hl
  obtain ⟨t, t', ℓ, n, mm, bo, dr, lb, lf, sd, hRL⟩ := hR
  obtain ⟨r, σ1, σ2, f6, f7, hR2⟩ := ag_gain hRL (xs (nI i + 1).toNatClampNeg)
  have hR2 : RLe 442 σ2 := ⟨t, t', ℓ, n, mm, bo, dr, lb, lf, sd, hR2⟩
  refine lv_aload_n C.1.1 C.1.2.1 dL_law_801 rfl (lv_at hl 1 rfl) ?_
  refine lv_aload_n C.1.1 C.1.2.1 dL_law_802 rfl (lv_at hl 0 rfl) ?_
  refine lv_iload_n C.1.1 C.1.2.1 dL_law_803 rfl (lv_at hl 3 rfl) ?_
  refine lv_iconst (v := 1) C.1.1 C.1.2.1 dL_law_804 (by decide) ?_
  refine lv_iadd C.1.1 C.1.2.1 dL_law_805 ?_
  refine va_sld C.1.1 C.1.2.1 hX hbl hbA hW.2 (vin_j (j := 1) rfl (by omega) hi hL) dL_law_806 ?_
  refine cVi C hW (mX6_gain hk6 f6) hk6 kvX6_gain w_933 ⟨(Nat.le_of_ble_eq_true rfl), (Nat.le_of_ble_eq_true rfl)⟩ ⟨(Nat.le_of_ble_eq_true rfl), (Nat.le_of_ble_eq_true rfl)⟩ rfl hl.1 (rest := []) rfl (Nat.le_of_ble_eq_true rfl) dL_law_807 (fun H locs hok hW => ?_)
  refine lv_aload_n C.1.1 C.1.2.1 dL_law_810 rfl (lv_at hl 2 rfl) ?_
  refine lv_aload_n C.1.1 C.1.2.1 dL_law_811 rfl (lv_at hl 0 rfl) ?_
  refine lv_iload_n C.1.1 C.1.2.1 dL_law_812 rfl (lv_at hl 3 rfl) ?_
  refine lv_iconst (v := 1) C.1.1 C.1.2.1 dL_law_813 (by decide) ?_
  refine lv_iadd C.1.1 C.1.2.1 dL_law_814 ?_
  refine va_sld C.1.1 C.1.2.1 hX hbl hbA hW.2 (vin_j (j := 1) rfl (by omega) hi hL) dL_law_815 ?_
  refine cVi C hW (mX7_gain hk7 f7) hk7 kvX7_gain w_1578 ⟨(Nat.le_of_ble_eq_true rfl), (Nat.le_of_ble_eq_true rfl)⟩ ⟨(Nat.le_of_ble_eq_true rfl), (Nat.le_of_ble_eq_true rfl)⟩ rfl hl.1 (rest := [.int r]) rfl (Nat.le_of_ble_eq_true rfl) dL_law_816 (fun H locs hok hW => ?_)
  refine lv_icmp_eq (tgt := 1222) C.1.1 C.1.2.1 dL_law_819 (by decide) (fun h9 => ?_) (fun h9 => absurd rfl h9)
  exact K σ2 _ _ hW hR2
set_option maxRecDepth 100000 in
set_option maxHeartbeats 4000000 in
theorem lc_22 {p : Program} {l : Launch} {e : Env} {s : State} {m : MethodId} {below : List Frame} {meth : Method} {c : Code} {b L : Nat} {xs : Nat → Int32} {G : Gm} {i : Nat} {σ : Sg} {H : Heap} {locs : List Loc} {ls : Array Slot} (E : EnvL p s m c b L xs G) (hi : i + 6 ≤ L) (hW : Ws G σ s.heap H locs) (hR : RLe 442 σ) (hl : lv_has ls 4 (LL b G i)) (K : ∀ σ H locs, Ws G σ s.heap H locs → RLe 442 σ → WL p l e s m b below meth c H locs 1222 ls []) : WL p l e s m b below meth c H locs 824 ls [] := by
  obtain ⟨C, hB, hk6, hk7, hX, hbl, hL⟩ := E
  have hbA : ¬ (fun q : Nat => gB G ≤ q) b := by show ¬ gB G ≤ b; rw [hB]; exact Nat.not_le.mpr hbl
  have hl : lv_has ls 4 [(0, .ref b), (1, .ref (gB G + 0)), (2, .ref (gB G + 442)), (3, .int (nI i))] := hl
  obtain ⟨t, t', ℓ, n, mm, bo, dr, lb, lf, sd, hRL⟩ := hR
  obtain ⟨r, σ1, σ2, f6, f7, hR2⟩ := ag_by hRL (xs (nI i + 1).toNatClampNeg)
  have hR2 : RLe 442 σ2 := ⟨t, t', ℓ, n, mm, bo, dr, lb, lf, sd, hR2⟩
  refine lv_aload_n C.1.1 C.1.2.1 dL_law_824 rfl (lv_at hl 1 rfl) ?_
  refine lv_aload_n C.1.1 C.1.2.1 dL_law_825 rfl (lv_at hl 0 rfl) ?_
  refine lv_iload_n C.1.1 C.1.2.1 dL_law_826 rfl (lv_at hl 3 rfl) ?_
  refine lv_iconst (v := 1) C.1.1 C.1.2.1 dL_law_827 (by decide) ?_
  refine lv_iadd C.1.1 C.1.2.1 dL_law_828 ?_
  refine va_sld C.1.1 C.1.2.1 hX hbl hbA hW.2 (vin_j (j := 1) rfl (by omega) hi hL) dL_law_829 ?_
  refine cVi C hW (mX6_by hk6 f6) hk6 kvX6_by w_750 ⟨(Nat.le_of_ble_eq_true rfl), (Nat.le_of_ble_eq_true rfl)⟩ ⟨(Nat.le_of_ble_eq_true rfl), (Nat.le_of_ble_eq_true rfl)⟩ rfl hl.1 (rest := []) rfl (Nat.le_of_ble_eq_true rfl) dL_law_830 (fun H locs hok hW => ?_)
  refine lv_aload_n C.1.1 C.1.2.1 dL_law_833 rfl (lv_at hl 2 rfl) ?_
  refine lv_aload_n C.1.1 C.1.2.1 dL_law_834 rfl (lv_at hl 0 rfl) ?_
  refine lv_iload_n C.1.1 C.1.2.1 dL_law_835 rfl (lv_at hl 3 rfl) ?_
  refine lv_iconst (v := 1) C.1.1 C.1.2.1 dL_law_836 (by decide) ?_
  refine lv_iadd C.1.1 C.1.2.1 dL_law_837 ?_
  refine va_sld C.1.1 C.1.2.1 hX hbl hbA hW.2 (vin_j (j := 1) rfl (by omega) hi hL) dL_law_838 ?_
  refine cVi C hW (mX7_by hk7 f7) hk7 kvX7_by w_1583 ⟨(Nat.le_of_ble_eq_true rfl), (Nat.le_of_ble_eq_true rfl)⟩ ⟨(Nat.le_of_ble_eq_true rfl), (Nat.le_of_ble_eq_true rfl)⟩ rfl hl.1 (rest := [.int r]) rfl (Nat.le_of_ble_eq_true rfl) dL_law_839 (fun H locs hok hW => ?_)
  refine lv_icmp_eq (tgt := 1222) C.1.1 C.1.2.1 dL_law_842 (by decide) (fun h9 => ?_) (fun h9 => absurd rfl h9)
  exact K σ2 _ _ hW hR2
set_option maxRecDepth 100000 in
set_option maxHeartbeats 4000000 in
theorem lc_23 {p : Program} {l : Launch} {e : Env} {s : State} {m : MethodId} {below : List Frame} {meth : Method} {c : Code} {b L : Nat} {xs : Nat → Int32} {G : Gm} {i : Nat} {σ : Sg} {H : Heap} {locs : List Loc} {ls : Array Slot} (E : EnvL p s m c b L xs G) (hi : i + 6 ≤ L) (hW : Ws G σ s.heap H locs) (hR : RLe 442 σ) (hl : lv_has ls 4 (LL b G i)) (K : ∀ σ H locs, Ws G σ s.heap H locs → RLe 442 σ → WL p l e s m b below meth c H locs 1222 ls []) : WL p l e s m b below meth c H locs 847 ls [] := by
  obtain ⟨C, hB, hk6, hk7, hX, hbl, hL⟩ := E
  have hbA : ¬ (fun q : Nat => gB G ≤ q) b := by show ¬ gB G ≤ b; rw [hB]; exact Nat.not_le.mpr hbl
  have hl : lv_has ls 4 [(0, .ref b), (1, .ref (gB G + 0)), (2, .ref (gB G + 442)), (3, .int (nI i))] := hl
  obtain ⟨t, t', ℓ, n, mm, bo, dr, lb, lf, sd, hRL⟩ := hR
  obtain ⟨r, σ1, σ2, f6, f7, hR2⟩ := ag_days hRL (xs (nI i + 1).toNatClampNeg) (xs (nI i + 2).toNatClampNeg)
  have hR2 : RLe 442 σ2 := ⟨t, t', ℓ, n, mm, bo, dr, lb, lf, sd, hR2⟩
  refine lv_aload_n C.1.1 C.1.2.1 dL_law_847 rfl (lv_at hl 1 rfl) ?_
  refine lv_aload_n C.1.1 C.1.2.1 dL_law_848 rfl (lv_at hl 0 rfl) ?_
  refine lv_iload_n C.1.1 C.1.2.1 dL_law_849 rfl (lv_at hl 3 rfl) ?_
  refine lv_iconst (v := 1) C.1.1 C.1.2.1 dL_law_850 (by decide) ?_
  refine lv_iadd C.1.1 C.1.2.1 dL_law_851 ?_
  refine va_sld C.1.1 C.1.2.1 hX hbl hbA hW.2 (vin_j (j := 1) rfl (by omega) hi hL) dL_law_852 ?_
  refine lv_aload_n C.1.1 C.1.2.1 dL_law_853 rfl (lv_at hl 0 rfl) ?_
  refine lv_iload_n C.1.1 C.1.2.1 dL_law_854 rfl (lv_at hl 3 rfl) ?_
  refine lv_iconst (v := 2) C.1.1 C.1.2.1 dL_law_855 (by decide) ?_
  refine lv_iadd C.1.1 C.1.2.1 dL_law_856 ?_
  refine va_sld C.1.1 C.1.2.1 hX hbl hbA hW.2 (vin_j (j := 2) rfl (by omega) hi hL) dL_law_857 ?_
  refine cVi C hW (mX6_days hk6 f6) hk6 kvX6_days w_946 ⟨(Nat.le_of_ble_eq_true rfl), (Nat.le_of_ble_eq_true rfl)⟩ ⟨(Nat.le_of_ble_eq_true rfl), (Nat.le_of_ble_eq_true rfl)⟩ rfl hl.1 (rest := []) rfl (Nat.le_of_ble_eq_true rfl) dL_law_858 (fun H locs hok hW => ?_)
  refine lv_aload_n C.1.1 C.1.2.1 dL_law_861 rfl (lv_at hl 2 rfl) ?_
  refine lv_aload_n C.1.1 C.1.2.1 dL_law_862 rfl (lv_at hl 0 rfl) ?_
  refine lv_iload_n C.1.1 C.1.2.1 dL_law_863 rfl (lv_at hl 3 rfl) ?_
  refine lv_iconst (v := 1) C.1.1 C.1.2.1 dL_law_864 (by decide) ?_
  refine lv_iadd C.1.1 C.1.2.1 dL_law_865 ?_
  refine va_sld C.1.1 C.1.2.1 hX hbl hbA hW.2 (vin_j (j := 1) rfl (by omega) hi hL) dL_law_866 ?_
  refine lv_aload_n C.1.1 C.1.2.1 dL_law_867 rfl (lv_at hl 0 rfl) ?_
  refine lv_iload_n C.1.1 C.1.2.1 dL_law_868 rfl (lv_at hl 3 rfl) ?_
  refine lv_iconst (v := 2) C.1.1 C.1.2.1 dL_law_869 (by decide) ?_
  refine lv_iadd C.1.1 C.1.2.1 dL_law_870 ?_
  refine va_sld C.1.1 C.1.2.1 hX hbl hbA hW.2 (vin_j (j := 2) rfl (by omega) hi hL) dL_law_871 ?_
  refine cVi C hW (mX7_days hk7 f7) hk7 kvX7_days w_1587 ⟨(Nat.le_of_ble_eq_true rfl), (Nat.le_of_ble_eq_true rfl)⟩ ⟨(Nat.le_of_ble_eq_true rfl), (Nat.le_of_ble_eq_true rfl)⟩ rfl hl.1 (rest := [.int r]) rfl (Nat.le_of_ble_eq_true rfl) dL_law_872 (fun H locs hok hW => ?_)
  refine lv_icmp_eq (tgt := 1222) C.1.1 C.1.2.1 dL_law_875 (by decide) (fun h9 => ?_) (fun h9 => absurd rfl h9)
  exact K σ2 _ _ hW hR2
set_option maxRecDepth 100000 in
set_option maxHeartbeats 4000000 in
theorem lc_24 {p : Program} {l : Launch} {e : Env} {s : State} {m : MethodId} {below : List Frame} {meth : Method} {c : Code} {b L : Nat} {xs : Nat → Int32} {G : Gm} {i : Nat} {σ : Sg} {H : Heap} {locs : List Loc} {ls : Array Slot} (E : EnvL p s m c b L xs G) (hi : i + 6 ≤ L) (hW : Ws G σ s.heap H locs) (hR : RLe 442 σ) (hl : lv_has ls 4 (LL b G i)) (K : ∀ σ H locs, Ws G σ s.heap H locs → RLe 442 σ → WL p l e s m b below meth c H locs 1222 ls []) : WL p l e s m b below meth c H locs 880 ls [] := by
  obtain ⟨C, hB, hk6, hk7, hX, hbl, hL⟩ := E
  have hbA : ¬ (fun q : Nat => gB G ≤ q) b := by show ¬ gB G ≤ b; rw [hB]; exact Nat.not_le.mpr hbl
  have hl : lv_has ls 4 [(0, .ref b), (1, .ref (gB G + 0)), (2, .ref (gB G + 442)), (3, .int (nI i))] := hl
  obtain ⟨t, t', ℓ, n, mm, bo, dr, lb, lf, sd, hRL⟩ := hR
  obtain ⟨r, σ1, σ2, f6, f7, hR2⟩ := ag_soonest hRL (xs (nI i + 1).toNatClampNeg) (xs (nI i + 2).toNatClampNeg)
  have hR2 : RLe 442 σ2 := ⟨t, t', ℓ, n, mm, bo, dr, lb, lf, sd, hR2⟩
  refine lv_aload_n C.1.1 C.1.2.1 dL_law_880 rfl (lv_at hl 1 rfl) ?_
  refine lv_aload_n C.1.1 C.1.2.1 dL_law_881 rfl (lv_at hl 0 rfl) ?_
  refine lv_iload_n C.1.1 C.1.2.1 dL_law_882 rfl (lv_at hl 3 rfl) ?_
  refine lv_iconst (v := 1) C.1.1 C.1.2.1 dL_law_883 (by decide) ?_
  refine lv_iadd C.1.1 C.1.2.1 dL_law_884 ?_
  refine va_sld C.1.1 C.1.2.1 hX hbl hbA hW.2 (vin_j (j := 1) rfl (by omega) hi hL) dL_law_885 ?_
  refine lv_aload_n C.1.1 C.1.2.1 dL_law_886 rfl (lv_at hl 0 rfl) ?_
  refine lv_iload_n C.1.1 C.1.2.1 dL_law_887 rfl (lv_at hl 3 rfl) ?_
  refine lv_iconst (v := 2) C.1.1 C.1.2.1 dL_law_888 (by decide) ?_
  refine lv_iadd C.1.1 C.1.2.1 dL_law_889 ?_
  refine va_sld C.1.1 C.1.2.1 hX hbl hbA hW.2 (vin_j (j := 2) rfl (by omega) hi hL) dL_law_890 ?_
  refine cVi C hW (mX6_soonest hk6 f6) hk6 kvX6_soonest w_954 ⟨(Nat.le_of_ble_eq_true rfl), (Nat.le_of_ble_eq_true rfl)⟩ ⟨(Nat.le_of_ble_eq_true rfl), (Nat.le_of_ble_eq_true rfl)⟩ rfl hl.1 (rest := []) rfl (Nat.le_of_ble_eq_true rfl) dL_law_891 (fun H locs hok hW => ?_)
  refine lv_aload_n C.1.1 C.1.2.1 dL_law_894 rfl (lv_at hl 2 rfl) ?_
  refine lv_aload_n C.1.1 C.1.2.1 dL_law_895 rfl (lv_at hl 0 rfl) ?_
  refine lv_iload_n C.1.1 C.1.2.1 dL_law_896 rfl (lv_at hl 3 rfl) ?_
  refine lv_iconst (v := 1) C.1.1 C.1.2.1 dL_law_897 (by decide) ?_
  refine lv_iadd C.1.1 C.1.2.1 dL_law_898 ?_
  refine va_sld C.1.1 C.1.2.1 hX hbl hbA hW.2 (vin_j (j := 1) rfl (by omega) hi hL) dL_law_899 ?_
  refine lv_aload_n C.1.1 C.1.2.1 dL_law_900 rfl (lv_at hl 0 rfl) ?_
  refine lv_iload_n C.1.1 C.1.2.1 dL_law_901 rfl (lv_at hl 3 rfl) ?_
  refine lv_iconst (v := 2) C.1.1 C.1.2.1 dL_law_902 (by decide) ?_
  refine lv_iadd C.1.1 C.1.2.1 dL_law_903 ?_
  refine va_sld C.1.1 C.1.2.1 hX hbl hbA hW.2 (vin_j (j := 2) rfl (by omega) hi hL) dL_law_904 ?_
  refine cVi C hW (mX7_soonest hk7 f7) hk7 kvX7_soonest w_1595 ⟨(Nat.le_of_ble_eq_true rfl), (Nat.le_of_ble_eq_true rfl)⟩ ⟨(Nat.le_of_ble_eq_true rfl), (Nat.le_of_ble_eq_true rfl)⟩ rfl hl.1 (rest := [.int r]) rfl (Nat.le_of_ble_eq_true rfl) dL_law_905 (fun H locs hok hW => ?_)
  refine lv_icmp_eq (tgt := 1222) C.1.1 C.1.2.1 dL_law_908 (by decide) (fun h9 => ?_) (fun h9 => absurd rfl h9)
  exact K σ2 _ _ hW hR2
set_option maxRecDepth 100000 in
set_option maxHeartbeats 4000000 in
theorem lc_25 {p : Program} {l : Launch} {e : Env} {s : State} {m : MethodId} {below : List Frame} {meth : Method} {c : Code} {b L : Nat} {xs : Nat → Int32} {G : Gm} {i : Nat} {σ : Sg} {H : Heap} {locs : List Loc} {ls : Array Slot} (E : EnvL p s m c b L xs G) (hi : i + 6 ≤ L) (hW : Ws G σ s.heap H locs) (hR : RLe 442 σ) (hl : lv_has ls 4 (LL b G i)) (K : ∀ σ H locs, Ws G σ s.heap H locs → RLe 442 σ → WL p l e s m b below meth c H locs 1222 ls []) : WL p l e s m b below meth c H locs 913 ls [] := by
  obtain ⟨C, hB, hk6, hk7, hX, hbl, hL⟩ := E
  have hbA : ¬ (fun q : Nat => gB G ≤ q) b := by show ¬ gB G ≤ b; rw [hB]; exact Nat.not_le.mpr hbl
  have hl : lv_has ls 4 [(0, .ref b), (1, .ref (gB G + 0)), (2, .ref (gB G + 442)), (3, .int (nI i))] := hl
  obtain ⟨t, t', ℓ, n, mm, bo, dr, lb, lf, sd, hRL⟩ := hR
  obtain ⟨r, σ1, σ2, f6, f7, hR2⟩ := ag_rents hRL (xs (nI i + 1).toNatClampNeg)
  have hR2 : RLe 442 σ2 := ⟨t, t', ℓ, n, mm, bo, dr, lb, lf, sd, hR2⟩
  refine lv_aload_n C.1.1 C.1.2.1 dL_law_913 rfl (lv_at hl 1 rfl) ?_
  refine lv_aload_n C.1.1 C.1.2.1 dL_law_914 rfl (lv_at hl 0 rfl) ?_
  refine lv_iload_n C.1.1 C.1.2.1 dL_law_915 rfl (lv_at hl 3 rfl) ?_
  refine lv_iconst (v := 1) C.1.1 C.1.2.1 dL_law_916 (by decide) ?_
  refine lv_iadd C.1.1 C.1.2.1 dL_law_917 ?_
  refine va_sld C.1.1 C.1.2.1 hX hbl hbA hW.2 (vin_j (j := 1) rfl (by omega) hi hL) dL_law_918 ?_
  refine cVi C hW (mX6_rents hk6 f6) hk6 kvX6_rents w_958 ⟨(Nat.le_of_ble_eq_true rfl), (Nat.le_of_ble_eq_true rfl)⟩ ⟨(Nat.le_of_ble_eq_true rfl), (Nat.le_of_ble_eq_true rfl)⟩ rfl hl.1 (rest := []) rfl (Nat.le_of_ble_eq_true rfl) dL_law_919 (fun H locs hok hW => ?_)
  refine lv_aload_n C.1.1 C.1.2.1 dL_law_922 rfl (lv_at hl 2 rfl) ?_
  refine lv_aload_n C.1.1 C.1.2.1 dL_law_923 rfl (lv_at hl 0 rfl) ?_
  refine lv_iload_n C.1.1 C.1.2.1 dL_law_924 rfl (lv_at hl 3 rfl) ?_
  refine lv_iconst (v := 1) C.1.1 C.1.2.1 dL_law_925 (by decide) ?_
  refine lv_iadd C.1.1 C.1.2.1 dL_law_926 ?_
  refine va_sld C.1.1 C.1.2.1 hX hbl hbA hW.2 (vin_j (j := 1) rfl (by omega) hi hL) dL_law_927 ?_
  refine cVi C hW (mX7_rents hk7 f7) hk7 kvX7_rents w_1599 ⟨(Nat.le_of_ble_eq_true rfl), (Nat.le_of_ble_eq_true rfl)⟩ ⟨(Nat.le_of_ble_eq_true rfl), (Nat.le_of_ble_eq_true rfl)⟩ rfl hl.1 (rest := [.int r]) rfl (Nat.le_of_ble_eq_true rfl) dL_law_928 (fun H locs hok hW => ?_)
  refine lv_icmp_eq (tgt := 1222) C.1.1 C.1.2.1 dL_law_931 (by decide) (fun h9 => ?_) (fun h9 => absurd rfl h9)
  exact K σ2 _ _ hW hR2
set_option maxRecDepth 100000 in
set_option maxHeartbeats 4000000 in
theorem lc_26 {p : Program} {l : Launch} {e : Env} {s : State} {m : MethodId} {below : List Frame} {meth : Method} {c : Code} {b L : Nat} {xs : Nat → Int32} {G : Gm} {i : Nat} {σ : Sg} {H : Heap} {locs : List Loc} {ls : Array Slot} (E : EnvL p s m c b L xs G) (hi : i + 6 ≤ L) (hW : Ws G σ s.heap H locs) (hR : RLe 442 σ) (hl : lv_has ls 4 (LL b G i)) (K : ∀ σ H locs, Ws G σ s.heap H locs → RLe 442 σ → WL p l e s m b below meth c H locs 1222 ls []) : WL p l e s m b below meth c H locs 936 ls [] := by
  obtain ⟨C, hB, hk6, hk7, hX, hbl, hL⟩ := E
  have hbA : ¬ (fun q : Nat => gB G ≤ q) b := by show ¬ gB G ≤ b; rw [hB]; exact Nat.not_le.mpr hbl
  have hl : lv_has ls 4 [(0, .ref b), (1, .ref (gB G + 0)), (2, .ref (gB G + 442)), (3, .int (nI i))] := hl
  obtain ⟨t, t', ℓ, n, mm, bo, dr, lb, lf, sd, hRL⟩ := hR
  obtain ⟨r, σ1, σ2, f6, f7, hR2⟩ := ag_shut hRL (xs (nI i + 1).toNatClampNeg)
  have hR2 : RLe 442 σ2 := ⟨t, t', ℓ, n, mm, bo, dr, lb, lf, sd, hR2⟩
  refine lv_aload_n C.1.1 C.1.2.1 dL_law_936 rfl (lv_at hl 1 rfl) ?_
  refine lv_aload_n C.1.1 C.1.2.1 dL_law_937 rfl (lv_at hl 0 rfl) ?_
  refine lv_iload_n C.1.1 C.1.2.1 dL_law_938 rfl (lv_at hl 3 rfl) ?_
  refine lv_iconst (v := 1) C.1.1 C.1.2.1 dL_law_939 (by decide) ?_
  refine lv_iadd C.1.1 C.1.2.1 dL_law_940 ?_
  refine va_sld C.1.1 C.1.2.1 hX hbl hbA hW.2 (vin_j (j := 1) rfl (by omega) hi hL) dL_law_941 ?_
  refine cVi C hW (mX6_shut hk6 f6) hk6 kvX6_shut w_938 ⟨(Nat.le_of_ble_eq_true rfl), (Nat.le_of_ble_eq_true rfl)⟩ ⟨(Nat.le_of_ble_eq_true rfl), (Nat.le_of_ble_eq_true rfl)⟩ rfl hl.1 (rest := []) rfl (Nat.le_of_ble_eq_true rfl) dL_law_942 (fun H locs hok hW => ?_)
  refine lv_aload_n C.1.1 C.1.2.1 dL_law_945 rfl (lv_at hl 2 rfl) ?_
  refine lv_aload_n C.1.1 C.1.2.1 dL_law_946 rfl (lv_at hl 0 rfl) ?_
  refine lv_iload_n C.1.1 C.1.2.1 dL_law_947 rfl (lv_at hl 3 rfl) ?_
  refine lv_iconst (v := 1) C.1.1 C.1.2.1 dL_law_948 (by decide) ?_
  refine lv_iadd C.1.1 C.1.2.1 dL_law_949 ?_
  refine va_sld C.1.1 C.1.2.1 hX hbl hbA hW.2 (vin_j (j := 1) rfl (by omega) hi hL) dL_law_950 ?_
  refine cVi C hW (mX7_shut hk7 f7) hk7 kvX7_shut w_1607 ⟨(Nat.le_of_ble_eq_true rfl), (Nat.le_of_ble_eq_true rfl)⟩ ⟨(Nat.le_of_ble_eq_true rfl), (Nat.le_of_ble_eq_true rfl)⟩ rfl hl.1 (rest := [.int r]) rfl (Nat.le_of_ble_eq_true rfl) dL_law_951 (fun H locs hok hW => ?_)
  refine lv_icmp_eq (tgt := 1222) C.1.1 C.1.2.1 dL_law_954 (by decide) (fun h9 => ?_) (fun h9 => absurd rfl h9)
  exact K σ2 _ _ hW hR2
set_option maxRecDepth 100000 in
set_option maxHeartbeats 4000000 in
theorem lc_27 {p : Program} {l : Launch} {e : Env} {s : State} {m : MethodId} {below : List Frame} {meth : Method} {c : Code} {b L : Nat} {xs : Nat → Int32} {G : Gm} {i : Nat} {σ : Sg} {H : Heap} {locs : List Loc} {ls : Array Slot} (E : EnvL p s m c b L xs G) (hi : i + 6 ≤ L) (hW : Ws G σ s.heap H locs) (hR : RLe 442 σ) (hl : lv_has ls 4 (LL b G i)) (K : ∀ σ H locs, Ws G σ s.heap H locs → RLe 442 σ → WL p l e s m b below meth c H locs 1222 ls []) : WL p l e s m b below meth c H locs 959 ls [] := by
  obtain ⟨C, hB, hk6, hk7, hX, hbl, hL⟩ := E
  have hbA : ¬ (fun q : Nat => gB G ≤ q) b := by show ¬ gB G ≤ b; rw [hB]; exact Nat.not_le.mpr hbl
  have hl : lv_has ls 4 [(0, .ref b), (1, .ref (gB G + 0)), (2, .ref (gB G + 442)), (3, .int (nI i))] := hl
  obtain ⟨t, t', ℓ, n, mm, bo, dr, lb, lf, sd, hRL⟩ := hR
  obtain ⟨r, σ1, σ2, f6, f7, hR2⟩ := ag_then hRL (xs (nI i + 1).toNatClampNeg) (xs (nI i + 2).toNatClampNeg) (xs (nI i + 3).toNatClampNeg)
  have hR2 : RLe 442 σ2 := ⟨t, t', ℓ, n, mm, bo, dr, lb, lf, sd, hR2⟩
  refine lv_aload_n C.1.1 C.1.2.1 dL_law_959 rfl (lv_at hl 1 rfl) ?_
  refine lv_aload_n C.1.1 C.1.2.1 dL_law_960 rfl (lv_at hl 0 rfl) ?_
  refine lv_iload_n C.1.1 C.1.2.1 dL_law_961 rfl (lv_at hl 3 rfl) ?_
  refine lv_iconst (v := 1) C.1.1 C.1.2.1 dL_law_962 (by decide) ?_
  refine lv_iadd C.1.1 C.1.2.1 dL_law_963 ?_
  refine va_sld C.1.1 C.1.2.1 hX hbl hbA hW.2 (vin_j (j := 1) rfl (by omega) hi hL) dL_law_964 ?_
  refine lv_aload_n C.1.1 C.1.2.1 dL_law_965 rfl (lv_at hl 0 rfl) ?_
  refine lv_iload_n C.1.1 C.1.2.1 dL_law_966 rfl (lv_at hl 3 rfl) ?_
  refine lv_iconst (v := 2) C.1.1 C.1.2.1 dL_law_967 (by decide) ?_
  refine lv_iadd C.1.1 C.1.2.1 dL_law_968 ?_
  refine va_sld C.1.1 C.1.2.1 hX hbl hbA hW.2 (vin_j (j := 2) rfl (by omega) hi hL) dL_law_969 ?_
  refine lv_aload_n C.1.1 C.1.2.1 dL_law_970 rfl (lv_at hl 0 rfl) ?_
  refine lv_iload_n C.1.1 C.1.2.1 dL_law_971 rfl (lv_at hl 3 rfl) ?_
  refine lv_iconst (v := 3) C.1.1 C.1.2.1 dL_law_972 (by decide) ?_
  refine lv_iadd C.1.1 C.1.2.1 dL_law_973 ?_
  refine va_sld C.1.1 C.1.2.1 hX hbl hbA hW.2 (vin_j (j := 3) rfl (by omega) hi hL) dL_law_974 ?_
  refine cVi C hW (mX6_then hk6 f6) hk6 kvX6_then w_969 ⟨(Nat.le_of_ble_eq_true rfl), (Nat.le_of_ble_eq_true rfl)⟩ ⟨(Nat.le_of_ble_eq_true rfl), (Nat.le_of_ble_eq_true rfl)⟩ rfl hl.1 (rest := []) rfl (Nat.le_of_ble_eq_true rfl) dL_law_975 (fun H locs hok hW => ?_)
  refine lv_aload_n C.1.1 C.1.2.1 dL_law_978 rfl (lv_at hl 2 rfl) ?_
  refine lv_aload_n C.1.1 C.1.2.1 dL_law_979 rfl (lv_at hl 0 rfl) ?_
  refine lv_iload_n C.1.1 C.1.2.1 dL_law_980 rfl (lv_at hl 3 rfl) ?_
  refine lv_iconst (v := 1) C.1.1 C.1.2.1 dL_law_981 (by decide) ?_
  refine lv_iadd C.1.1 C.1.2.1 dL_law_982 ?_
  refine va_sld C.1.1 C.1.2.1 hX hbl hbA hW.2 (vin_j (j := 1) rfl (by omega) hi hL) dL_law_983 ?_
  refine lv_aload_n C.1.1 C.1.2.1 dL_law_984 rfl (lv_at hl 0 rfl) ?_
  refine lv_iload_n C.1.1 C.1.2.1 dL_law_985 rfl (lv_at hl 3 rfl) ?_
  refine lv_iconst (v := 2) C.1.1 C.1.2.1 dL_law_986 (by decide) ?_
  refine lv_iadd C.1.1 C.1.2.1 dL_law_987 ?_
  refine va_sld C.1.1 C.1.2.1 hX hbl hbA hW.2 (vin_j (j := 2) rfl (by omega) hi hL) dL_law_988 ?_
  refine lv_aload_n C.1.1 C.1.2.1 dL_law_989 rfl (lv_at hl 0 rfl) ?_
  refine lv_iload_n C.1.1 C.1.2.1 dL_law_990 rfl (lv_at hl 3 rfl) ?_
  refine lv_iconst (v := 3) C.1.1 C.1.2.1 dL_law_991 (by decide) ?_
  refine lv_iadd C.1.1 C.1.2.1 dL_law_992 ?_
  refine va_sld C.1.1 C.1.2.1 hX hbl hbA hW.2 (vin_j (j := 3) rfl (by omega) hi hL) dL_law_993 ?_
  refine cVi C hW (mX7_then hk7 f7) hk7 kvX7_then w_1615 ⟨(Nat.le_of_ble_eq_true rfl), (Nat.le_of_ble_eq_true rfl)⟩ ⟨(Nat.le_of_ble_eq_true rfl), (Nat.le_of_ble_eq_true rfl)⟩ rfl hl.1 (rest := [.int r]) rfl (Nat.le_of_ble_eq_true rfl) dL_law_994 (fun H locs hok hW => ?_)
  refine lv_icmp_eq (tgt := 1222) C.1.1 C.1.2.1 dL_law_997 (by decide) (fun h9 => ?_) (fun h9 => absurd rfl h9)
  exact K σ2 _ _ hW hR2
set_option maxRecDepth 100000 in
set_option maxHeartbeats 4000000 in
theorem lc_28 {p : Program} {l : Launch} {e : Env} {s : State} {m : MethodId} {below : List Frame} {meth : Method} {c : Code} {b L : Nat} {xs : Nat → Int32} {G : Gm} {i : Nat} {σ : Sg} {H : Heap} {locs : List Loc} {ls : Array Slot} (E : EnvL p s m c b L xs G) (hi : i + 6 ≤ L) (hW : Ws G σ s.heap H locs) (hR : RLe 442 σ) (hl : lv_has ls 4 (LL b G i)) (K : ∀ σ H locs, Ws G σ s.heap H locs → RLe 442 σ → WL p l e s m b below meth c H locs 1222 ls []) : WL p l e s m b below meth c H locs 1002 ls [] := by
  obtain ⟨C, hB, hk6, hk7, hX, hbl, hL⟩ := E
  have hbA : ¬ (fun q : Nat => gB G ≤ q) b := by show ¬ gB G ≤ b; rw [hB]; exact Nat.not_le.mpr hbl
  have hl : lv_has ls 4 [(0, .ref b), (1, .ref (gB G + 0)), (2, .ref (gB G + 442)), (3, .int (nI i))] := hl
  obtain ⟨t, t', ℓ, n, mm, bo, dr, lb, lf, sd, hRL⟩ := hR
  obtain ⟨r, σ1, σ2, f6, f7, hR2⟩ := ag_year hRL (xs (nI i + 1).toNatClampNeg) (xs (nI i + 2).toNatClampNeg)
  have hR2 : RLe 442 σ2 := ⟨t, t', ℓ, n, mm, bo, dr, lb, lf, sd, hR2⟩
  refine lv_aload_n C.1.1 C.1.2.1 dL_law_1002 rfl (lv_at hl 1 rfl) ?_
  refine lv_aload_n C.1.1 C.1.2.1 dL_law_1003 rfl (lv_at hl 0 rfl) ?_
  refine lv_iload_n C.1.1 C.1.2.1 dL_law_1004 rfl (lv_at hl 3 rfl) ?_
  refine lv_iconst (v := 1) C.1.1 C.1.2.1 dL_law_1005 (by decide) ?_
  refine lv_iadd C.1.1 C.1.2.1 dL_law_1006 ?_
  refine va_sld C.1.1 C.1.2.1 hX hbl hbA hW.2 (vin_j (j := 1) rfl (by omega) hi hL) dL_law_1007 ?_
  refine lv_aload_n C.1.1 C.1.2.1 dL_law_1008 rfl (lv_at hl 0 rfl) ?_
  refine lv_iload_n C.1.1 C.1.2.1 dL_law_1009 rfl (lv_at hl 3 rfl) ?_
  refine lv_iconst (v := 2) C.1.1 C.1.2.1 dL_law_1010 (by decide) ?_
  refine lv_iadd C.1.1 C.1.2.1 dL_law_1011 ?_
  refine va_sld C.1.1 C.1.2.1 hX hbl hbA hW.2 (vin_j (j := 2) rfl (by omega) hi hL) dL_law_1012 ?_
  refine cVi C hW (mX6_year hk6 f6) hk6 kvX6_year w_973 ⟨(Nat.le_of_ble_eq_true rfl), (Nat.le_of_ble_eq_true rfl)⟩ ⟨(Nat.le_of_ble_eq_true rfl), (Nat.le_of_ble_eq_true rfl)⟩ rfl hl.1 (rest := []) rfl (Nat.le_of_ble_eq_true rfl) dL_law_1013 (fun H locs hok hW => ?_)
  refine lv_aload_n C.1.1 C.1.2.1 dL_law_1016 rfl (lv_at hl 2 rfl) ?_
  refine lv_aload_n C.1.1 C.1.2.1 dL_law_1017 rfl (lv_at hl 0 rfl) ?_
  refine lv_iload_n C.1.1 C.1.2.1 dL_law_1018 rfl (lv_at hl 3 rfl) ?_
  refine lv_iconst (v := 1) C.1.1 C.1.2.1 dL_law_1019 (by decide) ?_
  refine lv_iadd C.1.1 C.1.2.1 dL_law_1020 ?_
  refine va_sld C.1.1 C.1.2.1 hX hbl hbA hW.2 (vin_j (j := 1) rfl (by omega) hi hL) dL_law_1021 ?_
  refine lv_aload_n C.1.1 C.1.2.1 dL_law_1022 rfl (lv_at hl 0 rfl) ?_
  refine lv_iload_n C.1.1 C.1.2.1 dL_law_1023 rfl (lv_at hl 3 rfl) ?_
  refine lv_iconst (v := 2) C.1.1 C.1.2.1 dL_law_1024 (by decide) ?_
  refine lv_iadd C.1.1 C.1.2.1 dL_law_1025 ?_
  refine va_sld C.1.1 C.1.2.1 hX hbl hbA hW.2 (vin_j (j := 2) rfl (by omega) hi hL) dL_law_1026 ?_
  refine cVi C hW (mX7_year hk7 f7) hk7 kvX7_year w_1619 ⟨(Nat.le_of_ble_eq_true rfl), (Nat.le_of_ble_eq_true rfl)⟩ ⟨(Nat.le_of_ble_eq_true rfl), (Nat.le_of_ble_eq_true rfl)⟩ rfl hl.1 (rest := [.int r]) rfl (Nat.le_of_ble_eq_true rfl) dL_law_1027 (fun H locs hok hW => ?_)
  refine lv_icmp_eq (tgt := 1222) C.1.1 C.1.2.1 dL_law_1030 (by decide) (fun h9 => ?_) (fun h9 => absurd rfl h9)
  exact K σ2 _ _ hW hR2
set_option maxRecDepth 100000 in
set_option maxHeartbeats 4000000 in
theorem lc_29 {p : Program} {l : Launch} {e : Env} {s : State} {m : MethodId} {below : List Frame} {meth : Method} {c : Code} {b L : Nat} {xs : Nat → Int32} {G : Gm} {i : Nat} {σ : Sg} {H : Heap} {locs : List Loc} {ls : Array Slot} (E : EnvL p s m c b L xs G) (hi : i + 6 ≤ L) (hW : Ws G σ s.heap H locs) (hR : RLe 442 σ) (hl : lv_has ls 4 (LL b G i)) (K : ∀ σ H locs, Ws G σ s.heap H locs → RLe 442 σ → WL p l e s m b below meth c H locs 1222 ls []) : WL p l e s m b below meth c H locs 1035 ls [] := by
  obtain ⟨C, hB, hk6, hk7, hX, hbl, hL⟩ := E
  have hbA : ¬ (fun q : Nat => gB G ≤ q) b := by show ¬ gB G ≤ b; rw [hB]; exact Nat.not_le.mpr hbl
  have hl : lv_has ls 4 [(0, .ref b), (1, .ref (gB G + 0)), (2, .ref (gB G + 442)), (3, .int (nI i))] := hl
  obtain ⟨t, t', ℓ, n, mm, bo, dr, lb, lf, sd, hRL⟩ := hR
  by_cases hz : (xs (nI i + 2).toNatClampNeg) = 0
  · obtain ⟨r, σ1, σ2, f6, f7, hR2⟩ := ag_tell hRL (xs (nI i + 1).toNatClampNeg) 0
    have hR2 : RLe 442 σ2 := ⟨t, t', ℓ, n, mm, bo, dr, lb, lf, sd, hR2⟩
    refine lv_aload_n C.1.1 C.1.2.1 dL_law_1035 rfl (lv_at hl 1 rfl) ?_
    refine lv_aload_n C.1.1 C.1.2.1 dL_law_1036 rfl (lv_at hl 0 rfl) ?_
    refine lv_iload_n C.1.1 C.1.2.1 dL_law_1037 rfl (lv_at hl 3 rfl) ?_
    refine lv_iconst (v := 1) C.1.1 C.1.2.1 dL_law_1038 (by decide) ?_
    refine lv_iadd C.1.1 C.1.2.1 dL_law_1039 ?_
    refine va_sld C.1.1 C.1.2.1 hX hbl hbA hW.2 (vin_j (j := 1) rfl (by omega) hi hL) dL_law_1040 ?_
    refine lv_aload_n C.1.1 C.1.2.1 dL_law_1041 rfl (lv_at hl 0 rfl) ?_
    refine lv_iload_n C.1.1 C.1.2.1 dL_law_1042 rfl (lv_at hl 3 rfl) ?_
    refine lv_iconst (v := 2) C.1.1 C.1.2.1 dL_law_1043 (by decide) ?_
    refine lv_iadd C.1.1 C.1.2.1 dL_law_1044 ?_
    refine va_sld C.1.1 C.1.2.1 hX hbl hbA hW.2 (vin_j (j := 2) rfl (by omega) hi hL) dL_law_1045 ?_
    refine lv_if_eq (tgt := 1053) C.1.1 C.1.2.1 dL_law_1046 (by decide) (fun h9 => ?_) (fun h9 => absurd hz h9)
    refine lv_iconst (v := 0) C.1.1 C.1.2.1 dL_law_1053 (by decide) ?_
    refine cVi C hW (mX6_tell hk6 f6) hk6 kvX6_tell w_977 ⟨(Nat.le_of_ble_eq_true rfl), (Nat.le_of_ble_eq_true rfl)⟩ ⟨(Nat.le_of_ble_eq_true rfl), (Nat.le_of_ble_eq_true rfl)⟩ rfl hl.1 (rest := []) rfl (Nat.le_of_ble_eq_true rfl) dL_law_1054 (fun H locs hok hW => ?_)
    refine lv_aload_n C.1.1 C.1.2.1 dL_law_1057 rfl (lv_at hl 2 rfl) ?_
    refine lv_aload_n C.1.1 C.1.2.1 dL_law_1058 rfl (lv_at hl 0 rfl) ?_
    refine lv_iload_n C.1.1 C.1.2.1 dL_law_1059 rfl (lv_at hl 3 rfl) ?_
    refine lv_iconst (v := 1) C.1.1 C.1.2.1 dL_law_1060 (by decide) ?_
    refine lv_iadd C.1.1 C.1.2.1 dL_law_1061 ?_
    refine va_sld C.1.1 C.1.2.1 hX hbl hbA hW.2 (vin_j (j := 1) rfl (by omega) hi hL) dL_law_1062 ?_
    refine lv_aload_n C.1.1 C.1.2.1 dL_law_1063 rfl (lv_at hl 0 rfl) ?_
    refine lv_iload_n C.1.1 C.1.2.1 dL_law_1064 rfl (lv_at hl 3 rfl) ?_
    refine lv_iconst (v := 2) C.1.1 C.1.2.1 dL_law_1065 (by decide) ?_
    refine lv_iadd C.1.1 C.1.2.1 dL_law_1066 ?_
    refine va_sld C.1.1 C.1.2.1 hX hbl hbA hW.2 (vin_j (j := 2) rfl (by omega) hi hL) dL_law_1067 ?_
    refine lv_if_eq (tgt := 1075) C.1.1 C.1.2.1 dL_law_1068 (by decide) (fun h9 => ?_) (fun h9 => absurd hz h9)
    refine lv_iconst (v := 0) C.1.1 C.1.2.1 dL_law_1075 (by decide) ?_
    refine cVi C hW (mX7_tell hk7 f7) hk7 kvX7_tell w_1623 ⟨(Nat.le_of_ble_eq_true rfl), (Nat.le_of_ble_eq_true rfl)⟩ ⟨(Nat.le_of_ble_eq_true rfl), (Nat.le_of_ble_eq_true rfl)⟩ rfl hl.1 (rest := [.int r]) rfl (Nat.le_of_ble_eq_true rfl) dL_law_1076 (fun H locs hok hW => ?_)
    refine lv_icmp_eq (tgt := 1222) C.1.1 C.1.2.1 dL_law_1079 (by decide) (fun h9 => ?_) (fun h9 => absurd rfl h9)
    exact K σ2 _ _ hW hR2
  · obtain ⟨r, σ1, σ2, f6, f7, hR2⟩ := ag_tell hRL (xs (nI i + 1).toNatClampNeg) 1
    have hR2 : RLe 442 σ2 := ⟨t, t', ℓ, n, mm, bo, dr, lb, lf, sd, hR2⟩
    refine lv_aload_n C.1.1 C.1.2.1 dL_law_1035 rfl (lv_at hl 1 rfl) ?_
    refine lv_aload_n C.1.1 C.1.2.1 dL_law_1036 rfl (lv_at hl 0 rfl) ?_
    refine lv_iload_n C.1.1 C.1.2.1 dL_law_1037 rfl (lv_at hl 3 rfl) ?_
    refine lv_iconst (v := 1) C.1.1 C.1.2.1 dL_law_1038 (by decide) ?_
    refine lv_iadd C.1.1 C.1.2.1 dL_law_1039 ?_
    refine va_sld C.1.1 C.1.2.1 hX hbl hbA hW.2 (vin_j (j := 1) rfl (by omega) hi hL) dL_law_1040 ?_
    refine lv_aload_n C.1.1 C.1.2.1 dL_law_1041 rfl (lv_at hl 0 rfl) ?_
    refine lv_iload_n C.1.1 C.1.2.1 dL_law_1042 rfl (lv_at hl 3 rfl) ?_
    refine lv_iconst (v := 2) C.1.1 C.1.2.1 dL_law_1043 (by decide) ?_
    refine lv_iadd C.1.1 C.1.2.1 dL_law_1044 ?_
    refine va_sld C.1.1 C.1.2.1 hX hbl hbA hW.2 (vin_j (j := 2) rfl (by omega) hi hL) dL_law_1045 ?_
    refine lv_if_eq (tgt := 1053) C.1.1 C.1.2.1 dL_law_1046 (by decide) (fun h9 => absurd h9 hz) (fun h9 => ?_)
    refine lv_iconst (v := 1) C.1.1 C.1.2.1 dL_law_1049 (by decide) ?_
    refine lv_goto (tgt := 1054) C.1.1 C.1.2.1 dL_law_1050 (by decide) ?_
    refine cVi C hW (mX6_tell hk6 f6) hk6 kvX6_tell w_977 ⟨(Nat.le_of_ble_eq_true rfl), (Nat.le_of_ble_eq_true rfl)⟩ ⟨(Nat.le_of_ble_eq_true rfl), (Nat.le_of_ble_eq_true rfl)⟩ rfl hl.1 (rest := []) rfl (Nat.le_of_ble_eq_true rfl) dL_law_1054 (fun H locs hok hW => ?_)
    refine lv_aload_n C.1.1 C.1.2.1 dL_law_1057 rfl (lv_at hl 2 rfl) ?_
    refine lv_aload_n C.1.1 C.1.2.1 dL_law_1058 rfl (lv_at hl 0 rfl) ?_
    refine lv_iload_n C.1.1 C.1.2.1 dL_law_1059 rfl (lv_at hl 3 rfl) ?_
    refine lv_iconst (v := 1) C.1.1 C.1.2.1 dL_law_1060 (by decide) ?_
    refine lv_iadd C.1.1 C.1.2.1 dL_law_1061 ?_
    refine va_sld C.1.1 C.1.2.1 hX hbl hbA hW.2 (vin_j (j := 1) rfl (by omega) hi hL) dL_law_1062 ?_
    refine lv_aload_n C.1.1 C.1.2.1 dL_law_1063 rfl (lv_at hl 0 rfl) ?_
    refine lv_iload_n C.1.1 C.1.2.1 dL_law_1064 rfl (lv_at hl 3 rfl) ?_
    refine lv_iconst (v := 2) C.1.1 C.1.2.1 dL_law_1065 (by decide) ?_
    refine lv_iadd C.1.1 C.1.2.1 dL_law_1066 ?_
    refine va_sld C.1.1 C.1.2.1 hX hbl hbA hW.2 (vin_j (j := 2) rfl (by omega) hi hL) dL_law_1067 ?_
    refine lv_if_eq (tgt := 1075) C.1.1 C.1.2.1 dL_law_1068 (by decide) (fun h9 => absurd h9 hz) (fun h9 => ?_)
    refine lv_iconst (v := 1) C.1.1 C.1.2.1 dL_law_1071 (by decide) ?_
    refine lv_goto (tgt := 1076) C.1.1 C.1.2.1 dL_law_1072 (by decide) ?_
    refine cVi C hW (mX7_tell hk7 f7) hk7 kvX7_tell w_1623 ⟨(Nat.le_of_ble_eq_true rfl), (Nat.le_of_ble_eq_true rfl)⟩ ⟨(Nat.le_of_ble_eq_true rfl), (Nat.le_of_ble_eq_true rfl)⟩ rfl hl.1 (rest := [.int r]) rfl (Nat.le_of_ble_eq_true rfl) dL_law_1076 (fun H locs hok hW => ?_)
    refine lv_icmp_eq (tgt := 1222) C.1.1 C.1.2.1 dL_law_1079 (by decide) (fun h9 => ?_) (fun h9 => absurd rfl h9)
    exact K σ2 _ _ hW hR2
set_option maxRecDepth 100000 in
set_option maxHeartbeats 4000000 in
theorem lc_30 {p : Program} {l : Launch} {e : Env} {s : State} {m : MethodId} {below : List Frame} {meth : Method} {c : Code} {b L : Nat} {xs : Nat → Int32} {G : Gm} {i : Nat} {σ : Sg} {H : Heap} {locs : List Loc} {ls : Array Slot} (E : EnvL p s m c b L xs G) (hi : i + 6 ≤ L) (hW : Ws G σ s.heap H locs) (hR : RLe 442 σ) (hl : lv_has ls 4 (LL b G i)) (K : ∀ σ H locs, Ws G σ s.heap H locs → RLe 442 σ → WL p l e s m b below meth c H locs 1222 ls []) : WL p l e s m b below meth c H locs 1084 ls [] := by
  obtain ⟨C, hB, hk6, hk7, hX, hbl, hL⟩ := E
  have hbA : ¬ (fun q : Nat => gB G ≤ q) b := by show ¬ gB G ≤ b; rw [hB]; exact Nat.not_le.mpr hbl
  have hl : lv_has ls 4 [(0, .ref b), (1, .ref (gB G + 0)), (2, .ref (gB G + 442)), (3, .int (nI i))] := hl
  obtain ⟨t, t', ℓ, n, mm, bo, dr, lb, lf, sd, hRL⟩ := hR
  obtain ⟨r, σ1, σ2, f6, f7, hR2⟩ := ag_forget hRL
  have hR2 : RLe 442 σ2 := ⟨t, t', ℓ, n, mm, bo, dr, lb, lf, sd, hR2⟩
  refine lv_aload_n C.1.1 C.1.2.1 dL_law_1084 rfl (lv_at hl 1 rfl) ?_
  refine cVi C hW (mX6_forget hk6 f6) hk6 kvX6_forget w_981 ⟨(Nat.le_of_ble_eq_true rfl), (Nat.le_of_ble_eq_true rfl)⟩ ⟨(Nat.le_of_ble_eq_true rfl), (Nat.le_of_ble_eq_true rfl)⟩ rfl hl.1 (rest := []) rfl (Nat.le_of_ble_eq_true rfl) dL_law_1085 (fun H locs hok hW => ?_)
  refine lv_aload_n C.1.1 C.1.2.1 dL_law_1088 rfl (lv_at hl 2 rfl) ?_
  refine cVi C hW (mX7_forget hk7 f7) hk7 kvX7_forget w_1627 ⟨(Nat.le_of_ble_eq_true rfl), (Nat.le_of_ble_eq_true rfl)⟩ ⟨(Nat.le_of_ble_eq_true rfl), (Nat.le_of_ble_eq_true rfl)⟩ rfl hl.1 (rest := [.int r]) rfl (Nat.le_of_ble_eq_true rfl) dL_law_1089 (fun H locs hok hW => ?_)
  refine lv_icmp_eq (tgt := 1222) C.1.1 C.1.2.1 dL_law_1092 (by decide) (fun h9 => ?_) (fun h9 => absurd rfl h9)
  exact K σ2 _ _ hW hR2
set_option maxRecDepth 100000 in
set_option maxHeartbeats 4000000 in
theorem lc_31 {p : Program} {l : Launch} {e : Env} {s : State} {m : MethodId} {below : List Frame} {meth : Method} {c : Code} {b L : Nat} {xs : Nat → Int32} {G : Gm} {i : Nat} {σ : Sg} {H : Heap} {locs : List Loc} {ls : Array Slot} (E : EnvL p s m c b L xs G) (hi : i + 6 ≤ L) (hW : Ws G σ s.heap H locs) (hR : RLe 442 σ) (hl : lv_has ls 4 (LL b G i)) (K : ∀ σ H locs, Ws G σ s.heap H locs → RLe 442 σ → WL p l e s m b below meth c H locs 1222 ls []) : WL p l e s m b below meth c H locs 1097 ls [] := by
  obtain ⟨C, hB, hk6, hk7, hX, hbl, hL⟩ := E
  have hbA : ¬ (fun q : Nat => gB G ≤ q) b := by show ¬ gB G ≤ b; rw [hB]; exact Nat.not_le.mpr hbl
  have hl : lv_has ls 4 [(0, .ref b), (1, .ref (gB G + 0)), (2, .ref (gB G + 442)), (3, .int (nI i))] := hl
  obtain ⟨t, t', ℓ, n, mm, bo, dr, lb, lf, sd, hRL⟩ := hR
  obtain ⟨r, σ1, σ2, f6, f7, hR2⟩ := ag_overslept hRL (xs (nI i + 1).toNatClampNeg) (xs (nI i + 2).toNatClampNeg)
  have hR2 : RLe 442 σ2 := ⟨t, t', ℓ, n, mm, bo, dr, lb, lf, sd, hR2⟩
  refine lv_aload_n C.1.1 C.1.2.1 dL_law_1097 rfl (lv_at hl 1 rfl) ?_
  refine lv_aload_n C.1.1 C.1.2.1 dL_law_1098 rfl (lv_at hl 0 rfl) ?_
  refine lv_iload_n C.1.1 C.1.2.1 dL_law_1099 rfl (lv_at hl 3 rfl) ?_
  refine lv_iconst (v := 1) C.1.1 C.1.2.1 dL_law_1100 (by decide) ?_
  refine lv_iadd C.1.1 C.1.2.1 dL_law_1101 ?_
  refine va_sld C.1.1 C.1.2.1 hX hbl hbA hW.2 (vin_j (j := 1) rfl (by omega) hi hL) dL_law_1102 ?_
  refine lv_aload_n C.1.1 C.1.2.1 dL_law_1103 rfl (lv_at hl 0 rfl) ?_
  refine lv_iload_n C.1.1 C.1.2.1 dL_law_1104 rfl (lv_at hl 3 rfl) ?_
  refine lv_iconst (v := 2) C.1.1 C.1.2.1 dL_law_1105 (by decide) ?_
  refine lv_iadd C.1.1 C.1.2.1 dL_law_1106 ?_
  refine va_sld C.1.1 C.1.2.1 hX hbl hbA hW.2 (vin_j (j := 2) rfl (by omega) hi hL) dL_law_1107 ?_
  refine cVi C hW (mX6_overslept hk6 f6) hk6 kvX6_overslept w_985 ⟨(Nat.le_of_ble_eq_true rfl), (Nat.le_of_ble_eq_true rfl)⟩ ⟨(Nat.le_of_ble_eq_true rfl), (Nat.le_of_ble_eq_true rfl)⟩ rfl hl.1 (rest := []) rfl (Nat.le_of_ble_eq_true rfl) dL_law_1108 (fun H locs hok hW => ?_)
  refine lv_aload_n C.1.1 C.1.2.1 dL_law_1111 rfl (lv_at hl 2 rfl) ?_
  refine lv_aload_n C.1.1 C.1.2.1 dL_law_1112 rfl (lv_at hl 0 rfl) ?_
  refine lv_iload_n C.1.1 C.1.2.1 dL_law_1113 rfl (lv_at hl 3 rfl) ?_
  refine lv_iconst (v := 1) C.1.1 C.1.2.1 dL_law_1114 (by decide) ?_
  refine lv_iadd C.1.1 C.1.2.1 dL_law_1115 ?_
  refine va_sld C.1.1 C.1.2.1 hX hbl hbA hW.2 (vin_j (j := 1) rfl (by omega) hi hL) dL_law_1116 ?_
  refine lv_aload_n C.1.1 C.1.2.1 dL_law_1117 rfl (lv_at hl 0 rfl) ?_
  refine lv_iload_n C.1.1 C.1.2.1 dL_law_1118 rfl (lv_at hl 3 rfl) ?_
  refine lv_iconst (v := 2) C.1.1 C.1.2.1 dL_law_1119 (by decide) ?_
  refine lv_iadd C.1.1 C.1.2.1 dL_law_1120 ?_
  refine va_sld C.1.1 C.1.2.1 hX hbl hbA hW.2 (vin_j (j := 2) rfl (by omega) hi hL) dL_law_1121 ?_
  refine cVi C hW (mX7_overslept hk7 f7) hk7 kvX7_overslept w_1631 ⟨(Nat.le_of_ble_eq_true rfl), (Nat.le_of_ble_eq_true rfl)⟩ ⟨(Nat.le_of_ble_eq_true rfl), (Nat.le_of_ble_eq_true rfl)⟩ rfl hl.1 (rest := [.int r]) rfl (Nat.le_of_ble_eq_true rfl) dL_law_1122 (fun H locs hok hW => ?_)
  refine lv_icmp_eq (tgt := 1222) C.1.1 C.1.2.1 dL_law_1125 (by decide) (fun h9 => ?_) (fun h9 => absurd rfl h9)
  exact K σ2 _ _ hW hR2
set_option maxRecDepth 100000 in
set_option maxHeartbeats 4000000 in
theorem lc_32 {p : Program} {l : Launch} {e : Env} {s : State} {m : MethodId} {below : List Frame} {meth : Method} {c : Code} {b L : Nat} {xs : Nat → Int32} {G : Gm} {i : Nat} {σ : Sg} {H : Heap} {locs : List Loc} {ls : Array Slot} (E : EnvL p s m c b L xs G) (hi : i + 6 ≤ L) (hW : Ws G σ s.heap H locs) (hR : RLe 442 σ) (hl : lv_has ls 4 (LL b G i)) (K : ∀ σ H locs, Ws G σ s.heap H locs → RLe 442 σ → WL p l e s m b below meth c H locs 1222 ls []) : WL p l e s m b below meth c H locs 1130 ls [] := by
  obtain ⟨C, hB, hk6, hk7, hX, hbl, hL⟩ := E
  have hbA : ¬ (fun q : Nat => gB G ≤ q) b := by show ¬ gB G ≤ b; rw [hB]; exact Nat.not_le.mpr hbl
  have hl : lv_has ls 4 [(0, .ref b), (1, .ref (gB G + 0)), (2, .ref (gB G + 442)), (3, .int (nI i))] := hl
  obtain ⟨t, t', ℓ, n, mm, bo, dr, lb, lf, sd, hRL⟩ := hR
  obtain ⟨r, σ1, σ2, f6, f7, hR2⟩ := ag_ask hRL (xs (nI i + 1).toNatClampNeg)
  have hR2 : RLe 442 σ2 := ⟨t, t', ℓ, n, mm, bo, dr, lb, lf, sd, hR2⟩
  refine lv_aload_n C.1.1 C.1.2.1 dL_law_1130 rfl (lv_at hl 1 rfl) ?_
  refine lv_aload_n C.1.1 C.1.2.1 dL_law_1131 rfl (lv_at hl 0 rfl) ?_
  refine lv_iload_n C.1.1 C.1.2.1 dL_law_1132 rfl (lv_at hl 3 rfl) ?_
  refine lv_iconst (v := 1) C.1.1 C.1.2.1 dL_law_1133 (by decide) ?_
  refine lv_iadd C.1.1 C.1.2.1 dL_law_1134 ?_
  refine va_sld C.1.1 C.1.2.1 hX hbl hbA hW.2 (vin_j (j := 1) rfl (by omega) hi hL) dL_law_1135 ?_
  refine cVi C hW (mX6_ask hk6 f6) hk6 kvX6_ask w_993 ⟨(Nat.le_of_ble_eq_true rfl), (Nat.le_of_ble_eq_true rfl)⟩ ⟨(Nat.le_of_ble_eq_true rfl), (Nat.le_of_ble_eq_true rfl)⟩ rfl hl.1 (rest := []) rfl (Nat.le_of_ble_eq_true rfl) dL_law_1136 (fun H locs hok hW => ?_)
  refine lv_aload_n C.1.1 C.1.2.1 dL_law_1139 rfl (lv_at hl 2 rfl) ?_
  refine lv_aload_n C.1.1 C.1.2.1 dL_law_1140 rfl (lv_at hl 0 rfl) ?_
  refine lv_iload_n C.1.1 C.1.2.1 dL_law_1141 rfl (lv_at hl 3 rfl) ?_
  refine lv_iconst (v := 1) C.1.1 C.1.2.1 dL_law_1142 (by decide) ?_
  refine lv_iadd C.1.1 C.1.2.1 dL_law_1143 ?_
  refine va_sld C.1.1 C.1.2.1 hX hbl hbA hW.2 (vin_j (j := 1) rfl (by omega) hi hL) dL_law_1144 ?_
  refine cVi C hW (mX7_ask hk7 f7) hk7 kvX7_ask w_1639 ⟨(Nat.le_of_ble_eq_true rfl), (Nat.le_of_ble_eq_true rfl)⟩ ⟨(Nat.le_of_ble_eq_true rfl), (Nat.le_of_ble_eq_true rfl)⟩ rfl hl.1 (rest := [.int r]) rfl (Nat.le_of_ble_eq_true rfl) dL_law_1145 (fun H locs hok hW => ?_)
  refine lv_icmp_eq (tgt := 1222) C.1.1 C.1.2.1 dL_law_1148 (by decide) (fun h9 => ?_) (fun h9 => absurd rfl h9)
  exact K σ2 _ _ hW hR2
set_option maxRecDepth 100000 in
set_option maxHeartbeats 4000000 in
theorem lc_33 {p : Program} {l : Launch} {e : Env} {s : State} {m : MethodId} {below : List Frame} {meth : Method} {c : Code} {b L : Nat} {xs : Nat → Int32} {G : Gm} {i : Nat} {σ : Sg} {H : Heap} {locs : List Loc} {ls : Array Slot} (E : EnvL p s m c b L xs G) (hi : i + 6 ≤ L) (hW : Ws G σ s.heap H locs) (hR : RLe 442 σ) (hl : lv_has ls 4 (LL b G i)) (K : ∀ σ H locs, Ws G σ s.heap H locs → RLe 442 σ → WL p l e s m b below meth c H locs 1222 ls []) : WL p l e s m b below meth c H locs 1153 ls [] := by
  obtain ⟨C, hB, hk6, hk7, hX, hbl, hL⟩ := E
  have hbA : ¬ (fun q : Nat => gB G ≤ q) b := by show ¬ gB G ≤ b; rw [hB]; exact Nat.not_le.mpr hbl
  have hl : lv_has ls 4 [(0, .ref b), (1, .ref (gB G + 0)), (2, .ref (gB G + 442)), (3, .int (nI i))] := hl
  obtain ⟨t, t', ℓ, n, mm, bo, dr, lb, lf, sd, hRL⟩ := hR
  obtain ⟨r, σ1, σ2, f6, f7, hR2⟩ := ag_hold hRL (xs (nI i + 1).toNatClampNeg)
  have hR2 : RLe 442 σ2 := ⟨t, t', ℓ, n, mm, bo, dr, lb, lf, sd, hR2⟩
  refine lv_aload_n C.1.1 C.1.2.1 dL_law_1153 rfl (lv_at hl 1 rfl) ?_
  refine lv_aload_n C.1.1 C.1.2.1 dL_law_1154 rfl (lv_at hl 0 rfl) ?_
  refine lv_iload_n C.1.1 C.1.2.1 dL_law_1155 rfl (lv_at hl 3 rfl) ?_
  refine lv_iconst (v := 1) C.1.1 C.1.2.1 dL_law_1156 (by decide) ?_
  refine lv_iadd C.1.1 C.1.2.1 dL_law_1157 ?_
  refine va_sld C.1.1 C.1.2.1 hX hbl hbA hW.2 (vin_j (j := 1) rfl (by omega) hi hL) dL_law_1158 ?_
  refine cVi C hW (mX6_hold hk6 f6) hk6 kvX6_hold w_858 ⟨(Nat.le_of_ble_eq_true rfl), (Nat.le_of_ble_eq_true rfl)⟩ ⟨(Nat.le_of_ble_eq_true rfl), (Nat.le_of_ble_eq_true rfl)⟩ rfl hl.1 (rest := []) rfl (Nat.le_of_ble_eq_true rfl) dL_law_1159 (fun H locs hok hW => ?_)
  refine lv_aload_n C.1.1 C.1.2.1 dL_law_1162 rfl (lv_at hl 2 rfl) ?_
  refine lv_aload_n C.1.1 C.1.2.1 dL_law_1163 rfl (lv_at hl 0 rfl) ?_
  refine lv_iload_n C.1.1 C.1.2.1 dL_law_1164 rfl (lv_at hl 3 rfl) ?_
  refine lv_iconst (v := 1) C.1.1 C.1.2.1 dL_law_1165 (by decide) ?_
  refine lv_iadd C.1.1 C.1.2.1 dL_law_1166 ?_
  refine va_sld C.1.1 C.1.2.1 hX hbl hbA hW.2 (vin_j (j := 1) rfl (by omega) hi hL) dL_law_1167 ?_
  refine cVi C hW (mX7_hold hk7 f7) hk7 kvX7_hold w_1643 ⟨(Nat.le_of_ble_eq_true rfl), (Nat.le_of_ble_eq_true rfl)⟩ ⟨(Nat.le_of_ble_eq_true rfl), (Nat.le_of_ble_eq_true rfl)⟩ rfl hl.1 (rest := [.int r]) rfl (Nat.le_of_ble_eq_true rfl) dL_law_1168 (fun H locs hok hW => ?_)
  refine lv_icmp_eq (tgt := 1222) C.1.1 C.1.2.1 dL_law_1171 (by decide) (fun h9 => ?_) (fun h9 => absurd rfl h9)
  exact K σ2 _ _ hW hR2
set_option maxRecDepth 100000 in
set_option maxHeartbeats 4000000 in
theorem lc_34 {p : Program} {l : Launch} {e : Env} {s : State} {m : MethodId} {below : List Frame} {meth : Method} {c : Code} {b L : Nat} {xs : Nat → Int32} {G : Gm} {i : Nat} {σ : Sg} {H : Heap} {locs : List Loc} {ls : Array Slot} (E : EnvL p s m c b L xs G) (hi : i + 6 ≤ L) (hW : Ws G σ s.heap H locs) (hR : RLe 442 σ) (hl : lv_has ls 4 (LL b G i)) (K : ∀ σ H locs, Ws G σ s.heap H locs → RLe 442 σ → WL p l e s m b below meth c H locs 1222 ls []) : WL p l e s m b below meth c H locs 1176 ls [] := by
  obtain ⟨C, hB, hk6, hk7, hX, hbl, hL⟩ := E
  have hbA : ¬ (fun q : Nat => gB G ≤ q) b := by show ¬ gB G ≤ b; rw [hB]; exact Nat.not_le.mpr hbl
  have hl : lv_has ls 4 [(0, .ref b), (1, .ref (gB G + 0)), (2, .ref (gB G + 442)), (3, .int (nI i))] := hl
  obtain ⟨t, t', ℓ, n, mm, bo, dr, lb, lf, sd, hRL⟩ := hR
  obtain ⟨r, σ1, σ2, f6, f7, hR2⟩ := ag_restore hRL (xs (nI i + 1).toNatClampNeg)
  have hR2 : RLe 442 σ2 := ⟨t, t', ℓ, n, mm, bo, dr, lb, lf, sd, hR2⟩
  refine lv_aload_n C.1.1 C.1.2.1 dL_law_1176 rfl (lv_at hl 1 rfl) ?_
  refine lv_aload_n C.1.1 C.1.2.1 dL_law_1177 rfl (lv_at hl 0 rfl) ?_
  refine lv_iload_n C.1.1 C.1.2.1 dL_law_1178 rfl (lv_at hl 3 rfl) ?_
  refine lv_iconst (v := 1) C.1.1 C.1.2.1 dL_law_1179 (by decide) ?_
  refine lv_iadd C.1.1 C.1.2.1 dL_law_1180 ?_
  refine va_sld C.1.1 C.1.2.1 hX hbl hbA hW.2 (vin_j (j := 1) rfl (by omega) hi hL) dL_law_1181 ?_
  refine cVi C hW (mX6_restore hk6 f6) hk6 kvX6_restore w_865 ⟨(Nat.le_of_ble_eq_true rfl), (Nat.le_of_ble_eq_true rfl)⟩ ⟨(Nat.le_of_ble_eq_true rfl), (Nat.le_of_ble_eq_true rfl)⟩ rfl hl.1 (rest := []) rfl (Nat.le_of_ble_eq_true rfl) dL_law_1182 (fun H locs hok hW => ?_)
  refine lv_aload_n C.1.1 C.1.2.1 dL_law_1185 rfl (lv_at hl 2 rfl) ?_
  refine lv_aload_n C.1.1 C.1.2.1 dL_law_1186 rfl (lv_at hl 0 rfl) ?_
  refine lv_iload_n C.1.1 C.1.2.1 dL_law_1187 rfl (lv_at hl 3 rfl) ?_
  refine lv_iconst (v := 1) C.1.1 C.1.2.1 dL_law_1188 (by decide) ?_
  refine lv_iadd C.1.1 C.1.2.1 dL_law_1189 ?_
  refine va_sld C.1.1 C.1.2.1 hX hbl hbA hW.2 (vin_j (j := 1) rfl (by omega) hi hL) dL_law_1190 ?_
  refine cVi C hW (mX7_restore hk7 f7) hk7 kvX7_restore w_1647 ⟨(Nat.le_of_ble_eq_true rfl), (Nat.le_of_ble_eq_true rfl)⟩ ⟨(Nat.le_of_ble_eq_true rfl), (Nat.le_of_ble_eq_true rfl)⟩ rfl hl.1 (rest := [.int r]) rfl (Nat.le_of_ble_eq_true rfl) dL_law_1191 (fun H locs hok hW => ?_)
  refine lv_icmp_eq (tgt := 1222) C.1.1 C.1.2.1 dL_law_1194 (by decide) (fun h9 => ?_) (fun h9 => absurd rfl h9)
  exact K σ2 _ _ hW hR2
set_option maxRecDepth 100000 in
set_option maxHeartbeats 4000000 in
theorem lc_35 {p : Program} {l : Launch} {e : Env} {s : State} {m : MethodId} {below : List Frame} {meth : Method} {c : Code} {b L : Nat} {xs : Nat → Int32} {G : Gm} {i : Nat} {σ : Sg} {H : Heap} {locs : List Loc} {ls : Array Slot} (E : EnvL p s m c b L xs G) (hi : i + 6 ≤ L) (hW : Ws G σ s.heap H locs) (hR : RLe 442 σ) (hl : lv_has ls 4 (LL b G i)) (K : ∀ σ H locs, Ws G σ s.heap H locs → RLe 442 σ → WL p l e s m b below meth c H locs 1222 ls []) : WL p l e s m b below meth c H locs 1199 ls [] := by
  obtain ⟨C, hB, hk6, hk7, hX, hbl, hL⟩ := E
  have hbA : ¬ (fun q : Nat => gB G ≤ q) b := by show ¬ gB G ≤ b; rw [hB]; exact Nat.not_le.mpr hbl
  have hl : lv_has ls 4 [(0, .ref b), (1, .ref (gB G + 0)), (2, .ref (gB G + 442)), (3, .int (nI i))] := hl
  obtain ⟨t, t', ℓ, n, mm, bo, dr, lb, lf, sd, hRL⟩ := hR
  obtain ⟨r, σ1, σ2, f6, f7, hR2⟩ := ag_count hRL (xs (nI i + 1).toNatClampNeg)
  have hR2 : RLe 442 σ2 := ⟨t, t', ℓ, n, mm, bo, dr, lb, lf, sd, hR2⟩
  refine lv_aload_n C.1.1 C.1.2.1 dL_law_1199 rfl (lv_at hl 1 rfl) ?_
  refine lv_aload_n C.1.1 C.1.2.1 dL_law_1200 rfl (lv_at hl 0 rfl) ?_
  refine lv_iload_n C.1.1 C.1.2.1 dL_law_1201 rfl (lv_at hl 3 rfl) ?_
  refine lv_iconst (v := 1) C.1.1 C.1.2.1 dL_law_1202 (by decide) ?_
  refine lv_iadd C.1.1 C.1.2.1 dL_law_1203 ?_
  refine va_sld C.1.1 C.1.2.1 hX hbl hbA hW.2 (vin_j (j := 1) rfl (by omega) hi hL) dL_law_1204 ?_
  refine cVi C hW (mX6_count hk6 f6) hk6 kvX6_count w_754 ⟨(Nat.le_of_ble_eq_true rfl), (Nat.le_of_ble_eq_true rfl)⟩ ⟨(Nat.le_of_ble_eq_true rfl), (Nat.le_of_ble_eq_true rfl)⟩ rfl hl.1 (rest := []) rfl (Nat.le_of_ble_eq_true rfl) dL_law_1205 (fun H locs hok hW => ?_)
  refine lv_aload_n C.1.1 C.1.2.1 dL_law_1208 rfl (lv_at hl 2 rfl) ?_
  refine lv_aload_n C.1.1 C.1.2.1 dL_law_1209 rfl (lv_at hl 0 rfl) ?_
  refine lv_iload_n C.1.1 C.1.2.1 dL_law_1210 rfl (lv_at hl 3 rfl) ?_
  refine lv_iconst (v := 1) C.1.1 C.1.2.1 dL_law_1211 (by decide) ?_
  refine lv_iadd C.1.1 C.1.2.1 dL_law_1212 ?_
  refine va_sld C.1.1 C.1.2.1 hX hbl hbA hW.2 (vin_j (j := 1) rfl (by omega) hi hL) dL_law_1213 ?_
  refine cVi C hW (mX7_count hk7 f7) hk7 kvX7_count w_1651 ⟨(Nat.le_of_ble_eq_true rfl), (Nat.le_of_ble_eq_true rfl)⟩ ⟨(Nat.le_of_ble_eq_true rfl), (Nat.le_of_ble_eq_true rfl)⟩ rfl hl.1 (rest := [.int r]) rfl (Nat.le_of_ble_eq_true rfl) dL_law_1214 (fun H locs hok hW => ?_)
  refine lv_icmp_eq (tgt := 1222) C.1.1 C.1.2.1 dL_law_1217 (by decide) (fun h9 => ?_) (fun h9 => absurd rfl h9)
  exact K σ2 _ _ hW hR2
