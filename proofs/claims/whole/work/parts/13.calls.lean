/-! contracts over the store: a method answers what its function answers -/
abbrev rmOf (fr lo : Nat) : Room := { frames := fr, cells := 0, slots := 0, locals := lo }
abbrev fR (G : Gm) : Nat → Prop := fun q => gB G ≤ q
def rok (rt : FieldType) (v : Int32) : Prop := narrow rt (.int v) = .int v ∧ (rt = .boolean → v = 0 ∨ v = 1)
theorem rok_i (v : Int32) : rok .int v := ⟨rfl, fun h => by cases h⟩
theorem rok_z {v : Int32} (h : v = 0 ∨ v = 1) : rok .boolean v := ⟨by rcases h with h | h <;> subst h <;> rfl, fun _ => h⟩
abbrev QI (G : Gm) (rt : FieldType) (r : Int32) (σ' : Sg) : Array Value → State → Outcome → State → Prop := va_Qi (fun (r' : Int32) (_ : Unit) => r' = r ∧ rok rt r') (fun _ t => Wo G σ' t.heap) (fR G)
abbrev QL (G : Gm) (r : Int64) (σ' : Sg) : Array Value → State → Outcome → State → Prop := va_Ql (fun (r' : Int64) (_ : Unit) => r' = r) (fun _ t => Wo G σ' t.heap) (fR G)
abbrev QV (G : Gm) (σ' : Sg) : Array Value → State → Outcome → State → Prop := va_Qv (fun (_ : Unit) => True) (fun _ t => Wo G σ' t.heap) (fR G)
abbrev PW (G : Gm) (as : List Value) (σ : Sg) : Array Value → State → Prop := va_Pc as (fun U => Wo G σ U.heap ∧ KK G U)
def Mi (l : Launch) (G : Gm) (y : MethodName) (bc : ByteArray) (mL : Nat) (rt : FieldType) (fr lo : Nat) (as : List Value) (σ : Sg) (r : Int32) (σ' : Sg) : Prop := Met l y (.code y bc mL (some rt) :: TB) (rmOf fr lo) (PW G as σ) (QI G rt r σ') 0 0 (fR G)
def Ml (l : Launch) (G : Gm) (y : MethodName) (bc : ByteArray) (mL : Nat) (fr lo : Nat) (as : List Value) (σ : Sg) (r : Int64) (σ' : Sg) : Prop := Met l y (.code y bc mL (some .long) :: TB) (rmOf fr lo) (PW G as σ) (QL G r σ') 0 0 (fR G)
def Mv (l : Launch) (G : Gm) (y : MethodName) (bc : ByteArray) (mL : Nat) (fr lo : Nat) (as : List Value) (σ σ' : Sg) : Prop := Met l y (.code y bc mL none :: TB) (rmOf fr lo) (PW G as σ) (QV G σ') 0 0 (fR G)
theorem of_W {l : Launch} {G : Gm} {y : MethodName} {bc : ByteArray} {mL : Nat} {ret : Option FieldType} {fr lo : Nat} {as : List Value} {σ : Sg} {Qc : Array Value → State → Outcome → State → Prop} (own : String) (hown : y.cls = own) (hy : plainName y.cls = true) (hlen : (lg_sl as).length ≤ mL)
    (body : ∀ (p : Program) (e : Env) (s : State) (m : MethodId) (args : Array Value) (below : List Frame) (meth : Method) (c : Code) (Q : State → Prop), Q = MQ below Qc args s 0 0 (fR G) → Cx p s m args c bc own mL (.code y bc mL ret) G → meth.sig.returnType = ret → meth.locks = false → Ws G σ s.heap s.heap [] → ∀ ls, lv_has ls mL (lv_args 0 as) → W p l e (rmOf fr lo) s m args below meth c s.heap [] 0 0 Q (F0 m 0 ls [])) : Met l y (.code y bc mL ret :: TB) (rmOf fr lo) (PW G as σ) Qc 0 0 (fR G) := by
  refine Met.ofW (cc := bc) (maxL := mL) (ret := ret) hy rfl ?_
  intro p e s m args below meth c s₁ B hml hv
  obtain ⟨rfl, hWo, hKK⟩ := hv
  subst hown
  have hl := lv_entry as (n := mL) hlen
  rw [lg_entry_eq]
  generalize (lg_sl as ++ List.replicate (mL - (lg_sl as).length) Slot.unset).toArray = ls at hl ⊢
  exact body p e s m _ below meth c _ rfl ⟨⟨B.exec, B.bytes, hml, findClass_of_methodNamed B.named, atoms_spec (ws := .code y bc mL ret :: TB) B.pre⟩, hKK⟩ B.returns B.notSynchronized ⟨hWo, va_S.rf⟩ ls hl
def KV (ci : Nat) (CN : String) (y : MethodName) (bc : ByteArray) (mL : Nat) (ret : Option FieldType) (n : Nat) : Prop := (Cond.instanceMethod y ∈ TB ∧ Cond.selects CN y y ∈ TB ∧ Cond.initialized CN ∈ TB ∧ Cond.code y bc mL ret ∈ TB) ∧ (y.cls = CN ∧ y.cls ≠ "java/lang/invoke/MethodHandle" ∧ y.cls ≠ "java/lang/invoke/VarHandle" ∧ (parseMethodDescriptor y.desc).map (fun d => d.parameters.length) = some n) ∧ ci < 8 ∧ (vwCl[ci]?).map (fun q => q.1) = some CN
def KS (y : MethodName) (bc : ByteArray) (mL : Nat) (ret : Option FieldType) (n : Nat) : Prop := (Cond.static y ∈ TB ∧ Cond.initialized y.cls ∈ TB ∧ Cond.code y bc mL ret ∈ TB) ∧ (y.cls ≠ "java/lang/invoke/MethodHandle" ∧ y.cls ≠ "java/lang/invoke/VarHandle" ∧ (parseMethodDescriptor y.desc).map (fun d => d.parameters.length) = some n)
theorem obE_c (b : Nat) (σ : Sg) (k ci : Nat) (h : ci < 8) : ∃ fs, obE b σ k (ci + 1) = .inr (ci, fs) := by
  match ci, h with
  | 0, _ => exact ⟨_, rfl⟩
  | 1, _ => exact ⟨_, rfl⟩
  | 2, _ => exact ⟨_, rfl⟩
  | 3, _ => exact ⟨_, rfl⟩
  | 4, _ => exact ⟨_, rfl⟩
  | 5, _ => exact ⟨_, rfl⟩
  | 6, _ => exact ⟨_, rfl⟩
  | 7, _ => exact ⟨_, rfl⟩
def imax (x y : Int32) : Int32 := if x < y then y else x
def imin (x y : Int32) : Int32 := if y < x then y else x
def iabs (x : Int32) : Int32 := if 0 ≤ x then x else 0 - x
section CALLS
variable {p : Program} {l : Launch} {e : Env} {R : Room} {s : State} {m : MethodId} {args : Array Value} {below : List Frame} {meth : Method} {c : Code} {H H0 : Heap} {locs : List Loc} {cells slots : Nat} {Q : State → Prop} {cc : ByteArray} {own : String} {nL : Nat} {Y : Cond} {G : Gm} {σ : Sg} {pc : Nat} {ls : Array Slot} {rest : List Value}
theorem ri {rt : FieldType} {v r : Int32} {σ' : Sg} (hQ : Q = MQ below (QI G rt r σ') args s 0 0 (fR G)) (C : Cx p s m args c cc own nL Y G) (hr : meth.sig.returnType = some rt) (hlk : meth.locks = false) (hW : Ws G σ s.heap H locs) (hf : some (v, σ) = some (r, σ')) (hn : rok rt v) (hdg : decode cc pc = .ok (.ireturn, 1)) : W p l e R s m args below meth c H locs 0 0 Q (F0 m pc ls [.int v]) := by
  cases hf
  subst hQ
  exact W.zret C.1.1 C.1.2.1 hr hn.1 (fun t ht _ => ⟨⟨v, (), rfl, ⟨rfl, hn⟩, by show Wo G σ t.heap; rw [ht]; exact hW.1⟩, hW.2.F ht⟩) hW.2.2.2 hdg hlk
theorem rl {v r : Int64} {σ' : Sg} (hQ : Q = MQ below (QL G r σ') args s 0 0 (fR G)) (C : Cx p s m args c cc own nL Y G) (hr : meth.sig.returnType = some .long) (hlk : meth.locks = false) (hW : Ws G σ s.heap H locs) (hf : some (v, σ) = some (r, σ')) (hdg : decode cc pc = .ok (.lreturn, 1)) : W p l e R s m args below meth c H locs 0 0 Q (F0 m pc ls [.long v]) := by
  cases hf
  subst hQ
  exact W.lret C.1.1 C.1.2.1 hr (fun t ht _ => ⟨⟨v, (), rfl, rfl, by show Wo G σ t.heap; rw [ht]; exact hW.1⟩, hW.2.F ht⟩) hW.2.2.2 hdg hlk
theorem rv {σ' : Sg} (hQ : Q = MQ below (QV G σ') args s 0 0 (fR G)) (C : Cx p s m args c cc own nL Y G) (hr : meth.sig.returnType = none) (hlk : meth.locks = false) (hW : Ws G σ s.heap H locs) (hf : some σ = some σ') (hdg : decode cc pc = .ok (.return_, 1)) : W p l e R s m args below meth c H locs 0 0 Q (F0 m pc ls []) := by
  cases hf
  subst hQ
  exact W.vret C.1.1 C.1.2.1 hr (fun t ht _ => ⟨⟨(), rfl, trivial, by show Wo G σ t.heap; rw [ht]; exact hW.1⟩, hW.2.F ht⟩) hW.2.2.2 hdg hlk
theorem rcv (C : Cx p s m args c cc own nL Y G) (hW : Ws G σ H0 H locs) {k ci : Nat} {CN : String} (hk : gK G k = ci + 1) (h8 : ci < 8) (hc : (vwCl[ci]?).map (fun q => q.1) = some CN) : ∃ cell : Cell, H[gB G + k]? = some cell ∧ cell.vm.isStatics = false ∧ s.vm.findClass CN = some cell.cls := by
  obtain ⟨fs, hfs⟩ := obE_c (gB G) σ k ci h8
  obtain ⟨q, hq, rfl⟩ := Option.map_eq_some_iff.mp hc
  exact va_recv C.2.1 (hW.1.at (hW.lt hk) (e := .inr (ci, fs)) (by rw [hk]; unfold clE; rw [if_pos (by omega)]; exact hfs)) (ci := ci) (q0 := 0) hq rfl
theorem bln {G : Gm} {as : List Value} {σ : Sg} : FrameBlind (PW G as σ) := fun _ _ _ _ q => ⟨q.1, q.2.1, q.2.2.call⟩
theorem prS (C : Cx p s m args c cc own nL Y G) (hW : Ws G σ H0 H locs) {as : List Value} : PreS s H (PW G as σ) as := ⟨bln, fun U hU hWm => ⟨rfl, by rw [hU]; exact hW.1, C.2.warm hWm⟩⟩
theorem gdV {own : String} {idx ci : Nat} {CN : String} {y : MethodName} {bc : ByteArray} {mL n : Nat} {ret : Option FieldType} (kv : KV ci CN y bc mL ret n) (hl : Cond.methodLink own idx y ∈ TB) : GoodIn (Y :: TB) (wsV own idx CN y (.code y bc mL ret :: TB)) := tb_in (fun w hw => by
  unfold wsV at hw
  simp only [List.cons_append, List.nil_append, List.mem_cons] at hw
  rcases hw with h | h | h | h | h | h
  · rw [h]; exact hl
  · rw [h]; exact kv.1.1
  · rw [h]; exact kv.1.2.1
  · rw [h]; exact kv.1.2.2.1
  · rw [h]; exact kv.1.2.2.2
  · exact h)
theorem gdS {y : MethodName} {bc : ByteArray} {mL : Nat} {ret : Option FieldType} (hc : Cond.code y bc mL ret ∈ TB) : GoodIn (Y :: TB) (.code y bc mL ret :: TB) := tb_in (fun w hw => by
  rcases List.mem_cons.mp hw with h | h
  · rw [h]; exact hc
  · exact h)
theorem cVi (C : Cx p s m args c cc own nL Y G) (hW : Ws G σ H0 H locs) {y : MethodName} {bc : ByteArray} {mL fr lo k ci n idx : Nat} {rt : FieldType} {r : Int32} {CN : String} {As : List Value} {σ' : Sg} (hM : Mi l G y bc mL rt fr lo (.ref (gB G + k) :: As) σ r σ') (hk : gK G k = ci + 1) (kv : KV ci CN y bc mL (some rt) n) (hl : Cond.methodLink own idx y ∈ TB) (hR : fr + 1 ≤ R.frames ∧ 8 + (mL + 11) + lo ≤ R.locals) (hc : cells ≤ R.cells ∧ slots ≤ R.slots) (hn : As.length = n) (hsz : ls.size = nL) {st0 : List Value} (hst : st0 = As.reverse ++ .ref (gB G + k) :: rest) (hcat : (rest.map fun v => v.category).sum ≤ 8) (hdg : decode cc pc = .ok (.invokevirtual idx, 3))
    (kk : ∀ (H1 : Heap) (locs1 : List Loc), rok rt r → Ws G σ' H0 H1 locs1 → W p l e R s m args below meth c H1 locs1 cells slots Q (F0 m (pc + 3) ls (.int r :: rest))) : W p l e R s m args below meth c H locs cells slots Q (F0 m pc ls st0) := by
  subst hst
  exact va_calli (va_runV C.1 hM (cwV n C.1.2.2.2.2 (gdV kv hl) rfl rfl rfl kv.2.1 hR) ⟨bln, rcv C hW hk kv.2.2.1 kv.2.2.2, (prS C hW).2⟩ rfl hn hsz rfl (lv_room hcat) hdg hc) hW.2 (fun q _ h => h) (fun q h => h) (fun r' u t H1 locs1 ht hvm hw hB hz1 hk1 hS => by obtain ⟨rfl, hn9⟩ := hw; exact kk H1 locs1 hn9 ⟨by rw [← ht]; exact hB, hS⟩)
theorem cSi (C : Cx p s m args c cc own nL Y G) (hW : Ws G σ H0 H locs) {y : MethodName} {bc : ByteArray} {mL fr lo n idx : Nat} {rt : FieldType} {r : Int32} {As : List Value} {σ' : Sg} (hM : Mi l G y bc mL rt fr lo As σ r σ') (ks : KS y bc mL (some rt) n) (hl : Cond.methodLink own idx y ∈ TB) (hR : fr + 1 ≤ R.frames ∧ 8 + (mL + 11) + lo ≤ R.locals) (hc : cells ≤ R.cells ∧ slots ≤ R.slots) (hn : As.length = n) (hsz : ls.size = nL) {st0 : List Value} (hst : st0 = As.reverse ++ rest) (hcat : (rest.map fun v => v.category).sum ≤ 8) (hdg : decode cc pc = .ok (.invokestatic idx, 3))
    (kk : ∀ (H1 : Heap) (locs1 : List Loc), rok rt r → Ws G σ' H0 H1 locs1 → W p l e R s m args below meth c H1 locs1 cells slots Q (F0 m (pc + 3) ls (.int r :: rest))) : W p l e R s m args below meth c H locs cells slots Q (F0 m pc ls st0) := by
  subst hst
  exact va_calli (va_runS C.1 hM ⟨callB_of n C.1.2.2.2.2 (gdS ks.1.2.2) rfl rfl rfl (C.w ks.1.2.1) (C.w hl) ks.2 hR, C.w ks.1.1⟩ (prS C hW) rfl hn hsz rfl (lv_room hcat) hdg hc) hW.2 (fun q _ h => h) (fun q h => h) (fun r' u t H1 locs1 ht hvm hw hB hz1 hk1 hS => by obtain ⟨rfl, hn9⟩ := hw; exact kk H1 locs1 hn9 ⟨by rw [← ht]; exact hB, hS⟩)
theorem cNi (C : Cx p s m args c cc own nL Y G) (hW : Ws G σ H0 H locs) {y : MethodName} {bc : ByteArray} {mL fr lo n idx : Nat} {rt : FieldType} {r : Int32} {As : List Value} {σ' : Sg} (hM : Mi l G y bc mL rt fr lo As σ r σ') (ks : KS y bc mL (some rt) n) (hl : (own, idx, y, "RightKeys") ∈ nwL) (hR : fr + 1 ≤ R.frames ∧ 8 + (mL + 11) + lo ≤ R.locals) (hc : cells ≤ R.cells ∧ slots ≤ R.slots) (hn : As.length = n) (hsz : ls.size = nL) {st0 : List Value} (hst : st0 = As.reverse ++ rest) (hcat : (rest.map fun v => v.category).sum ≤ 8) (hdg : decode cc pc = .ok (.invokestatic idx, 3))
    (kk : ∀ (H1 : Heap) (locs1 : List Loc), rok rt r → Ws G σ' H0 H1 locs1 → W p l e R s m args below meth c H1 locs1 cells slots Q (F0 m (pc + 3) ls (.int r :: rest))) : W p l e R s m args below meth c H locs cells slots Q (F0 m pc ls st0) := by
  subst hst
  exact va_calli (va_runSN C.1 hM ⟨va_cnB n C.1.2.2.2.2 (gdS ks.1.2.2) rfl rfl rfl (C.2.2.1 _ hl) (C.w ks.1.2.1) ks.2 hR, C.w ks.1.1, trivial⟩ (prS C hW) rfl hn hsz rfl (lv_room hcat) hdg hc) hW.2 (fun q _ h => h) (fun q h => h) (fun r' u t H1 locs1 ht hvm hw hB hz1 hk1 hS => by obtain ⟨rfl, hn9⟩ := hw; exact kk H1 locs1 hn9 ⟨by rw [← ht]; exact hB, hS⟩)
theorem cVl (C : Cx p s m args c cc own nL Y G) (hW : Ws G σ H0 H locs) {y : MethodName} {bc : ByteArray} {mL fr lo k ci n idx : Nat} {r : Int64} {CN : String} {As : List Value} {σ' : Sg} (hM : Ml l G y bc mL fr lo (.ref (gB G + k) :: As) σ r σ') (hk : gK G k = ci + 1) (kv : KV ci CN y bc mL (some .long) n) (hl : Cond.methodLink own idx y ∈ TB) (hR : fr + 1 ≤ R.frames ∧ 8 + (mL + 11) + lo ≤ R.locals) (hc : cells ≤ R.cells ∧ slots ≤ R.slots) (hn : As.length = n) (hsz : ls.size = nL) {st0 : List Value} (hst : st0 = As.reverse ++ .ref (gB G + k) :: rest) (hcat : (rest.map fun v => v.category).sum ≤ 8) (hdg : decode cc pc = .ok (.invokevirtual idx, 3))
    (kk : ∀ (H1 : Heap) (locs1 : List Loc), Ws G σ' H0 H1 locs1 → W p l e R s m args below meth c H1 locs1 cells slots Q (F0 m (pc + 3) ls (.long r :: rest))) : W p l e R s m args below meth c H locs cells slots Q (F0 m pc ls st0) := by
  subst hst
  exact va_calll (va_runV C.1 hM (cwV n C.1.2.2.2.2 (gdV kv hl) rfl rfl rfl kv.2.1 hR) ⟨bln, rcv C hW hk kv.2.2.1 kv.2.2.2, (prS C hW).2⟩ rfl hn hsz rfl (lv_room hcat) hdg hc) hW.2 (fun q _ h => h) (fun q h => h) (fun r' u t H1 locs1 ht hvm hw hB hz1 hk1 hS => by subst hw; exact kk H1 locs1 ⟨by rw [← ht]; exact hB, hS⟩)
theorem cSl (C : Cx p s m args c cc own nL Y G) (hW : Ws G σ H0 H locs) {y : MethodName} {bc : ByteArray} {mL fr lo n idx : Nat} {r : Int64} {As : List Value} {σ' : Sg} (hM : Ml l G y bc mL fr lo As σ r σ') (ks : KS y bc mL (some .long) n) (hl : Cond.methodLink own idx y ∈ TB) (hR : fr + 1 ≤ R.frames ∧ 8 + (mL + 11) + lo ≤ R.locals) (hc : cells ≤ R.cells ∧ slots ≤ R.slots) (hn : As.length = n) (hsz : ls.size = nL) {st0 : List Value} (hst : st0 = As.reverse ++ rest) (hcat : (rest.map fun v => v.category).sum ≤ 8) (hdg : decode cc pc = .ok (.invokestatic idx, 3))
    (kk : ∀ (H1 : Heap) (locs1 : List Loc), Ws G σ' H0 H1 locs1 → W p l e R s m args below meth c H1 locs1 cells slots Q (F0 m (pc + 3) ls (.long r :: rest))) : W p l e R s m args below meth c H locs cells slots Q (F0 m pc ls st0) := by
  subst hst
  exact va_calll (va_runS C.1 hM ⟨callB_of n C.1.2.2.2.2 (gdS ks.1.2.2) rfl rfl rfl (C.w ks.1.2.1) (C.w hl) ks.2 hR, C.w ks.1.1⟩ (prS C hW) rfl hn hsz rfl (lv_room hcat) hdg hc) hW.2 (fun q _ h => h) (fun q h => h) (fun r' u t H1 locs1 ht hvm hw hB hz1 hk1 hS => by subst hw; exact kk H1 locs1 ⟨by rw [← ht]; exact hB, hS⟩)
theorem cVv (C : Cx p s m args c cc own nL Y G) (hW : Ws G σ H0 H locs) {y : MethodName} {bc : ByteArray} {mL fr lo k ci n idx : Nat} {CN : String} {As : List Value} {σ' : Sg} (hM : Mv l G y bc mL fr lo (.ref (gB G + k) :: As) σ σ') (hk : gK G k = ci + 1) (kv : KV ci CN y bc mL none n) (hl : Cond.methodLink own idx y ∈ TB) (hR : fr + 1 ≤ R.frames ∧ 8 + (mL + 11) + lo ≤ R.locals) (hc : cells ≤ R.cells ∧ slots ≤ R.slots) (hn : As.length = n) (hsz : ls.size = nL) {st0 : List Value} (hst : st0 = As.reverse ++ .ref (gB G + k) :: rest) (hcat : (rest.map fun v => v.category).sum ≤ 8) (hdg : decode cc pc = .ok (.invokevirtual idx, 3))
    (kk : ∀ (H1 : Heap) (locs1 : List Loc), Ws G σ' H0 H1 locs1 → W p l e R s m args below meth c H1 locs1 cells slots Q (F0 m (pc + 3) ls (rest))) : W p l e R s m args below meth c H locs cells slots Q (F0 m pc ls st0) := by
  subst hst
  exact va_callv (va_runV C.1 hM (cwV n C.1.2.2.2.2 (gdV kv hl) rfl rfl rfl kv.2.1 hR) ⟨bln, rcv C hW hk kv.2.2.1 kv.2.2.2, (prS C hW).2⟩ rfl hn hsz rfl (lv_room hcat) hdg hc) hW.2 (fun q _ h => h) (fun q h => h) (fun u t H1 locs1 ht hvm hw hB hz1 hk1 hS => kk H1 locs1 ⟨by rw [← ht]; exact hB, hS⟩)
theorem cSv (C : Cx p s m args c cc own nL Y G) (hW : Ws G σ H0 H locs) {y : MethodName} {bc : ByteArray} {mL fr lo n idx : Nat} {As : List Value} {σ' : Sg} (hM : Mv l G y bc mL fr lo As σ σ') (ks : KS y bc mL none n) (hl : Cond.methodLink own idx y ∈ TB) (hR : fr + 1 ≤ R.frames ∧ 8 + (mL + 11) + lo ≤ R.locals) (hc : cells ≤ R.cells ∧ slots ≤ R.slots) (hn : As.length = n) (hsz : ls.size = nL) {st0 : List Value} (hst : st0 = As.reverse ++ rest) (hcat : (rest.map fun v => v.category).sum ≤ 8) (hdg : decode cc pc = .ok (.invokestatic idx, 3))
    (kk : ∀ (H1 : Heap) (locs1 : List Loc), Ws G σ' H0 H1 locs1 → W p l e R s m args below meth c H1 locs1 cells slots Q (F0 m (pc + 3) ls (rest))) : W p l e R s m args below meth c H locs cells slots Q (F0 m pc ls st0) := by
  subst hst
  exact va_callv (va_runS C.1 hM ⟨callB_of n C.1.2.2.2.2 (gdS ks.1.2.2) rfl rfl rfl (C.w ks.1.2.1) (C.w hl) ks.2 hR, C.w ks.1.1⟩ (prS C hW) rfl hn hsz rfl (lv_room hcat) hdg hc) hW.2 (fun q _ h => h) (fun q h => h) (fun u t H1 locs1 ht hvm hw hB hz1 hk1 hS => kk H1 locs1 ⟨by rw [← ht]; exact hB, hS⟩)
theorem cMax (C : Cx p s m args c cc own nL Y G) {idx : Nat} (hl : Cond.methodLink own idx Lib.Math.max.name ∈ TB) (hs : Cond.static Lib.Math.max.name ∈ TB) (hi : Cond.initialized "java/lang/Math" ∈ TB) (hcd : Cond.code Lib.Math.max.name Lib.Math.max.code 2 (some .int) ∈ TB) (hsz : ls.size = nL) (hfr : 1 ≤ R.frames) (hlo : (rest.map fun v => v.category).sum + 13 ≤ R.locals) (hc : cells ≤ R.cells ∧ slots ≤ R.slots) {x y : Int32} (hdg : decode cc pc = .ok (.invokestatic idx, 3)) (kk : W p l e R s m args below meth c H locs cells slots Q (F0 m (pc + 3) ls (.int (imax x y) :: rest))) : W p l e R s m args below meth c H locs cells slots Q (F0 m pc ls (.int y :: .int x :: rest)) := va_mmax C.1.1 C.1.2.1 (C.1.2.2.1.trans hsz.symm) C.1.2.2.2.1 (C.w hl) (C.w hs) (C.w hi) (C.w hcd) hfr hlo hc.1 hc.2 hdg kk
theorem cMin (C : Cx p s m args c cc own nL Y G) {idx : Nat} (hl : Cond.methodLink own idx Lib.Math.min.name ∈ TB) (hs : Cond.static Lib.Math.min.name ∈ TB) (hi : Cond.initialized "java/lang/Math" ∈ TB) (hcd : Cond.code Lib.Math.min.name Lib.Math.min.code 2 (some .int) ∈ TB) (hsz : ls.size = nL) (hfr : 1 ≤ R.frames) (hlo : (rest.map fun v => v.category).sum + 13 ≤ R.locals) (hc : cells ≤ R.cells ∧ slots ≤ R.slots) {x y : Int32} (hdg : decode cc pc = .ok (.invokestatic idx, 3)) (kk : W p l e R s m args below meth c H locs cells slots Q (F0 m (pc + 3) ls (.int (imin x y) :: rest))) : W p l e R s m args below meth c H locs cells slots Q (F0 m pc ls (.int y :: .int x :: rest)) := va_mmin C.1.1 C.1.2.1 (C.1.2.2.1.trans hsz.symm) C.1.2.2.2.1 (C.w hl) (C.w hs) (C.w hi) (C.w hcd) hfr hlo hc.1 hc.2 hdg kk
theorem cAbs (C : Cx p s m args c cc own nL Y G) {idx : Nat} (hl : Cond.methodLink own idx Lib.Math.abs.name ∈ TB) (hs : Cond.static Lib.Math.abs.name ∈ TB) (hi : Cond.initialized "java/lang/Math" ∈ TB) (hcd : Cond.code Lib.Math.abs.name Lib.Math.abs.code 1 (some .int) ∈ TB) (hsz : ls.size = nL) (hfr : 1 ≤ R.frames) (hlo : (rest.map fun v => v.category).sum + 13 ≤ R.locals) (hc : cells ≤ R.cells ∧ slots ≤ R.slots) {x : Int32} (hdg : decode cc pc = .ok (.invokestatic idx, 3)) (kk : W p l e R s m args below meth c H locs cells slots Q (F0 m (pc + 3) ls (.int (iabs x) :: rest))) : W p l e R s m args below meth c H locs cells slots Q (F0 m pc ls (.int x :: rest)) := va_mabs C.1.1 C.1.2.1 (C.1.2.2.1.trans hsz.symm) C.1.2.2.2.1 (C.w hl) (C.w hs) (C.w hi) (C.w hcd) hfr hlo hc.1 hc.2 hdg kk
theorem cCpy (C : Cx p s m args c cc own nL Y G) (hW : Ws G σ H0 H locs) {idx : Nat} (hl : Cond.methodLink own idx arraycopyName ∈ TB) (hnat : Cond.native arraycopyName ∈ TB) (hst : Cond.static arraycopyName ∈ TB) (hi : Cond.initialized "java/lang/System" ∈ TB) (hsz : ls.size = nL) {k0 k1 n0 n1 : Nat} (hk0 : gK G k0 = kA 1 n0) (hk1 : gK G k1 = kA 1 n1)
    {sp dp n : Int32} (h1 : ¬ sp < 0) (h2 : ¬ dp < 0) (h3 : ¬ n < 0) (h4 : sp.toNatClampNeg + n.toNatClampNeg ≤ n0) (h5 : dp.toNatClampNeg + n.toNatClampNeg ≤ n1) (hframes : 1 ≤ R.frames) (hlocals : (rest.map fun v => v.category).sum + (nativeFrameWords "java/lang/System" "arraycopy" 5 + 11) ≤ R.locals) (hdg : decode cc pc = .ok (.invokestatic idx, 3))
    (kk : ∀ (H1 : Heap) (locs1 : List Loc), Ws G (wR σ k1 (va_cpy (σ.1 k0) (σ.1 k1) sp.toNatClampNeg dp.toNatClampNeg n.toNatClampNeg)) H0 H1 locs1 → W p l e R s m args below meth c H1 locs1 cells slots Q (F0 m (pc + 3) ls rest)) : W p l e R s m args below meth c H locs cells slots Q (F0 m pc ls (.int n :: .int dp :: .ref (gB G + k1) :: .int sp :: .ref (gB G + k0) :: rest)) := by
  have nn : ∀ z : Int32, ¬ z < 0 → z.toInt = (z.toNatClampNeg : Int) := by
    intro z hz
    have hz0 : (0 : Int) ≤ z.toInt := by
      have := Int32.not_lt.mp hz
      simpa using Int32.le_iff_toInt_le.mp this
    show z.toInt = ((z.toInt.toNat : Nat) : Int)
    omega
  intro T hT X
  have hc0 : H[gB G + k0]? = some (vp_cell (gC G 1) (n0, .inl (σ.1 k0))) := by
    have := hW.1.2.1 k0 (hW.ltA hk0); rw [hk0, clE_A (by omega)] at this; exact this
  have hc1 : H[gB G + k1]? = some (vp_cell (gC G 1) (n1, .inl (σ.1 k1))) := by
    have := hW.1.2.1 k1 (hW.ltA hk1); rw [hk1, clE_A (by omega)] at this; exact this
  obtain ⟨-, q0, hq0, cm0, hkk0⟩ := (C.2.1.2 1 _ rfl).1 n0 (fun j => .int (σ.1 k0 j))
  obtain ⟨-, q1, hq1, cm1, hkk1⟩ := (C.2.1.2 1 _ rfl).1 n1 (fun j => .int (σ.1 k1 j))
  obtain ⟨vm', X', step⟩ := X.arraycopy C.1.1 C.1.2.2.2.1 (C.w hl) (C.w hnat) (C.w hst) (C.w hi) (src := gB G + k0) (dst := gB G + k1) (cs := vp_cell (gC G 1) (n0, .inl (σ.1 k0))) (cd := vp_cell (gC G 1) (n1, .inl (σ.1 k1))) (srcPos := sp) (destPos := dp) (n := n) (by rw [hT]; exact hc0) (by rw [hT]; exact hc1)
    (fun _ h => by cases h) (fun _ h => by cases h) (fun h => by cases h) (fun h => by cases h) hq0 hq1 hkk0 hkk1 (by simp [refKind]) h1 h2 h3
    (by rw [nn sp h1, nn n h3]; show ¬ _ > ((arrV (gC G 1) n0 (fun j => .int (σ.1 k0 j))).slots.size : Int); rw [arrV_size]; omega)
    (by rw [nn dp h2, nn n h3]; show ¬ _ > ((arrV (gC G 1) n1 (fun j => .int (σ.1 k1 j))).slots.size : Int); rw [arrV_size]; omega)
    (fun vm₁ _ i hi => by
      have e : (vp_cell (gC G 1) (n0, .inl (σ.1 k0))).slots.getD (sp.toNatClampNeg + i) .null = .int (σ.1 k0 (sp.toNatClampNeg + i)) := by
        show (arrV (gC G 1) n0 (fun j => .int (σ.1 k0 j))).slots.getD _ _ = _
        rw [Array.getD_eq_getD_getElem?, arrV_read _ _ (by omega)]
        rfl
      refine ⟨?_, ?_⟩
      · rw [e]; rfl
      · rw [e]; exact trivial)
    (g := F0 m pc ls (.int n :: .int dp :: .ref (gB G + k1) :: .int sp :: .ref (gB G + k0) :: rest)) rfl (by rw [C.1.2.2.1]; exact hsz) (rest := rest) rfl (by rw [C.1.2.1]; exact hdg) hframes (by show 2 * 0 + _ + _ ≤ _; omega)
  have e1 : copied (vp_cell (gC G 1) (n0, .inl (σ.1 k0))) (vp_cell (gC G 1) (n1, .inl (σ.1 k1))) sp dp n = vp_cell (gC G 1) (n1, .inl (va_cpy (σ.1 k0) (σ.1 k1) sp.toNatClampNeg dp.toNatClampNeg n.toNatClampNeg)) := va_copied (fun z => .int z) (gC G 1) (gC G 1) (σ.1 k0) (σ.1 k1) h4
  rw [e1] at X' step
  have hl2 : gB G + k1 < H.size := (Array.getElem?_eq_some_iff.mp hc1).1
  generalize hfe : va_cpy (σ.1 k0) (σ.1 k1) sp.toNatClampNeg dp.toNatClampNeg n.toNatClampNeg = fe at X' step kk
  have hheap : ((T.setVm vm').setCell (gB G + k1) (vp_cell (gC G 1) (n1, .inl fe))).heap = H.setIfInBounds (gB G + k1) (vp_cell (gC G 1) (n1, .inl fe)) := by rw [← hT]; rfl
  have oq : ∀ q : Nat, q ≠ gB G + k1 → (H.setIfInBounds (gB G + k1) (vp_cell (gC G 1) (n1, .inl fe)))[q]? = H[q]? := fun q hq => by simp [Array.getElem?_setIfInBounds, Ne.symm hq]
  have hat : va_at (gD G) vwCl (gB G + k1, clE (gC G) (gB G) (wR σ k1 fe) k1 (gK G k1)) (H.setIfInBounds (gB G + k1) (vp_cell (gC G 1) (n1, .inl fe))) := by
    rw [hk1, clE_A (by omega)]
    show (H.setIfInBounds (gB G + k1) _)[gB G + k1]? = some _
    simp [Array.getElem?_setIfInBounds, hl2, wR, va_up]
  obtain ⟨t, a1, b1⟩ := kk _ _ ⟨hW.1.upd (by simp) oq hat oI hW.1.2.2.2, by simp; exact hW.2.1, fun q g1 g2 => by
      rw [oq q (fun e => g2 (by rw [e]; exact Nat.le_add_right _ _))]
      exact hW.2.2.1 q g1 g2, fun q hq => by
      rcases List.mem_append.mp hq with h | h
      · exact hW.2.2.2 q h
      · obtain ⟨z, -, hz⟩ := List.mem_map.mp h
        rw [← hz]
        exact Nat.le_add_right _ _⟩ _ hheap X'
  exact ⟨t, step t a1, b1⟩
theorem cLen (C : Cx p s m args c cc own nL Y G) (hW : Ws G σ H0 H locs) {k n : Nat} (hk : gK G k = kA 1 n) (hdg : decode cc pc = .ok (.arraylength, 1)) (kk : W p l e R s m args below meth c H locs cells slots Q (F0 m (pc + 1) ls (.int (Int32.ofNat n) :: rest))) : W p l e R s m args below meth c H locs cells slots Q (F0 m pc ls (.ref (gB G + k) :: rest)) :=
  va_alen C.1.1 C.1.2.1 C.2.1 (hW.1.at (hW.ltA hk) (by rw [hk, clE_A (by omega)]; rfl)) 0 1 rfl (ty := .int) rfl rfl hdg kk
end CALLS
/-! loops of the functions: what a body repeated answers -/
def iter {α β : Type} (f : α → Option (α ⊕ β)) : Nat → α → Option β
  | 0, _ => none
  | n + 1, a => (f a).bind (fun x => match x with | .inl a' => iter f n a' | .inr b => some b)
theorem iter_mono {α β : Type} {f : α → Option (α ⊕ β)} : ∀ {n : Nat} {a : α} {b : β}, iter f n a = some b → iter f (n + 1) a = some b
  | 0, _, _, h => by cases h
  | n + 1, a, b, h => by
    unfold iter at h ⊢
    cases hf : f a with
    | none => rw [hf] at h; cases h
    | some x =>
      rw [hf] at h
      cases x with
      | inl a' => exact iter_mono (n := n) h
      | inr c => exact h
theorem iter_le {α β : Type} {f : α → Option (α ⊕ β)} {n m : Nat} {a : α} {b : β} (hnm : n ≤ m) (h : iter f n a = some b) : iter f m a = some b := by
  induction hnm with
  | refl => exact h
  | step _ ih => exact iter_mono ih
noncomputable def lp {α β : Type} (f : α → Option (α ⊕ β)) (a : α) : Option β := by
  classical exact if h : ∃ (n : Nat) (b : β), iter f n a = some b then some (Classical.choose (Classical.choose_spec h)) else none
theorem lp_of {α β : Type} {f : α → Option (α ⊕ β)} {n : Nat} {a : α} {b : β} (h : iter f n a = some b) : lp f a = some b := by
  unfold lp
  have hx : ∃ (n : Nat) (b : β), iter f n a = some b := ⟨n, b, h⟩
  rw [dif_pos hx]
  have h2 := Classical.choose_spec (Classical.choose_spec hx)
  have e1 := iter_le (Nat.le_max_left n (Classical.choose hx)) h
  have e2 := iter_le (Nat.le_max_right n (Classical.choose hx)) h2
  rw [e1] at e2
  exact e2.symm
theorem lp_it {α β : Type} {f : α → Option (α ⊕ β)} {a : α} {b : β} (h : lp f a = some b) : ∃ n, iter f n a = some b := by
  unfold lp at h
  split at h
  · rename_i hx
    have h2 := Classical.choose_spec (Classical.choose_spec hx)
    exact ⟨Classical.choose hx, h2.trans h⟩
  · cases h
theorem lp_eq {α β : Type} (f : α → Option (α ⊕ β)) (a : α) : lp f a = (f a).bind (fun x => match x with | .inl a' => lp f a' | .inr b => some b) := by
  cases hf : f a with
  | none =>
    cases hl : lp f a with
    | none => rfl
    | some b =>
      obtain ⟨n, hn⟩ := lp_it hl
      cases n with
      | zero => cases hn
      | succ n => unfold iter at hn; rw [hf] at hn; cases hn
  | some x =>
    cases x with
    | inr b => exact lp_of (n := 1) (by unfold iter; rw [hf]; rfl)
    | inl a' =>
      show lp f a = lp f a'
      cases hl : lp f a' with
      | some b =>
        obtain ⟨n, hn⟩ := lp_it hl
        exact lp_of (n := n + 1) (by unfold iter; rw [hf]; exact hn)
      | none =>
        cases hk : lp f a with
        | none => rfl
        | some b =>
          obtain ⟨n, hn⟩ := lp_it hk
          cases n with
          | zero => cases hn
          | succ n =>
            unfold iter at hn
            rw [hf] at hn
            rw [lp_of (show iter f n a' = some b from hn)] at hl
            cases hl
theorem gd {α : Type} {c : Prop} [Decidable c] {e : Option α} {x : α} (h : (if c then e else none) = some x) : c ∧ e = some x := by
  by_cases hc : c
  · rw [if_pos hc] at h; exact ⟨hc, h⟩
  · rw [if_neg hc] at h; cases h
theorem bd {α β : Type} {o : Option α} {k : α → Option β} {x : β} (h : o.bind k = some x) : ∃ a, o = some a ∧ k a = some x := Option.bind_eq_some_iff.mp h
theorem it_s {α β : Type} {f : α → Option (α ⊕ β)} {n : Nat} {a : α} {b : β} (h : iter f (n + 1) a = some b) : ∃ x, f a = some x ∧ (match x with | .inl a' => iter f n a' | .inr b => some b) = some b := bd h
theorem it_0 {α β : Type} {f : α → Option (α ⊕ β)} {a : α} {b : β} (h : iter f 0 a = some b) : False := by cases h
theorem ii {n : Int} {k x : Int32} (h : Int32.ofInt n = k) : x + Int32.ofInt n = x + k := by rw [h]
def ius (x y : Int32) : Int32 := (x.toUInt32 >>> (y.toUInt32 &&& Int32.toUInt32 31)).toInt32
def irem (x y : Int32) : Int32 := x - x / y * y
abbrev nz (x : Int32) : Prop := x = 0 ∨ x = 1
theorem sw_ne {x : Int32} {k : Int32} (h : ¬ x = k) : x.toInt ≠ k.toInt := fun q => h (Int32.toInt_inj.mp q)
abbrev vin (i : Int32) (n : Nat) : Prop := 0 ≤ i ∧ i.toNatClampNeg < n
theorem vin_p {i : Int32} {n : Nat} (h : vin i n) : vp_in i n := fun q => q.elim (fun q => absurd h.1 (Int32.not_le.mpr q)) (fun q => absurd h.2 (Nat.not_lt.mpr q))
