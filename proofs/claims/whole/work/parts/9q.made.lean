/-! constructors: what they make, told by facts -/
def Mx (l : Launch) (G : Gm) (y : MethodName) (bc : ByteArray) (mL fr lo mc ms : Nat) (as : List Value) (σ : Sg) (P : Gm → Sg → Prop) : Prop := Met l y (.code y bc mL none :: TB) { frames := fr, cells := mc, slots := ms, locals := lo } (PW G as σ) (va_Qv (fun (_ : Unit) => True) (fun _ t => ∃ G' σ', gS G G' ∧ P G' σ' ∧ Wo G' σ' t.heap) (fR G)) mc ms (fR G)
theorem gS.B {G G' : Gm} (h : gS G G') : gB G' = gB G := by obtain ⟨N, kd, rfl⟩ := h; rfl
def PBx (a cnt : Nat) (KK : Nat → Nat) (G : Gm) (σ : Sg) (G' : Gm) (σ' : Sg) : Prop := gN G' = a + cnt ∧ (∀ x, x < a → gK G' x = gK G x) ∧ (∀ i, i < cnt → gK G' (a + i) = KK i) ∧ ∀ x, x < a → σ'.1 x = σ.1 x ∧ σ'.2.1 x = σ.2.1 x ∧ σ'.2.2.1 x = σ.2.2.1 x ∧ σ'.2.2.2 x = σ.2.2.2 x
/-- a cell that is not yet whole, and those made since -/
def IV (a ci : Nat) (fs : List Value) (KK : Nat → Nat) (n : Nat) (G0 : Gm) (σ0 : Sg) (G : Gm) (σ : Sg) : Prop := gS G0 G ∧ gN G = a + n ∧ 0 < n ∧ gK G a = 9 ∧ σ.2.2.2 a = .inr (ci, fs) ∧ (∀ x, x < a → gK G x = gK G0 x) ∧ (∀ i, 0 < i → i < n → gK G (a + i) = KK i) ∧ ∀ x, x < a → σ.1 x = σ0.1 x ∧ σ.2.1 x = σ0.2.1 x ∧ σ.2.2.1 x = σ0.2.2.1 x ∧ σ.2.2.2 x = σ0.2.2.2 x
def IV2 (a ci : Nat) (fs : List Value) (KK : Nat → Nat) (n : Nat) (G0 : Gm) (σ0 : Sg) (ci2 : Nat) (fs2 : List Value) (G : Gm) (σ : Sg) : Prop := gS G0 G ∧ gN G = a + n + 1 ∧ 0 < n ∧ gK G a = 9 ∧ σ.2.2.2 a = .inr (ci, fs) ∧ (∀ x, x < a → gK G x = gK G0 x) ∧ (∀ i, 0 < i → i < n → gK G (a + i) = KK i) ∧ (∀ x, x < a → σ.1 x = σ0.1 x ∧ σ.2.1 x = σ0.2.1 x ∧ σ.2.2.1 x = σ0.2.2.1 x ∧ σ.2.2.2 x = σ0.2.2.2 x) ∧ gK G (a + n) = 9 ∧ σ.2.2.2 (a + n) = .inr (ci2, fs2)
/-- what was made stays -/
def AG (N : Nat) (σ τ : Sg) : Prop := ∀ x, x < N → τ.1 x = σ.1 x ∧ τ.2.1 x = σ.2.1 x ∧ τ.2.2.1 x = σ.2.2.1 x
def ZC (x : Nat) (σ : Sg) : Prop := (∀ j, σ.1 x j = 0) ∧ (∀ j, σ.2.1 x j = 0) ∧ ∀ j, σ.2.2.1 x j = 0
def ZV (a n : Nat) (σ : Sg) : Prop := ∀ i, 0 < i → i < n → ZC (a + i) σ
theorem ZV.ag {a n : Nat} {σ τ : Sg} (h : ZV a n σ) (hA : AG (a + n) σ τ) : ZV a n τ := fun i h1 h2 => by
  obtain ⟨e1, e2, e3⟩ := hA (a + i) (by omega)
  unfold ZC
  rw [e1, e2, e3]
  exact h i h1 h2
theorem ZV.push {a n : Nat} {σ τ : Sg} (h : ZV a n σ) (hA : AG (a + n) σ τ) (hz : ZC (a + n) τ) : ZV a (n + 1) τ := fun i h1 h2 => by
  by_cases z : i = n
  · rw [z]; exact hz
  · exact (h.ag hA) i h1 (by omega)
theorem IV.en {a ci : Nat} {fs : List Value} {KK : Nat → Nat} {G : Gm} {σ : Sg} (hN : gN G = a + 1) (hk : gK G a = 9) (hE : σ.2.2.2 a = .inr (ci, fs)) : IV a ci fs KK 1 G σ G σ := ⟨gS.rf, hN, by omega, hk, hE, fun _ _ => rfl, fun i h1 h2 => by omega, fun _ _ => ⟨rfl, rfl, rfl, rfl⟩⟩
section XMADE
variable {p : Program} {l : Launch} {e : Env} {R : Room} {s : State} {m : MethodId} {args : Array Value} {below : List Frame} {meth : Method} {c : Code} {H H0 : Heap} {locs : List Loc} {cells slots : Nat} {Q : State → Prop} {cc : ByteArray} {own : String} {nL : Nat} {Y : Cond} {G G0 : Gm} {σ σ0 : Sg} {pc : Nat} {ls : Array Slot} {rest : List Value} {a ci n : Nat} {fs : List Value} {KK : Nat → Nat}
theorem gpu (G : Gm) (c x : Nat) : gK (gPush G c) x = if x = gN G then c else gK G x := by
  show va_up (gK G) (gN G) c x = _
  unfold va_up
  rfl
theorem IV.push (hI : IV a ci fs KK n G0 σ0 G σ) {c : Nat} (hKK : KK n = c) : IV a ci fs KK (n + 1) G0 σ0 (gPush G c) (z0 σ (gN G)) ∧ AG (a + n) σ (z0 σ (gN G)) ∧ ZC (a + n) (z0 σ (gN G)) := by
  obtain ⟨hS, hN, h0, hk, hE, h1, h2, h3⟩ := hI
  have o : ∀ x, x ≠ a + n → (z0 σ (gN G)).1 x = σ.1 x ∧ (z0 σ (gN G)).2.1 x = σ.2.1 x ∧ (z0 σ (gN G)).2.2.1 x = σ.2.2.1 x ∧ (z0 σ (gN G)).2.2.2 x = σ.2.2.2 x := fun x hx => oZ x (by rw [hN]; exact hx)
  refine ⟨⟨hS.tr (gS.push _ _), ?_, by omega, ?_, ?_, fun x hx => ?_, fun i i1 i2 => ?_, fun x hx => ?_⟩, fun x hx => ?_, ?_, ?_, ?_⟩
  · show gN G + 1 = a + (n + 1); omega
  · rw [gpu, if_neg (by omega)]; exact hk
  · exact (o a (by omega)).2.2.2.trans hE
  · rw [gpu, if_neg (by omega)]; exact h1 x hx
  · rw [gpu]
    by_cases z : i = n
    · rw [if_pos (by omega), z, hKK]
    · rw [if_neg (by omega)]; exact h2 i i1 (by omega)
  · obtain ⟨q1, q2, q3, q4⟩ := o x (by omega)
    rw [q1, q2, q3, q4]; exact h3 x hx
  · obtain ⟨q1, q2, q3, q4⟩ := o x (by omega)
    exact ⟨q1, q2, q3⟩
  · intro j; rw [← hN]; simp [z0, va_up]
  · intro j; rw [← hN]; simp [z0, va_up]
  · intro j; rw [← hN]; simp [z0, va_up]
theorem xnI (C : Cx p s m args c cc own nL Y G0) (hW : Ws G σ H0 H locs) (hI : IV a ci fs KK n G0 σ0 G σ) (harr : Cond.arrayClass .int ∈ TB) {k : Int32} {N : Nat} (hn : ¬ k < 0) (hN : k.toNatClampNeg = N) (hbytes : N * 8 ≤ 536870912) (hcells : cells + 1 ≤ R.cells) (hslots : slots + N ≤ R.slots) (hKK : KK n = kA 1 N) (hdg : decode cc pc = .ok (.newarray .int, 2))
    (kk : ∀ (G1 : Gm) (σ1 : Sg) (H1 : Heap), IV a ci fs KK (n + 1) G0 σ0 G1 σ1 → AG (a + n) σ σ1 → ZC (a + n) σ1 → Ws G1 σ1 H0 H1 locs → W p l e R s m args below meth c H1 locs (cells + 1) (slots + N) Q (F0 m (pc + 2) ls (.ref (gB G0 + (a + n)) :: rest))) : W p l e R s m args below meth c H locs cells slots Q (F0 m pc ls (.int k :: rest)) := by
  refine wnI (hI.1.Cx C) hW harr hn hN hbytes hcells hslots hdg (fun H1 hW1 => ?_)
  obtain ⟨i1, i2, i3⟩ := hI.push hKK
  rw [hI.1.B, hI.2.1]
  exact kk _ _ H1 i1 i2 i3 hW1
theorem xnB (C : Cx p s m args c cc own nL Y G0) (hW : Ws G σ H0 H locs) (hI : IV a ci fs KK n G0 σ0 G σ) (harr : Cond.arrayClass .byte ∈ TB) {k : Int32} {N : Nat} (hn : ¬ k < 0) (hN : k.toNatClampNeg = N) (hbytes : N * 8 ≤ 536870912) (hcells : cells + 1 ≤ R.cells) (hslots : slots + N ≤ R.slots) (hKK : KK n = kA 0 N) (hdg : decode cc pc = .ok (.newarray .byte, 2))
    (kk : ∀ (G1 : Gm) (σ1 : Sg) (H1 : Heap), IV a ci fs KK (n + 1) G0 σ0 G1 σ1 → AG (a + n) σ σ1 → ZC (a + n) σ1 → Ws G1 σ1 H0 H1 locs → W p l e R s m args below meth c H1 locs (cells + 1) (slots + N) Q (F0 m (pc + 2) ls (.ref (gB G0 + (a + n)) :: rest))) : W p l e R s m args below meth c H locs cells slots Q (F0 m pc ls (.int k :: rest)) := by
  refine wnB (hI.1.Cx C) hW harr hn hN hbytes hcells hslots hdg (fun H1 hW1 => ?_)
  obtain ⟨i1, i2, i3⟩ := hI.push hKK
  rw [hI.1.B, hI.2.1]
  exact kk _ _ H1 i1 i2 i3 hW1
theorem xnJ (C : Cx p s m args c cc own nL Y G0) (hW : Ws G σ H0 H locs) (hI : IV a ci fs KK n G0 σ0 G σ) (harr : Cond.arrayClass .long ∈ TB) {k : Int32} {N : Nat} (hn : ¬ k < 0) (hN : k.toNatClampNeg = N) (hbytes : N * 8 ≤ 536870912) (hcells : cells + 1 ≤ R.cells) (hslots : slots + N ≤ R.slots) (hKK : KK n = kA 2 N) (hdg : decode cc pc = .ok (.newarray .long, 2))
    (kk : ∀ (G1 : Gm) (σ1 : Sg) (H1 : Heap), IV a ci fs KK (n + 1) G0 σ0 G1 σ1 → AG (a + n) σ σ1 → ZC (a + n) σ1 → Ws G1 σ1 H0 H1 locs → W p l e R s m args below meth c H1 locs (cells + 1) (slots + N) Q (F0 m (pc + 2) ls (.ref (gB G0 + (a + n)) :: rest))) : W p l e R s m args below meth c H locs cells slots Q (F0 m pc ls (.int k :: rest)) := by
  refine wnJ (hI.1.Cx C) hW harr hn hN hbytes hcells hslots hdg (fun H1 hW1 => ?_)
  obtain ⟨i1, i2, i3⟩ := hI.push hKK
  rw [hI.1.B, hI.2.1]
  exact kk _ _ H1 i1 i2 i3 hW1
theorem xnZ (C : Cx p s m args c cc own nL Y G0) (hW : Ws G σ H0 H locs) (hI : IV a ci fs KK n G0 σ0 G σ) (harr : Cond.arrayClass .boolean ∈ TB) {k : Int32} {N : Nat} (hn : ¬ k < 0) (hN : k.toNatClampNeg = N) (hbytes : N * 8 ≤ 536870912) (hcells : cells + 1 ≤ R.cells) (hslots : slots + N ≤ R.slots) (hKK : KK n = kA 3 N) (hdg : decode cc pc = .ok (.newarray .boolean, 2))
    (kk : ∀ (G1 : Gm) (σ1 : Sg) (H1 : Heap), IV a ci fs KK (n + 1) G0 σ0 G1 σ1 → AG (a + n) σ σ1 → ZC (a + n) σ1 → Ws G1 σ1 H0 H1 locs → W p l e R s m args below meth c H1 locs (cells + 1) (slots + N) Q (F0 m (pc + 2) ls (.ref (gB G0 + (a + n)) :: rest))) : W p l e R s m args below meth c H locs cells slots Q (F0 m pc ls (.int k :: rest)) := by
  refine wnZ (hI.1.Cx C) hW harr hn hN hbytes hcells hslots hdg (fun H1 hW1 => ?_)
  obtain ⟨i1, i2, i3⟩ := hI.push hKK
  rw [hI.1.B, hI.2.1]
  exact kk _ _ H1 i1 i2 i3 hW1
theorem xnQ (C : Cx p s m args c cc own nL Y G0) (hW : Ws G σ H0 H locs) (hI : IV a ci fs KK n G0 σ0 G σ) {idx : Nat} (hcl : Cond.classLink own idx "RightKeys$Ring" ∈ TB) {k : Int32} {N : Nat} (hn : ¬ k < 0) (hN : k.toNatClampNeg = N) (hbytes : N * 4 ≤ 536870912) (hcells : cells + 1 ≤ R.cells) (hslots : slots + N ≤ R.slots) (hKK : KK n = kA 4 N) (hdg : decode cc pc = .ok (.anewarray idx, 3))
    (kk : ∀ (G1 : Gm) (σ1 : Sg) (H1 : Heap), IV a ci fs KK (n + 1) G0 σ0 G1 σ1 → AG (a + n) σ σ1 → ZC (a + n) σ1 → Ws G1 σ1 H0 H1 locs → W p l e R s m args below meth c H1 locs (cells + 1) (slots + N) Q (F0 m (pc + 3) ls (.ref (gB G0 + (a + n)) :: rest))) : W p l e R s m args below meth c H locs cells slots Q (F0 m pc ls (.int k :: rest)) := by
  refine wnQ (hI.1.Cx C) hW hcl hn hN hbytes hcells hslots hdg (fun H1 hW1 => ?_)
  obtain ⟨i1, i2, i3⟩ := hI.push hKK
  rw [hI.1.B, hI.2.1]
  exact kk _ _ H1 i1 i2 i3 hW1
theorem IV.put (hI : IV a ci fs KK n G0 σ0 G σ) {fs' : List Value} : IV a ci fs' KK n G0 σ0 G (wE σ a (.inr (ci, fs'))) ∧ AG (a + n) σ (wE σ a (.inr (ci, fs'))) := by
  obtain ⟨hS, hN, h0, hk, hE, h1, h2, h3⟩ := hI
  refine ⟨⟨hS, hN, h0, hk, by simp [wE, va_up], h1, h2, fun x hx => ?_⟩, fun x hx => ⟨rfl, rfl, rfl⟩⟩
  obtain ⟨q1, q2, q3, q4⟩ := h3 x hx
  exact ⟨q1, q2, q3, by rw [← q4]; exact va_up_ne _ _ (by omega)⟩
theorem xpR (C : Cx p s m args c cc own nL Y G0) (hW : Ws G σ H0 H locs) (hI : IV a ci fs KK n G0 σ0 G σ) {CC : String} {T : u_T} {N : Nat} (hin : ∀ w ∈ u_ws CC T N, w ∈ TB) (ty0 : Nat → FieldType) (hty : ∀ k, k < N → parseFieldDescriptor (T k).2.2.1 = some (ty0 k)) (hnm : ∀ a, a < N → ∀ b, b < N → a ≠ b → (T a).2.1 ≠ (T b).2.1) (hc : vwCl[ci]? = some (CC, T, N)) (j : Nat) (hj : j < N) {idx : Nat} (hl : Cond.fieldLink own idx (T j).1 (T j).2.1 (T j).2.2.1 ∈ TB) (hfin : (T j).2.2.2 = false) {ty : FieldType} {v : Value} (hd : parseFieldDescriptor (T j).2.2.1 = some ty) (hn : narrow ty v = v) (hfit : fits ty v = true) {fs' : List Value} (hfs : fs.set j v = fs') (hlen : j < fs.length) (hdg : decode cc pc = .ok (.putfield idx, 3))
    (kk : ∀ (σ1 : Sg) (H1 : Heap) (locs1 : List Loc), IV a ci fs' KK n G0 σ0 G σ1 → AG (a + n) σ σ1 → Ws G σ1 H0 H1 locs1 → W p l e R s m args below meth c H1 locs1 cells slots Q (F0 m (pc + 3) ls rest)) : W p l e R s m args below meth c H locs cells slots Q (F0 m pc ls (v :: .ref (gB G0 + a) :: rest)) := by
  subst hfs
  rw [← hI.1.B]
  refine wpR (hI.1.Cx C) hW hin ty0 hty hnm hc hI.2.2.2.1 hI.2.2.2.2.1 j hj hl hfin hd hn hfit hlen hdg (fun H1 locs1 hW1 _ => ?_)
  exact kk _ H1 locs1 hI.put.1 hI.put.2 hW1
theorem xpF (C : Cx p s m args c cc own nL Y G0) (hW : Ws G σ H0 H locs) (hI : IV a ci fs KK n G0 σ0 G σ) (hin2 : meth.name = "<init>") {T : u_T} {N : Nat} (hin : ∀ w ∈ u_ws own T N, w ∈ TB) (ty0 : Nat → FieldType) (hty : ∀ k, k < N → parseFieldDescriptor (T k).2.2.1 = some (ty0 k)) (hnm : ∀ a, a < N → ∀ b, b < N → a ≠ b → (T a).2.1 ≠ (T b).2.1) (hc : vwCl[ci]? = some (own, T, N)) (j : Nat) (hj : j < N) {idx : Nat} (hl : Cond.fieldLink own idx (T j).1 (T j).2.1 (T j).2.2.1 ∈ TB) (hfin : (T j).2.2.2 = true) (hdecl : (T j).1 = own) {ty : FieldType} {v : Value} (hd : parseFieldDescriptor (T j).2.2.1 = some ty) (hn : narrow ty v = v) (hfit : fits ty v = true) {fs' : List Value} (hfs : fs.set j v = fs') (hlen : j < fs.length) (hdg : decode cc pc = .ok (.putfield idx, 3))
    (kk : ∀ (σ1 : Sg) (H1 : Heap) (locs1 : List Loc), IV a ci fs' KK n G0 σ0 G σ1 → AG (a + n) σ σ1 → Ws G σ1 H0 H1 locs1 → W p l e R s m args below meth c H1 locs1 cells slots Q (F0 m (pc + 3) ls rest)) : W p l e R s m args below meth c H locs cells slots Q (F0 m pc ls (v :: .ref (gB G0 + a) :: rest)) := by
  subst hfs
  rw [← hI.1.B]
  refine wpF (hI.1.Cx C) hW hin2 hin ty0 hty hnm hc hI.2.2.2.1 hI.2.2.2.2.1 j hj hl hfin hdecl hd hn hfit hlen hdg (fun H1 locs1 hW1 _ => ?_)
  exact kk _ H1 locs1 hI.put.1 hI.put.2 hW1
theorem xgR (C : Cx p s m args c cc own nL Y G0) (hW : Ws G σ H0 H locs) (hS : gS G0 G) (hk : gK G a = 9) (hE : σ.2.2.2 a = .inr (ci, fs)) {CC : String} {T : u_T} {N : Nat} (hin : ∀ w ∈ u_ws CC T N, w ∈ TB) (hc : vwCl[ci]? = some (CC, T, N)) (j : Nat) (hj : j < N) {idx : Nat} (hl : Cond.fieldLink own idx (T j).1 (T j).2.1 (T j).2.2.1 ∈ TB) {v : Value} (hv : fs[j]? = some v) (hdg : decode cc pc = .ok (.getfield idx, 3))
    (kk : W p l e R s m args below meth c H locs cells slots Q (F0 m (pc + 3) ls (v :: rest))) : W p l e R s m args below meth c H locs cells slots Q (F0 m pc ls (.ref (gB G0 + a) :: rest)) := by
  rw [← hS.B]
  exact wgR (hS.Cx C) hW hin hc hk hE j hj hl hv hdg kk
theorem xnew (C : Cx p s m args c cc own nL Y G0) (hW : Ws G σ H0 H locs) (hI : IV a ci fs KK n G0 σ0 G σ) {CC : String} {T : u_T} {N ci2 idx : Nat} (hin : ∀ w ∈ u_ws CC T N, w ∈ TB) (ty : Nat → FieldType) (hty : ∀ k, k < N → parseFieldDescriptor (T k).2.2.1 = some (ty k)) (hc : vwCl[ci2]? = some (CC, T, N)) (hcl : Cond.classLink own idx CC ∈ TB) (hinst : Cond.instantiable CC N ∈ TB) (hini : Cond.initialized CC ∈ TB) {fs2 : List Value} (hfs : ∀ j, j < N → defaultValue (ty j) = vp_V fs2 j) (hcells : cells + 1 ≤ R.cells) (hslots : slots + N ≤ R.slots) (hdg : decode cc pc = .ok (.new idx, 3))
    (kk : ∀ (G1 : Gm) (σ1 : Sg) (H1 : Heap), IV2 a ci fs KK n G0 σ0 ci2 fs2 G1 σ1 → AG (a + n) σ σ1 → Ws G1 σ1 H0 H1 locs → W p l e R s m args below meth c H1 locs (cells + 1) (slots + N) Q (F0 m (pc + 3) ls (.ref (gB G0 + (a + n)) :: rest))) : W p l e R s m args below meth c H locs cells slots Q (F0 m pc ls rest) := by
  refine wnew (hI.1.Cx C) hW hin ty hty hc hcl hinst hini hfs hcells hslots hdg (fun H1 hW1 => ?_)
  obtain ⟨hS, hN, h0, hk, hE, h1, h2, h3⟩ := hI
  rw [hS.B, hN]
  have o : ∀ x, x ≠ a + n → (zE σ (gN G) (.inr (ci2, fs2))).1 x = σ.1 x ∧ (zE σ (gN G) (.inr (ci2, fs2))).2.1 x = σ.2.1 x ∧ (zE σ (gN G) (.inr (ci2, fs2))).2.2.1 x = σ.2.2.1 x ∧ (zE σ (gN G) (.inr (ci2, fs2))).2.2.2 x = σ.2.2.2 x := fun x hx => oZE x (by rw [hN]; exact hx)
  refine kk _ _ H1 ⟨hS.tr (gS.push _ _), ?_, h0, ?_, ?_, fun x hx => ?_, fun i i1 i2 => ?_, fun x hx => ?_, ?_, ?_⟩ (fun x hx => ?_) hW1
  · show gN G + 1 = a + n + 1; omega
  · rw [gpu, if_neg (by omega)]; exact hk
  · exact (o a (by omega)).2.2.2.trans hE
  · rw [gpu, if_neg (by omega)]; exact h1 x hx
  · rw [gpu, if_neg (by omega)]; exact h2 i i1 i2
  · obtain ⟨q1, q2, q3, q4⟩ := o x (by omega)
    rw [q1, q2, q3, q4]; exact h3 x hx
  · rw [gpu, if_pos hN.symm]
  · rw [← hN]; simp [zE, wE, va_up]
  · obtain ⟨q1, q2, q3, q4⟩ := o x (by omega)
    exact ⟨q1, q2, q3⟩
theorem cMx (C : Cx p s m args c cc own nL Y G0) (hS : gS G0 G) (hW : Ws G σ H0 H locs) {y : MethodName} {bc : ByteArray} {mL fr lo mc ms k n2 idx : Nat} {As : List Value} {P : Gm → Sg → Prop} (hM : Mx l G y bc mL fr lo mc ms (.ref (gB G0 + k) :: As) σ P) (ki : KI y bc mL n2) (hl : Cond.methodLink own idx y ∈ TB ∨ (own, idx, y, "RightKeys") ∈ nwL) (hR : fr + 1 ≤ R.frames ∧ 8 + (mL + 11) + lo ≤ R.locals) (hc : cells + mc ≤ R.cells ∧ slots + ms ≤ R.slots) (hn : As.length = n2) (hsz : ls.size = nL) {st0 : List Value} (hst : st0 = As.reverse ++ .ref (gB G0 + k) :: rest) (hcat : (rest.map fun v => v.category).sum ≤ 8) (hdg : decode cc pc = .ok (.invokespecial idx, 3))
    (kk : ∀ (G1 : Gm) (σ1 : Sg) (H1 : Heap) (locs1 : List Loc), gS G0 G1 → P G1 σ1 → Ws G1 σ1 H0 H1 locs1 → W p l e R s m args below meth c H1 locs1 (cells + mc) (slots + ms) Q (F0 m (pc + 3) ls rest)) : W p l e R s m args below meth c H locs cells slots Q (F0 m pc ls st0) := by
  subst hst
  have hS2 := hS
  obtain ⟨N9, kd9, rfl⟩ := hS
  have C1 := hS2.Cx C
  rcases hl with hl | hl
  · exact va_callv (va_runI C1.1 hM ⟨callB_of n2 C1.1.2.2.2.2 (gdS ki.1.2.2) rfl rfl rfl (C1.w ki.1.2.1) (C1.w hl) ki.2.2 hR, ki.2.1, C1.w ki.1.1⟩ (prS C1 hW) rfl hn hsz rfl (lv_room hcat) hdg hc) hW.2 (fun q _ h => h) (fun q h => h) (fun u t H1 locs1 ht hvm hw hB hz1 hk1 hS => by
      obtain ⟨G1, σ1, g1, g2, g3⟩ := hB
      have gg := hS2.tr g1
      obtain ⟨N8, kd8, rfl⟩ := g1
      exact kk _ σ1 H1 locs1 gg g2 ⟨by rw [← ht]; exact g3, hS⟩)
  · exact va_callv (va_runIN C1.1 hM ⟨va_cnB n2 C1.1.2.2.2.2 (gdS ki.1.2.2) rfl rfl rfl (C1.2.2.1 _ hl) (C1.w ki.1.2.1) ki.2.2 hR, ki.2.1, C1.w ki.1.1⟩ (prS C1 hW) rfl hn hsz rfl (lv_room hcat) hdg hc) hW.2 (fun q _ h => h) (fun q h => h) (fun u t H1 locs1 ht hvm hw hB hz1 hk1 hS => by
      obtain ⟨G1, σ1, g1, g2, g3⟩ := hB
      have gg := hS2.tr g1
      obtain ⟨N8, kd8, rfl⟩ := g1
      exact kk _ σ1 H1 locs1 gg g2 ⟨by rw [← ht]; exact g3, hS⟩)
theorem xcI (C : Cx p s m args c cc own nL Y G0) (hW : Ws G σ H0 H locs) {ci2 : Nat} {fs2 : List Value} (hI : IV2 a ci fs KK n G0 σ0 ci2 fs2 G σ) {y : MethodName} {bc : ByteArray} {mL fr lo mc ms n2 idx cnt : Nat} {As : List Value} {KK2 : Nat → Nat} {P : Gm → Sg → Prop} (hM : Mx l G y bc mL fr lo mc ms (.ref (gB G0 + (a + n)) :: As) σ (fun G' σ' => PBx (a + n) cnt KK2 G σ G' σ' ∧ P G' σ')) (hKK : ∀ i, i < cnt → KK2 i = KK (n + i)) (ki : KI y bc mL n2) (hl : Cond.methodLink own idx y ∈ TB ∨ (own, idx, y, "RightKeys") ∈ nwL) (hR : fr + 1 ≤ R.frames ∧ 8 + (mL + 11) + lo ≤ R.locals) (hc : cells + mc ≤ R.cells ∧ slots + ms ≤ R.slots) (hn : As.length = n2) (hsz : ls.size = nL) {st0 : List Value} (hst : st0 = As.reverse ++ .ref (gB G0 + (a + n)) :: rest) (hcat : (rest.map fun v => v.category).sum ≤ 8) (hdg : decode cc pc = .ok (.invokespecial idx, 3))
    (kk : ∀ (G1 : Gm) (σ1 : Sg) (H1 : Heap) (locs1 : List Loc), IV a ci fs KK (n + cnt) G0 σ0 G1 σ1 → AG (a + n) σ σ1 → P G1 σ1 → Ws G1 σ1 H0 H1 locs1 → W p l e R s m args below meth c H1 locs1 (cells + mc) (slots + ms) Q (F0 m (pc + 3) ls rest)) : W p l e R s m args below meth c H locs cells slots Q (F0 m pc ls st0) := by
  refine cMx C hI.1 hW hM ki hl hR hc hn hsz hst hcat hdg (fun G1 σ1 H1 locs1 g1 g2 hW1 => ?_)
  obtain ⟨hS, hN, h0, hk, hE, h1, h2, h3, -, -⟩ := hI
  obtain ⟨⟨p1, p2, p3, p4⟩, g2⟩ := g2
  refine kk G1 σ1 H1 locs1 ⟨g1, by omega, by omega, ?_, ?_, fun x hx => ?_, fun i i1 i2 => ?_, fun x hx => ?_⟩ (fun x hx => ?_) g2 hW1
  · rw [p2 a (by omega)]; exact hk
  · rw [(p4 a (by omega)).2.2.2]; exact hE
  · rw [p2 x (by omega)]; exact h1 x hx
  · by_cases z : i < n
    · rw [p2 _ (by omega)]; exact h2 i i1 z
    · have := p3 (i - n) (by omega)
      rw [show a + n + (i - n) = a + i by omega] at this
      rw [this, hKK _ (by omega), show n + (i - n) = i by omega]
  · obtain ⟨q1, q2, q3, q4⟩ := p4 x (by omega)
    rw [q1, q2, q3, q4]; exact h3 x hx
  · obtain ⟨q1, q2, q3, q4⟩ := p4 x hx
    exact ⟨q1, q2, q3⟩
theorem IV.kind (hI : IV a ci fs KK n G0 σ0 G σ) (hW : Ws G σ H0 H locs) {σ' : Sg} (he : clE (gC G) (gB G) σ' a (ci + 1) = .inr (ci, fs)) (ho : ∀ x, x ≠ a → σ'.1 x = σ.1 x ∧ σ'.2.1 x = σ.2.1 x ∧ σ'.2.2.1 x = σ.2.2.1 x ∧ σ'.2.2.2 x = σ.2.2.2 x) (hs : Sh (va_up (gK G) a (ci + 1)) (gN G) σ'.2.2.1) (hc0 : KK 0 = ci + 1) : Ws (gKind G a (ci + 1)) σ' H0 H locs ∧ gS G0 (gKind G a (ci + 1)) ∧ PBx a n KK G0 σ0 (gKind G a (ci + 1)) σ' := by
  obtain ⟨hS, hN, h0, hk, hE, h1, h2, h3⟩ := hI
  refine ⟨⟨hW.1.kind hk (he.trans hE.symm) ho hs, hW.2⟩, hS.tr (gS.kind _ _ _), hN, fun x hx => ?_, fun i hi => ?_, fun x hx => ?_⟩
  · show va_up (gK G) a (ci + 1) x = _
    rw [va_up_ne _ _ (by omega)]; exact h1 x hx
  · show va_up (gK G) a (ci + 1) (a + i) = _
    by_cases z : i = 0
    · subst z; rw [hc0]; simp [va_up]
    · rw [va_up_ne _ _ (by omega)]; exact h2 i (by omega) hi
  · obtain ⟨q1, q2, q3, q4⟩ := ho x (by omega)
    rw [q1, q2, q3, q4]; exact h3 x hx
theorem rx {P : Gm → Sg → Prop} {mc ms : Nat} (hQ : Q = MQ below (va_Qv (fun (_ : Unit) => True) (fun _ t => ∃ G' σ', gS G0 G' ∧ P G' σ' ∧ Wo G' σ' t.heap) (fR G0)) args s mc ms (fR G0)) (C : Cx p s m args c cc own nL Y G0) (hr : meth.sig.returnType = none) (hlk : meth.locks = false) (hG : gS G0 G) (hP : P G σ) (hW : Ws G σ s.heap H locs) (hdg : decode cc pc = .ok (.return_, 1)) : W p l e R s m args below meth c H locs mc ms Q (F0 m pc ls []) := by
  subst hQ
  have hG2 := hG
  obtain ⟨N, kd, rfl⟩ := hG
  exact W.vret C.1.1 C.1.2.1 hr (fun t ht _ => ⟨⟨(), rfl, trivial, _, σ, hG2, hP, by rw [ht]; exact hW.1⟩, hW.2.F ht⟩) hW.2.2.2 hdg hlk
end XMADE
theorem clear0_v {a : Nat} {σ : Sg} : ∃ τ, fX0_clear a σ = some τ ∧ Fs (fun y j => y = a ∧ j = 1 ∨ y = a + 1 ∨ y = a + 2) σ τ ∧ ∀ k, k < 4 → LC τ a k [] (dfl k) := by
  unfold fX0_clear
  dsimp only
  have hF2 : Fs (fun y j => y = a ∧ j = 1) σ (wI σ a 1 0) := Fs.rf.wI ⟨rfl, rfl⟩
  have v2 : (wI σ a 1 0).1 a 1 = nI 0 := by rw [wI_k, upd_k]; rfl
  generalize wI σ a 1 0 = σ2 at hF2 v2
  obtain ⟨σ3, a1, a2, a3, a4, a5, a6⟩ := pd_v (k := 0) (by omega) (by omega) v2 0 1
  have a1 : fX0_putDefault a 0 0 1 σ2 = some σ3 := a1
  obtain ⟨σ4, b1, b2, b3, b4, b5, b6⟩ := pd_v (k := 1) (by omega) (by omega) a6 1 2
  have b1 : fX0_putDefault a 1 1 2 σ3 = some σ4 := b1
  obtain ⟨σ5, c1, c2, c3, c4, c5, c6⟩ := pd_v (k := 2) (by omega) (by omega) b6 1 6
  have c1 : fX0_putDefault a 2 1 6 σ4 = some σ5 := c1
  obtain ⟨σ6, d1, d2, d3, d4, d5, d6⟩ := pd_v (k := 3) (by omega) (by omega) c6 0 0
  have d1 : fX0_putDefault a 3 0 0 σ5 = some σ6 := d1
  rw [a1, Option.bind_some, b1, Option.bind_some, c1, Option.bind_some, d1, Option.bind_some]
  refine ⟨σ6, rfl, ((((hF2.mo (fun y j q => by omega)).tr (a2.mo (fun y j q => by omega))).tr (b2.mo (fun y j q => by omega))).tr (c2.mo (fun y j q => by omega))).tr (d2.mo (fun y j q => by omega)), fun k hk => ⟨dfl_w hk, 2 * k, 8, ?_⟩⟩
  rcases (show k = 0 ∨ k = 1 ∨ k = 2 ∨ k = 3 by omega) with rfl | rfl | rfl | rfl
  · refine ⟨?_, by omega, d6, ⟨⟨?_, trivial⟩, ?_⟩, by decide⟩
    · rw [d2.1 _ _ (by omega), c2.1 _ _ (by omega), b2.1 _ _ (by omega)]; exact a3
    · rw [d2.1 _ _ (by omega), c2.1 _ _ (by omega), b2.1 _ _ (by omega)]; exact a4.trans (by decide)
    · rw [show 2 * 0 + (dfl 0).length = 1 from rfl, d2.1 _ _ (by omega), c2.1 _ _ (by omega), b2.1 _ _ (by omega)]; exact a5
  · refine ⟨?_, by omega, d6, ⟨⟨?_, trivial⟩, ?_⟩, by decide⟩
    · rw [d2.1 _ _ (by omega), c2.1 _ _ (by omega)]; exact b3
    · rw [d2.1 _ _ (by omega), c2.1 _ _ (by omega)]; exact b4.trans (by decide)
    · rw [show 2 * 1 + (dfl 1).length = 3 from rfl, d2.1 _ _ (by omega), c2.1 _ _ (by omega)]; exact b5
  · refine ⟨?_, by omega, d6, ⟨⟨?_, trivial⟩, ?_⟩, by decide⟩
    · rw [d2.1 _ _ (by omega)]; exact c3
    · rw [d2.1 _ _ (by omega)]; exact c4.trans (by decide)
    · rw [show 2 * 2 + (dfl 2).length = 5 from rfl, d2.1 _ _ (by omega)]; exact c5
  · refine ⟨d3, by omega, d6, ⟨⟨d4.trans (by decide), trivial⟩, ?_⟩, by decide⟩
    rw [show 2 * 3 + (dfl 3).length = 7 from rfl]; exact d5
