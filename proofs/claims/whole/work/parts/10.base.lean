/-! the words that every contract takes: the law's own table, those that last -/
def TB : List Cond := lw_tbl.filter goodWord
theorem tb_mem {w : Cond} (i : Nat) (h : lw_tbl[i]? = some w) (hg : goodWord w = true) : w ∈ TB := List.mem_filter.mpr ⟨List.mem_of_getElem? h, hg⟩
theorem tb_gd {w : Cond} (h : w ∈ TB) : (w.onTables && w.keeps) = true ∨ ∃ ty, w = .arrayClass ty := good_of_word (List.mem_filter.mp h).2
theorem tb_in {Y : Cond} {ws : List Cond} (h : ∀ w ∈ ws, w ∈ TB) : GoodIn (Y :: TB) ws := fun w hw => ⟨List.mem_cons_of_mem _ (h w hw), tb_gd (h w hw)⟩
theorem tb_fs {C : String} {T : u_T} {N : Nat} (ps : List Nat) (hp : u_ws C T N = ps.filterMap (fun i => lw_tbl[i]?)) (hg : (u_ws C T N).all goodWord = true) : ∀ w ∈ u_ws C T N, w ∈ TB := fun w hw => by
  have h1 := List.all_eq_true.mp hg w hw
  rw [hp] at hw
  obtain ⟨i, -, hi⟩ := List.mem_filterMap.mp hw
  exact tb_mem i hi h1
/-! the store: ints, longs, references that change, cells that are not yet whole -/
abbrev Sg : Type := (Nat → Nat → Int32) × (Nat → Nat → Int64) × (Nat → Nat → Nat) × (Nat → va_E)
def wI (σ : Sg) (k i : Nat) (v : Int32) : Sg := (va_up σ.1 k (upd (σ.1 k) i v), σ.2)
def wR (σ : Sg) (k : Nat) (f : Nat → Int32) : Sg := (va_up σ.1 k f, σ.2)
def wJ (σ : Sg) (k i : Nat) (v : Int64) : Sg := (σ.1, va_up σ.2.1 k (vp_updL (σ.2.1 k) i v), σ.2.2)
def wT (σ : Sg) (k i v : Nat) : Sg := (σ.1, σ.2.1, va_up σ.2.2.1 k (va_up (σ.2.2.1 k) i v), σ.2.2.2)
def wE (σ : Sg) (k : Nat) (e : va_E) : Sg := (σ.1, σ.2.1, σ.2.2.1, va_up σ.2.2.2 k e)
def kA (t n : Nat) : Nat := 16 + 8 * n + t
def obE (b : Nat) (σ : Sg) (k c : Nat) : va_E := match c with
  | 1 => .inr (0, [.ref (b + (k + 1)), .int (σ.1 k 1), .ref (b + (k + 2)), .ref (b + (k + 3)), .ref (b + (k + 4))])
  | 2 => .inr (1, [.ref (b + (k + 1)), .int (σ.1 k 1), .ref (b + σ.2.2.1 k 2), .int (σ.1 k 3), .int (σ.1 k 4), .int (σ.1 k 5), .int (σ.1 k 6)])
  | 3 => .inr (2, [.ref (b + σ.2.2.1 k 0), .int (σ.1 k 1), .int (σ.1 k 2), .int (σ.1 k 3), .int (σ.1 k 4), .int (σ.1 k 5), .int (σ.1 k 6), .int (σ.1 k 7), .int (σ.1 k 8), .int (σ.1 k 9), .int (σ.1 k 10), .int (σ.1 k 11), .ref (b + (k + 1)), .ref (b + (k + 2)), .ref (b + (k + 3)), .ref (b + (k + 4)), .ref (b + (k + 5)), .ref (b + (k + 6)), .ref (b + (k + 7)), .ref (b + (k + 8))])
  | 4 => .inr (3, [.int (σ.1 k 0), .int (σ.1 k 1), .int (σ.1 k 2), .int (σ.1 k 3), .ref (b + (k + 1)), .ref (b + (k + 2)), .ref (b + (k + 3)), .ref (b + (k + 4)), .ref (b + (k + 5)), .ref (b + (k + 6)), .ref (b + (k + 7))])
  | 5 => .inr (4, [.ref (b + (k + 1)), .ref (b + (k + 2)), .ref (b + (k + 3)), .int (σ.1 k 3)])
  | 6 => .inr (5, [.ref (b + (k + 1)), .int (σ.1 k 1), .int (σ.1 k 2), .int (σ.1 k 3), .int (σ.1 k 4)])
  | 7 => .inr (6, [.ref (b + (k + 1)), .int (σ.1 k 1), .int (σ.1 k 2), .ref (b + σ.2.2.1 k 3), .ref (b + σ.2.2.1 k 4), .ref (b + (k + 26)), .ref (b + (k + 31)), .ref (b + (k + 40)), .ref (b + (k + 49)), .ref (b + (k + 51)), .int (σ.1 k 10), .int (σ.1 k 11), .ref (b + (k + 52)), .int (σ.1 k 13), .ref (b + (k + 53)), .int (σ.1 k 15), .int (σ.1 k 16), .ref (b + (k + 54))])
  | 8 => .inr (7, [.int (σ.1 k 0), .ref (b + (k + 1)), .int (σ.1 k 2), .ref (b + (k + 2)), .int (σ.1 k 4), .ref (b + (k + 3)), .ref (b + (k + 4)), .ref (b + (k + 5)), .ref (b + (k + 6)), .ref (b + (k + 7)), .int (σ.1 k 10), .int (σ.1 k 11), .int (σ.1 k 12), .int (σ.1 k 13), .int (σ.1 k 14), .int (σ.1 k 15), .int (σ.1 k 16), .int (σ.1 k 17), .int (σ.1 k 18), .int (σ.1 k 19), .int (σ.1 k 20), .ref (b + (k + 8)), .ref (b + (k + 9)), .ref (b + (k + 10)), .ref (b + (k + 11)), .ref (b + (k + 12)), .ref (b + (k + 13)), .ref (b + (k + 14)), .ref (b + (k + 15)), .ref (b + (k + 16)), .ref (b + (k + 17)), .ref (b + (k + 18)), .ref (b + (k + 19)), .int (σ.1 k 33), .ref (b + (k + 20)), .ref (b + (k + 21)), .ref (b + (k + 22)), .ref (b + (k + 23)), .ref (b + (k + 24)), .int (σ.1 k 39), .ref (b + (k + 25)), .ref (b + (k + 26)), .ref (b + (k + 27)), .int (σ.1 k 43), .ref (b + (k + 28)), .ref (b + (k + 29)), .int (σ.1 k 46), .ref (b + (k + 30)), .ref (b + (k + 31)), .int (σ.1 k 49), .int (σ.1 k 50), .int (σ.1 k 51), .ref (b + (k + 32)), .int (σ.1 k 53), .ref (b + (k + 33)), .ref (b + (k + 34)), .int (σ.1 k 56), .int (σ.1 k 57), .int (σ.1 k 58), .int (σ.1 k 59), .int (σ.1 k 60), .int (σ.1 k 61), .ref (b + (k + 35)), .ref (b + (k + 36)), .ref (b + (k + 37)), .ref (b + (k + 38)), .ref (b + (k + 39))])
  | _ => σ.2.2.2 k
def arE (cs : Nat → ClassId) (b : Nat) (σ : Sg) (k n t : Nat) : va_E := match t with
  | 0 => .inl (cs 0, n, .inl (σ.1 k))
  | 1 => .inl (cs 1, n, .inl (σ.1 k))
  | 2 => .inl (cs 2, n, .inr (.inl (σ.2.1 k)))
  | 3 => .inl (cs 3, n, .inl (σ.1 k))
  | _ => .inl (cs 4, n, .inr (.inr (.inr (.inr (fun j => if σ.2.2.1 k j = 0 then none else some (b + σ.2.2.1 k j))))))
def clE (cs : Nat → ClassId) (b : Nat) (σ : Sg) (k c : Nat) : va_E := if c < 16 then obE b σ k c else arE cs b σ k ((c - 16) / 8) ((c - 16) % 8)
theorem clE_A {cs : Nat → ClassId} {b : Nat} {σ : Sg} {k t n : Nat} (ht : t < 8) : clE cs b σ k (kA t n) = arE cs b σ k n t := by
  unfold clE kA
  rw [if_neg (by omega), show (16 + 8 * n + t - 16) / 8 = n by omega, show (16 + 8 * n + t - 16) % 8 = t by omega]
theorem clE_eq {cs : Nat → ClassId} {b : Nat} {σ τ : Sg} {k c : Nat} (h1 : σ.1 k = τ.1 k) (h2 : σ.2.1 k = τ.2.1 k) (h3 : σ.2.2.1 k = τ.2.2.1 k) (h4 : σ.2.2.2 k = τ.2.2.2 k) : clE cs b σ k c = clE cs b τ k c := by
  unfold clE
  split
  · unfold obE
    split <;> simp only [h1, h3, h4]
  · unfold arE
    split <;> simp only [h1, h2, h3]
/-! what kind of cell lies where: each final reference leads to a cell of its kind -/
def Sh0 (kd : Nat → Nat) (T : Nat → Nat → Nat) : Prop := ∀ k, kd k = 1 → kd (k + 1) = (kA 1 408) ∧ kd (k + 2) = (kA 1 4) ∧ kd (k + 3) = (kA 1 9) ∧ kd (k + 4) = (kA 1 24)
def Sh1 (kd : Nat → Nat) (T : Nat → Nat → Nat) : Prop := ∀ k, kd k = 2 → kd (k + 1) = (5 : Nat) ∧ kd (T k 2) = (4 : Nat)
def Sh2 (kd : Nat → Nat) (T : Nat → Nat → Nat) : Prop := ∀ k, kd k = 3 → kd (T k 0) = (4 : Nat) ∧ kd (k + 1) = (kA 1 8) ∧ kd (k + 2) = (kA 1 8) ∧ kd (k + 3) = (kA 1 8) ∧ kd (k + 4) = (kA 1 8) ∧ kd (k + 5) = (kA 1 8) ∧ kd (k + 6) = (kA 1 8) ∧ kd (k + 7) = (kA 1 6) ∧ kd (k + 8) = (kA 1 6)
def Sh3 (kd : Nat → Nat) (T : Nat → Nat → Nat) : Prop := ∀ k, kd k = 4 → kd (k + 1) = (kA 2 8) ∧ kd (k + 2) = (kA 1 8) ∧ kd (k + 3) = (kA 1 8) ∧ kd (k + 4) = (kA 1 8) ∧ kd (k + 5) = (kA 1 6) ∧ kd (k + 6) = (kA 1 6) ∧ kd (k + 7) = (1 : Nat)
def Sh4 (kd : Nat → Nat) (T : Nat → Nat → Nat) : Prop := ∀ k, kd k = 5 → kd (k + 1) = (kA 1 402) ∧ kd (k + 2) = (kA 1 402) ∧ kd (k + 3) = (kA 2 402)
def Sh5 (kd : Nat → Nat) (T : Nat → Nat → Nat) : Prop := ∀ k, kd k = 6 → kd (k + 1) = (kA 1 8)
def Sh6 (kd : Nat → Nat) (T : Nat → Nat → Nat) : Prop := ∀ k, kd k = 7 → kd (k + 1) = (kA 0 2000) ∧ kd (T k 3) = (4 : Nat) ∧ kd (T k 4) = (4 : Nat) ∧ kd (k + 26) = (2 : Nat) ∧ kd (k + 31) = (3 : Nat) ∧ kd (k + 40) = (3 : Nat) ∧ kd (k + 49) = (6 : Nat) ∧ kd (k + 51) = (kA 4 40) ∧ kd (k + 52) = (kA 4 3) ∧ kd (k + 53) = (kA 1 20) ∧ kd (k + 54) = (kA 1 8)
def Sh7 (kd : Nat → Nat) (T : Nat → Nat → Nat) : Prop := ∀ k, kd k = 8 → kd (k + 1) = (kA 0 2000) ∧ kd (k + 2) = (kA 0 2000) ∧ kd (k + 3) = (kA 1 403) ∧ kd (k + 4) = (kA 1 403) ∧ kd (k + 5) = (kA 1 403) ∧ kd (k + 6) = (kA 2 403) ∧ kd (k + 7) = (kA 2 20) ∧ kd (k + 8) = (kA 2 8) ∧ kd (k + 9) = (kA 1 2) ∧ kd (k + 10) = (kA 1 16) ∧ kd (k + 11) = (kA 1 16) ∧ kd (k + 12) = (kA 1 16) ∧ kd (k + 13) = (kA 3 16) ∧ kd (k + 14) = (kA 1 2) ∧ kd (k + 15) = (kA 1 12) ∧ kd (k + 16) = (kA 1 12) ∧ kd (k + 17) = (kA 1 2) ∧ kd (k + 18) = (kA 1 8) ∧ kd (k + 19) = (kA 1 8) ∧ kd (k + 20) = (kA 3 260) ∧ kd (k + 21) = (kA 1 260) ∧ kd (k + 22) = (kA 1 260) ∧ kd (k + 23) = (kA 1 260) ∧ kd (k + 24) = (kA 1 260) ∧ kd (k + 25) = (kA 1 840) ∧ kd (k + 26) = (kA 1 840) ∧ kd (k + 27) = (kA 1 64) ∧ kd (k + 28) = (kA 1 9) ∧ kd (k + 29) = (kA 1 400) ∧ kd (k + 30) = (kA 1 88) ∧ kd (k + 31) = (kA 1 88) ∧ kd (k + 32) = (kA 3 8) ∧ kd (k + 33) = (kA 1 3520) ∧ kd (k + 34) = (kA 1 8) ∧ kd (k + 35) = (kA 1 20) ∧ kd (k + 36) = (kA 1 20) ∧ kd (k + 37) = (kA 1 8) ∧ kd (k + 38) = (kA 3 3) ∧ kd (k + 39) = (kA 1 264)
def ShR (kd : Nat → Nat) (T : Nat → Nat → Nat) : Prop := ∀ k n, kd k = kA 4 n → ∀ j, T k j ≠ 0 → kd (T k j) = 3
def Sh (kd : Nat → Nat) (N : Nat) (T : Nat → Nat → Nat) : Prop := (∀ k, kd k ≠ 0 → k < N) ∧ ShR kd T ∧ Sh0 kd T ∧ Sh1 kd T ∧ Sh2 kd T ∧ Sh3 kd T ∧ Sh4 kd T ∧ Sh5 kd T ∧ Sh6 kd T ∧ Sh7 kd T
/-- what stays: slots of the classes, array classes, where the world begins, how many cells, their kinds, the heap below -/
abbrev Gm : Type := va_G × (Nat → ClassId) × Nat × Nat × (Nat → Nat) × Heap × (Nat → Nat)
abbrev gD (G : Gm) : va_G := G.1
abbrev gC (G : Gm) : Nat → ClassId := G.2.1
abbrev gB (G : Gm) : Nat := G.2.2.1
abbrev gN (G : Gm) : Nat := G.2.2.2.1
abbrev gK (G : Gm) : Nat → Nat := G.2.2.2.2.1
abbrev gH (G : Gm) : Heap := G.2.2.2.2.2.1
/-- where the two texts lie that the class names -/
abbrev gA (G : Gm) : Nat → Nat := G.2.2.2.2.2.2
def Wo (G : Gm) (σ : Sg) (H : Heap) : Prop := H.size = gB G + gN G ∧ (∀ k, k < gN G → va_at (gD G) vwCl (gB G + k, clE (gC G) (gB G) σ k (gK G k)) H) ∧ (∀ q : Nat, q < gB G → H[q]? = (gH G)[q]?) ∧ Sh (gK G) (gN G) σ.2.2.1
def Ws (G : Gm) (σ : Sg) (H0 H : Heap) (locs : List Loc) : Prop := Wo G σ H ∧ va_S (fun q => gB G ≤ q) H0 H locs
def tysG (cs : Nat → ClassId) : List (ClassId × FieldType) := [(cs 0, .byte), (cs 1, .int), (cs 2, .long), (cs 3, .boolean), (cs 4, .object "RightKeys$Ring")]
def nwL : List (String × Nat × MethodName × String) := [("RightKeys", 22, ⟨"RightKeys$Text", "<init>", "()V"⟩, "RightKeys"), ("RightKeys$Reader", 11, ⟨"RightKeys$Tokens", "<init>", "()V"⟩, "RightKeys"), ("RightKeys", 51, ⟨"RightKeys$Watch", "<init>", "()V"⟩, "RightKeys"), ("RightKeys$Reader", 125, ⟨"RightKeys", "bit", "(II)I"⟩, "RightKeys"), ("RightKeys$Ring", 121, ⟨"RightKeys", "bit", "(II)I"⟩, "RightKeys"), ("RightKeys$Watch", 52, ⟨"RightKeys", "bit", "(II)I"⟩, "RightKeys")]
def tx0 : String := "house   spare   both    lets    quarrel rent    late    seed    if      then    else    hour    day     waited  temper  other   which   inside  outside keys    "
def tx1 : String := ";=+-*/<()"
def sxL : List Nat := [160, 9]
def sxB : List (List Int32) := [[104, 111, 117, 115, 101, 32, 32, 32, 115, 112, 97, 114, 101, 32, 32, 32, 98, 111, 116, 104, 32, 32, 32, 32, 108, 101, 116, 115, 32, 32, 32, 32, 113, 117, 97, 114, 114, 101, 108, 32, 114, 101, 110, 116, 32, 32, 32, 32, 108, 97, 116, 101, 32, 32, 32, 32, 115, 101, 101, 100, 32, 32, 32, 32, 105, 102, 32, 32, 32, 32, 32, 32, 116, 104, 101, 110, 32, 32, 32, 32, 101, 108, 115, 101, 32, 32, 32, 32, 104, 111, 117, 114, 32, 32, 32, 32, 100, 97, 121, 32, 32, 32, 32, 32, 119, 97, 105, 116, 101, 100, 32, 32, 116, 101, 109, 112, 101, 114, 32, 32, 111, 116, 104, 101, 114, 32, 32, 32, 119, 104, 105, 99, 104, 32, 32, 32, 105, 110, 115, 105, 100, 101, 32, 32, 111, 117, 116, 115, 105, 100, 101, 32, 107, 101, 121, 115, 32, 32, 32, 32], [59, 61, 43, 45, 42, 47, 60, 40, 41]]
def Sx (G : Gm) (s : State) : Prop := (vk_R "RightKeys$Tokens" 70 tx0 (gA G 0) s ∧ vk_R "RightKeys$Tokens" 54 tx1 (gA G 1) s) ∧ vk_S 2 sxL sxB (gA G) (fun i => gA G (i + 2)) (fun q => gB G ≤ q) s (gH G) ∧ va_Z "java/lang/String" "COMPACT_STRINGS" "Z" (.int 1) (fun q => gB G ≤ q) s (gH G) ∧ va_Zq "jdk/internal/util/Preconditions" "SIOOBE_FORMATTER" "Ljava/util/function/BiFunction;" (fun q => gB G ≤ q) s (gH G) ∧ va_AO "RightKeys$Ring" s
theorem Sx.warm {G : Gm} {s U : State} (hW : s.WarmedH U.vm) (h : Sx G s) : Sx G U := ⟨⟨h.1.1.warm hW, h.1.2.warm hW⟩, h.2.1.moved hW.alike, h.2.2.1.moved hW.alike, h.2.2.2.1.moved hW.alike, h.2.2.2.2.moved hW.alike⟩
theorem Sx.call {G : Gm} {U : State} {g : JFrame} {mk : MethodId} {a : Array Value} (h : Sx G U) : Sx G (U.calling g mk a) := ⟨⟨vk_R.same (u := U) rfl h.1.1, vk_R.same (u := U) rfl h.1.2⟩, vk_S.moved (u := U) (U := U.calling g mk a) (Vm.Alike.refl U.vm) h.2.1, va_Z.moved (u := U) (U := U.calling g mk a) (Vm.Alike.refl U.vm) h.2.2.1, va_Zq.moved (u := U) (U := U.calling g mk a) (Vm.Alike.refl U.vm) h.2.2.2.1, va_AO.moved (u := U) (U := U.calling g mk a) (Vm.Alike.refl U.vm) h.2.2.2.2⟩
def KK (G : Gm) (s : State) : Prop := va_K (gD G) vwCl (tysG (gC G)) s ∧ (∀ q ∈ nwL, va_Nw (.methodLinkNest q.1 q.2.1 q.2.2.1 q.2.2.2) s) ∧ Sx G s
theorem KK.warm {G : Gm} {s U : State} (hW : s.WarmedH U.vm) (h : KK G s) : KK G U := ⟨va_K.moved hW.alike h.1, fun q hq => va_Nw.warmM hW (h.2.1 q hq), h.2.2.warm hW⟩
theorem KK.call {G : Gm} {U : State} {g : JFrame} {mk : MethodId} {a : Array Value} (h : KK G U) : KK G (U.calling g mk a) := ⟨va_K.moved (u := U) (U := U.calling g mk a) (Vm.Alike.refl U.vm) h.1, fun q hq => va_Nw.same rfl rfl (h.2.1 q hq), h.2.2.call⟩
def Cx (p : Program) (s : State) (m : MethodId) (args : Array Value) (c : Code) (cc : ByteArray) (own : String) (nL : Nat) (Y : Cond) (G : Gm) : Prop := CallFix p m c cc nL s args (Y :: TB) own ∧ KK G s
theorem Wo.sh {G : Gm} {σ : Sg} {H : Heap} (h : Wo G σ H) : Sh (gK G) (gN G) σ.2.2.1 := h.2.2.2
theorem Ws.lt {G : Gm} {σ : Sg} {H0 H : Heap} {locs : List Loc} (h : Ws G σ H0 H locs) {k c : Nat} (hk : gK G k = c + 1) : k < gN G := h.1.2.2.2.1 k (by rw [hk]; omega)
theorem Ws.ltA {G : Gm} {σ : Sg} {H0 H : Heap} {locs : List Loc} (h : Ws G σ H0 H locs) {k t n : Nat} (hk : gK G k = kA t n) : k < gN G := h.1.2.2.2.1 k (by rw [hk]; unfold kA; omega)
theorem Wo.at {G : Gm} {σ : Sg} {H : Heap} (h : Wo G σ H) {k : Nat} (hk : k < gN G) {e : va_E} (he : clE (gC G) (gB G) σ k (gK G k) = e) : va_P (gD G) vwCl [(gB G + k, e)] H := by
  intro i q hi
  have hz : i < 1 := (List.getElem?_eq_some_iff.mp hi).1
  rw [show i = 0 by omega] at hi
  cases hi
  rw [← he]
  exact h.2.1 k hk
theorem Wo.upd {G : Gm} {σ σ' : Sg} {H H1 : Heap} (h : Wo G σ H) {k : Nat} (z : H1.size = H.size) (oq : ∀ q : Nat, q ≠ gB G + k → H1[q]? = H[q]?) (he : va_at (gD G) vwCl (gB G + k, clE (gC G) (gB G) σ' k (gK G k)) H1) (ho : ∀ x, x ≠ k → σ'.1 x = σ.1 x ∧ σ'.2.1 x = σ.2.1 x ∧ σ'.2.2.1 x = σ.2.2.1 x ∧ σ'.2.2.2 x = σ.2.2.2 x) (hs : Sh (gK G) (gN G) σ'.2.2.1) : Wo G σ' H1 := by
  refine ⟨by rw [z]; exact h.1, fun x hx => ?_, fun q hq => ?_, hs⟩
  · by_cases e : x = k
    · rw [e]; exact he
    · obtain ⟨h1, h2, h3, h4⟩ := ho x e
      rw [clE_eq h1 h2 h3 h4]
      exact (h.2.1 x hx).kept (oq _ (by omega))
  · rw [oq q (by omega)]; exact h.2.2.1 q hq
theorem oI {σ : Sg} {k : Nat} {f : Nat → Int32} : ∀ x, x ≠ k → (wR σ k f).1 x = σ.1 x ∧ (wR σ k f).2.1 x = σ.2.1 x ∧ (wR σ k f).2.2.1 x = σ.2.2.1 x ∧ (wR σ k f).2.2.2 x = σ.2.2.2 x := fun x hx => ⟨va_up_ne _ _ hx, rfl, rfl, rfl⟩
theorem oJ {σ : Sg} {k i : Nat} {v : Int64} : ∀ x, x ≠ k → (wJ σ k i v).1 x = σ.1 x ∧ (wJ σ k i v).2.1 x = σ.2.1 x ∧ (wJ σ k i v).2.2.1 x = σ.2.2.1 x ∧ (wJ σ k i v).2.2.2 x = σ.2.2.2 x := fun x hx => ⟨rfl, va_up_ne _ _ hx, rfl, rfl⟩
theorem oT {σ : Sg} {k i v : Nat} : ∀ x, x ≠ k → (wT σ k i v).1 x = σ.1 x ∧ (wT σ k i v).2.1 x = σ.2.1 x ∧ (wT σ k i v).2.2.1 x = σ.2.2.1 x ∧ (wT σ k i v).2.2.2 x = σ.2.2.2 x := fun x hx => ⟨rfl, rfl, va_up_ne _ _ hx, rfl⟩
theorem oE {σ : Sg} {k : Nat} {e : va_E} : ∀ x, x ≠ k → (wE σ k e).1 x = σ.1 x ∧ (wE σ k e).2.1 x = σ.2.1 x ∧ (wE σ k e).2.2.1 x = σ.2.2.1 x ∧ (wE σ k e).2.2.2 x = σ.2.2.2 x := fun x hx => ⟨rfl, rfl, rfl, va_up_ne _ _ hx⟩
/-! rows over that world -/
section ROWS
variable {p : Program} {l : Launch} {e : Env} {R : Room} {s : State} {m : MethodId} {args : Array Value} {below : List Frame} {meth : Method} {c : Code} {H H0 : Heap} {locs : List Loc} {cells slots : Nat} {Q : State → Prop} {cc : ByteArray} {own : String} {nL : Nat} {Y : Cond} {G : Gm} {σ : Sg} {pc : Nat} {ls : Array Slot} {rest : List Value}
theorem Cx.w (C : Cx p s m args c cc own nL Y G) {w : Cond} (h : w ∈ TB) : w.before args s = true := C.1.2.2.2.2 w (List.mem_cons_of_mem _ h)
theorem wgf (C : Cx p s m args c cc own nL Y G) (hW : Ws G σ H0 H locs) {k ci : Nat} {CC : String} {T : u_T} {N : Nat} (hin : ∀ w ∈ u_ws CC T N, w ∈ TB) (hc : vwCl[ci]? = some (CC, T, N)) (hk : k < gN G) {fs : List Value} (he : clE (gC G) (gB G) σ k (gK G k) = .inr (ci, fs)) (j : Nat) (hj : j < N) {idx : Nat} (hl : Cond.fieldLink own idx (T j).1 (T j).2.1 (T j).2.2.1 ∈ TB) {v : Value} (hv : fs[j]? = some v) (hdg : decode cc pc = .ok (.getfield idx, 3))
    (kk : W p l e R s m args below meth c H locs cells slots Q (F0 m (pc + 3) ls (v :: rest))) : W p l e R s m args below meth c H locs cells slots Q (F0 m pc ls (.ref (gB G + k) :: rest)) :=
  va_get C.1.1 C.1.2.1 C.1.2.2.2.2 (fun w h => List.mem_cons_of_mem _ (hin w h)) C.1.2.2.2.1 C.2.1 (hW.1.at hk he) 0 rfl hc j hj (C.w hl) (fun _ h => h) hv hdg kk
theorem wpf (C : Cx p s m args c cc own nL Y G) (hW : Ws G σ H0 H locs) {k ci : Nat} {CC : String} {T : u_T} {N : Nat} (hin : ∀ w ∈ u_ws CC T N, w ∈ TB) (ty0 : Nat → FieldType) (hty : ∀ k, k < N → parseFieldDescriptor (T k).2.2.1 = some (ty0 k)) (hnm : ∀ a, a < N → ∀ b, b < N → a ≠ b → (T a).2.1 ≠ (T b).2.1) (hc : vwCl[ci]? = some (CC, T, N)) (hk : k < gN G) {fs : List Value} (he : clE (gC G) (gB G) σ k (gK G k) = .inr (ci, fs)) (j : Nat) (hj : j < N) {idx : Nat} (hl : Cond.fieldLink own idx (T j).1 (T j).2.1 (T j).2.2.1 ∈ TB) (hfin : (T j).2.2.2 = false) {ty : FieldType} {v : Value} (hd : parseFieldDescriptor (T j).2.2.1 = some ty) (hn : narrow ty v = v) (hfit : fits ty v = true) (hlen : j < fs.length)
    (σ' : Sg) (he' : clE (gC G) (gB G) σ' k (gK G k) = .inr (ci, fs.set j v)) (ho : ∀ x, x ≠ k → σ'.1 x = σ.1 x ∧ σ'.2.1 x = σ.2.1 x ∧ σ'.2.2.1 x = σ.2.2.1 x ∧ σ'.2.2.2 x = σ.2.2.2 x) (hs : Sh (gK G) (gN G) σ'.2.2.1) (hdg : decode cc pc = .ok (.putfield idx, 3))
    (kk : ∀ (H1 : Heap) (locs1 : List Loc), Ws G σ' H0 H1 locs1 → W p l e R s m args below meth c H1 locs1 cells slots Q (F0 m (pc + 3) ls rest)) : W p l e R s m args below meth c H locs cells slots Q (F0 m pc ls (v :: .ref (gB G + k) :: rest)) := by
  have hts : ∀ w ∈ Y :: TB, w.before args s = true := C.1.2.2.2.2
  have hin' : ∀ w ∈ u_ws CC T N, w ∈ Y :: TB := fun w h => List.mem_cons_of_mem _ (hin w h)
  have hK := C.2.1
  have hap := va_apart (own := own) hts hin' ty0 hty hnm hK hc
  obtain ⟨r, h1, cell, q1, q2, q3, q4⟩ : va_at (gD G) vwCl (gB G + k, .inr (ci, fs)) H := by rw [← he]; exact hW.1.2.1 k hk
  have hr : r = (CC, T, N) := Option.some.inj (h1.symm.trans hc)
  subst hr
  obtain ⟨hS, hfc, kC, hkC, hkind⟩ := hK.1 ci _ hc
  obtain ⟨cf, kf, fi, f, hi, hsl⟩ := hS j hj
  have hlay := hts _ (hin' _ (u_in_lay hj))
  unfold u_lay at hlay
  rw [if_neg (by rw [hfin]; decide)] at hlay
  have hst := (u_facts hfc hkC (u_lays hts hin' hj) hi).1
  have h6 := u_store hfc hkC hkind hlay hi hd hn hfit
  refine W.putK C.1.1 C.1.2.1 (f := f) ⟨C.1.2.2.2.1, C.w hl, ⟨_, _, _, hi⟩, hst⟩ (by rw [q2]; exact h6) q1 q3 (by rw [hsl]; exact k2_hasslot (q4 j hj)) rfl rfl hdg fun H' e1 e2 e3 => ?_
  rw [hsl] at e1 ⊢
  refine kk H' _ ⟨hW.1.upd e2 e3 ?_ ho hs, hW.2.put e2 e3 (Nat.le_add_right _ _)⟩
  rw [he']
  exact ⟨_, hc, t_OB.to (V := updV (vp_V fs) j v) ⟨_, e1, q2, q3, t_set q4 hap hj v⟩ (fun i _ => vp_updV_set hlen v i)⟩
theorem wai (C : Cx p s m args c cc own nL Y G) (hW : Ws G σ H0 H locs) {k n : Nat} (hk : gK G k = kA 1 n) {i : Int32} (hi : vp_in i n) (hdg : decode cc pc = .ok (.iaload, 1))
    (kk : W p l e R s m args below meth c H locs cells slots Q (F0 m (pc + 1) ls (.int (σ.1 k i.toNatClampNeg) :: rest))) : W p l e R s m args below meth c H locs cells slots Q (F0 m pc ls (.int i :: .ref (gB G + k) :: rest)) :=
  va_iald C.1.1 C.1.2.1 C.2.1 (hW.1.at (hW.ltA hk) (by rw [hk, clE_A (by omega)]; rfl)) 0 1 rfl rfl hi hdg kk
theorem wab (C : Cx p s m args c cc own nL Y G) (hW : Ws G σ H0 H locs) {k n : Nat} (hk : gK G k = kA 0 n) {i : Int32} (hi : vp_in i n) (hdg : decode cc pc = .ok (.baload, 1))
    (kk : W p l e R s m args below meth c H locs cells slots Q (F0 m (pc + 1) ls (.int (σ.1 k i.toNatClampNeg) :: rest))) : W p l e R s m args below meth c H locs cells slots Q (F0 m pc ls (.int i :: .ref (gB G + k) :: rest)) :=
  va_bald C.1.1 C.1.2.1 C.2.1 (hW.1.at (hW.ltA hk) (by rw [hk, clE_A (by omega)]; rfl)) 0 0 rfl rfl hi hdg kk
theorem waz (C : Cx p s m args c cc own nL Y G) (hW : Ws G σ H0 H locs) {k n : Nat} (hk : gK G k = kA 3 n) {i : Int32} (hi : vp_in i n) (hdg : decode cc pc = .ok (.baload, 1))
    (kk : W p l e R s m args below meth c H locs cells slots Q (F0 m (pc + 1) ls (.int (σ.1 k i.toNatClampNeg) :: rest))) : W p l e R s m args below meth c H locs cells slots Q (F0 m pc ls (.int i :: .ref (gB G + k) :: rest)) :=
  va_zald C.1.1 C.1.2.1 C.2.1 (hW.1.at (hW.ltA hk) (by rw [hk, clE_A (by omega)]; rfl)) 0 3 rfl rfl hi hdg kk
theorem wal (C : Cx p s m args c cc own nL Y G) (hW : Ws G σ H0 H locs) {k n : Nat} (hk : gK G k = kA 2 n) {i : Int32} (hi : vp_in i n) (hdg : decode cc pc = .ok (.laload, 1))
    (kk : W p l e R s m args below meth c H locs cells slots Q (F0 m (pc + 1) ls (.long (σ.2.1 k i.toNatClampNeg) :: rest))) : W p l e R s m args below meth c H locs cells slots Q (F0 m pc ls (.int i :: .ref (gB G + k) :: rest)) :=
  va_lald C.1.1 C.1.2.1 C.2.1 (hW.1.at (hW.ltA hk) (by rw [hk, clE_A (by omega)]; rfl)) 0 2 rfl rfl hi hdg kk
theorem wsi (C : Cx p s m args c cc own nL Y G) (hW : Ws G σ H0 H locs) {k n : Nat} (hk : gK G k = kA 1 n) {i x : Int32} (hi : vp_in i n) (hdg : decode cc pc = .ok (.iastore, 1))
    (kk : ∀ (H1 : Heap) (locs1 : List Loc), Ws G (wI σ k i.toNatClampNeg x) H0 H1 locs1 → W p l e R s m args below meth c H1 locs1 cells slots Q (F0 m (pc + 1) ls rest)) : W p l e R s m args below meth c H locs cells slots Q (F0 m pc ls (.int x :: .int i :: .ref (gB G + k) :: rest)) := by
  have ha : va_at (gD G) vwCl (gB G + k, .inl (gC G 1, n, .inl (σ.1 k))) H := by
    have := hW.1.2.1 k (hW.ltA hk); rw [hk, clE_A (by omega)] at this; exact this
  refine W.iast C.1.1 C.1.2.1 ha ((C.2.1.2 1 _ rfl).1 n (fun j => .int (σ.1 k j))) (fun q => by cases q) (by show ¬ (i < 0 ∨ (arrV _ _ _).slots.size ≤ _); rw [arrV_size]; exact hi) rfl rfl hdg fun H1 e1 z oq => ?_
  refine kk H1 _ ⟨hW.1.upd z oq ?_ oI hW.1.2.2.2, hW.2.put z oq (Nat.le_add_right _ _)⟩
  rw [hk, clE_A (by omega)]
  show H1[_]? = some (vp_cell _ _)
  rw [e1, vp_cell_i, vp_cell_i, arrV_store]
  congr 2
  funext q
  by_cases hq : q = i.toNatClampNeg
  · subst hq; simp [updV, wI, upd, va_up]
  · simp [updV, wI, upd, va_up, hq]
theorem wsb (C : Cx p s m args c cc own nL Y G) (hW : Ws G σ H0 H locs) {k n : Nat} (hk : gK G k = kA 0 n) {i x : Int32} (hi : vp_in i n) (hdg : decode cc pc = .ok (.bastore, 1))
    (kk : ∀ (H1 : Heap) (locs1 : List Loc), Ws G (wI σ k i.toNatClampNeg (vp_nar .byte x)) H0 H1 locs1 → W p l e R s m args below meth c H1 locs1 cells slots Q (F0 m (pc + 1) ls rest)) : W p l e R s m args below meth c H locs cells slots Q (F0 m pc ls (.int x :: .int i :: .ref (gB G + k) :: rest)) := by
  have ha : va_at (gD G) vwCl (gB G + k, .inl (gC G 0, n, .inl (σ.1 k))) H := by
    have := hW.1.2.1 k (hW.ltA hk); rw [hk, clE_A (by omega)] at this; exact this
  refine W.bast C.1.1 C.1.2.1 ha ((C.2.1.2 0 _ rfl).1 n (fun j => .int (σ.1 k j))) (fun q => by cases q) (by show ¬ (i < 0 ∨ (arrV _ _ _).slots.size ≤ _); rw [arrV_size]; exact hi) rfl rfl hdg fun H1 e1 z oq => ?_
  refine kk H1 _ ⟨hW.1.upd z oq ?_ oI hW.1.2.2.2, hW.2.put z oq (Nat.le_add_right _ _)⟩
  rw [hk, clE_A (by omega)]
  show H1[_]? = some (vp_cell _ _)
  rw [e1, vp_cell_i, vp_cell_i, arrV_store]
  congr 2
  funext q
  by_cases hq : q = i.toNatClampNeg
  · subst hq
    simp [updV, wI, upd, va_up, vp_nar]
    try rfl
  · simp [updV, wI, upd, va_up, hq]
theorem wsz (C : Cx p s m args c cc own nL Y G) (hW : Ws G σ H0 H locs) {k n : Nat} (hk : gK G k = kA 3 n) {i x : Int32} (hi : vp_in i n) (hdg : decode cc pc = .ok (.bastore, 1))
    (kk : ∀ (H1 : Heap) (locs1 : List Loc), Ws G (wI σ k i.toNatClampNeg (vp_nar .boolean x)) H0 H1 locs1 → W p l e R s m args below meth c H1 locs1 cells slots Q (F0 m (pc + 1) ls rest)) : W p l e R s m args below meth c H locs cells slots Q (F0 m pc ls (.int x :: .int i :: .ref (gB G + k) :: rest)) := by
  have ha : va_at (gD G) vwCl (gB G + k, .inl (gC G 3, n, .inl (σ.1 k))) H := by
    have := hW.1.2.1 k (hW.ltA hk); rw [hk, clE_A (by omega)] at this; exact this
  refine W.zast C.1.1 C.1.2.1 ha ((C.2.1.2 3 _ rfl).1 n (fun j => .int (σ.1 k j))) (fun q => by cases q) (by show ¬ (i < 0 ∨ (arrV _ _ _).slots.size ≤ _); rw [arrV_size]; exact hi) rfl rfl hdg fun H1 e1 z oq => ?_
  refine kk H1 _ ⟨hW.1.upd z oq ?_ oI hW.1.2.2.2, hW.2.put z oq (Nat.le_add_right _ _)⟩
  rw [hk, clE_A (by omega)]
  show H1[_]? = some (vp_cell _ _)
  rw [e1, vp_cell_i, vp_cell_i, arrV_store]
  congr 2
  funext q
  by_cases hq : q = i.toNatClampNeg
  · subst hq
    simp [updV, wI, upd, va_up, vp_nar]
    try rfl
  · simp [updV, wI, upd, va_up, hq]
theorem wsl (C : Cx p s m args c cc own nL Y G) (hW : Ws G σ H0 H locs) {k n : Nat} (hk : gK G k = kA 2 n) {i : Int32} {x : Int64} (hi : vp_in i n) (hdg : decode cc pc = .ok (.lastore, 1))
    (kk : ∀ (H1 : Heap) (locs1 : List Loc), Ws G (wJ σ k i.toNatClampNeg x) H0 H1 locs1 → W p l e R s m args below meth c H1 locs1 cells slots Q (F0 m (pc + 1) ls rest)) : W p l e R s m args below meth c H locs cells slots Q (F0 m pc ls (.long x :: .int i :: .ref (gB G + k) :: rest)) := by
  have ha : va_at (gD G) vwCl (gB G + k, .inl (gC G 2, n, .inr (.inl (σ.2.1 k)))) H := by
    have := hW.1.2.1 k (hW.ltA hk); rw [hk, clE_A (by omega)] at this; exact this
  refine W.last C.1.1 C.1.2.1 ha ((C.2.1.2 2 _ rfl).1 n (fun j => .long (σ.2.1 k j))) (fun q => by cases q) (by show ¬ (i < 0 ∨ (arrV _ _ _).slots.size ≤ _); rw [arrV_size]; exact hi) rfl rfl hdg fun H1 e1 z oq => ?_
  refine kk H1 _ ⟨hW.1.upd z oq ?_ oJ hW.1.2.2.2, hW.2.put z oq (Nat.le_add_right _ _)⟩
  rw [hk, clE_A (by omega)]
  show H1[_]? = some (vp_cell _ _)
  rw [e1, vp_cell_l, vp_cell_l, arrV_store]
  congr 2
  funext q
  by_cases hq : q = i.toNatClampNeg
  · subst hq; simp [updV, wJ, vp_updL, va_up]
  · simp [updV, wJ, vp_updL, va_up, hq]
theorem waq (C : Cx p s m args c cc own nL Y G) (hW : Ws G σ H0 H locs) {k n : Nat} (hk : gK G k = kA 4 n) {i : Int32} (hi : vp_in i n) (h0 : σ.2.2.1 k i.toNatClampNeg ≠ 0) (hdg : decode cc pc = .ok (.aaload, 1))
    (kk : W p l e R s m args below meth c H locs cells slots Q (F0 m (pc + 1) ls (.ref (gB G + σ.2.2.1 k i.toNatClampNeg) :: rest))) : W p l e R s m args below meth c H locs cells slots Q (F0 m pc ls (.int i :: .ref (gB G + k) :: rest)) :=
  va_aldq C.1.1 C.1.2.1 C.2.1 (hW.1.at (hW.ltA hk) (by rw [hk, clE_A (by omega)]; rfl)) 0 4 rfl rfl hi hdg (by rw [if_neg h0]; exact kk)
end ROWS
