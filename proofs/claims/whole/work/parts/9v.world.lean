/-! THE CLAIM OUT OF ONE WALK OF THE LAW'S BODY. Your part is whole_start (and what it stands on); all else here is the same for every law, but numbers. -/
def R_law : String := "RightKeysLaw"
def lw_P (b : Addr) (xs : List Int32) (args : Array Value) (s : State) : Prop := args = #[.ref b] ∧ s.IntsAt b xs ∧ xs.length ≤ 3072 ∧ (Jvm.Cond.and given_1 narrow_1).before args s = true
def lw_Q (_ : Array Value) (s : State) (o : Outcome) (t : State) : Prop := o = .returned (some (.int 1)) ∧ Framed s o t [] 600000 7302250
def lw_Z (below : List Frame) (a : Array Value) (s : State) : State → Prop := fun t => ∃ o, t.status = .running ∧ Ended t below o ∧ lw_Q a s o t
/-- the law's own end, with 1 on the stack, nothing written that was there before, its room as the claim has it -/
theorem lw_ret {p : Program} {l : Launch} {e : Env} {s : State} {m : MethodId} {below : List Frame} {meth : Method} {c : Code} {b : Nat} (hx : p.tables.exec = Jvm.exec) (hb : c.code = code) (hr : meth.sig.returnType = ret) (hlocks : meth.locks = false) {pc : Nat} {H : Heap} {ls : Array Slot} (hdg : decode code pc = .ok (.ireturn, 1)) : W p l e room_1 s m #[Value.ref b] below meth c H [] 600000 7302250 (lw_Z below #[Value.ref b] s) (F0 m pc ls [.int 1]) := by
  intro T hT X
  obtain ⟨fs, hret, hrun, hended, hW, hframe⟩ := X.leave (v := some (.int 1)) (hlocks := hlocks) (fun h => by rw [hr] at h; cases h)
  have hmeth' : T.vm.method? m = some meth := X.method'
  refine ⟨T.setFrames fs, ?_, .returned (some (.int 1)), hrun, hended, rfl, ⟨_, rfl⟩, hW, hframe⟩
  jvm_step X.here [X.here.top, hx, hb, hdg, hmeth', hr, ret, narrow_b1]
  (try refine ⟨rfl, ?_⟩); (try refine ⟨rfl, ?_⟩)
  first | (intro acts; rw [hret _ acts rfl rfl rfl]) | rw [hret _ _ rfl rfl rfl]
  exact Steps.refl _
/-- what holds at the law's entry: the machine, the code, the tables' words (any of lw_tbl by 'hts w (by decide +kernel)'), the script of L ints xs at the cell b, what the Statement gives of the start (any of its parts by flat_of_before) -/
def lw_At (p : Program) (s : State) (m : MethodId) (meth : Method) (c : Code) (b L : Nat) (xs : Nat → Int32) : Prop :=
  p.tables.exec = Jvm.exec ∧ c.code = code ∧ meth.sig.returnType = ret ∧ c.maxLocals = 4 ∧ s.vm.findClass R_law = some m.cls ∧ (∀ w ∈ lw_tbl, w.before #[Value.ref b] s = true) ∧ va_X b L xs s s.heap ∧ b < s.heap.size ∧ meth.locks = false ∧ (Jvm.Cond.and given_1 narrow_1).before #[Value.ref b] s = true

/-! the world at the law's entry -/
theorem ltb2 {w : Cond} (i : Nat) (h : tables_1_2[i]? = some w) : w ∈ lw_tbl := List.mem_append_right _ (List.mem_append_right _ (List.mem_append_left _ (List.mem_of_getElem? h)))
theorem ltb1 {w : Cond} (i : Nat) (h : tables_1_1[i]? = some w) : w ∈ lw_tbl := List.mem_append_right _ (List.mem_append_left _ (List.mem_of_getElem? h))
theorem ltb3 {w : Cond} (i : Nat) (h : tables_1_3[i]? = some w) : w ∈ lw_tbl := List.mem_append_right _ (List.mem_append_right _ (List.mem_append_right _ (List.mem_append_left _ (List.mem_of_getElem? h))))
theorem ltb4 {w : Cond} (i : Nat) (h : tables_1_4[i]? = some w) : w ∈ lw_tbl := List.mem_append_right _ (List.mem_append_right _ (List.mem_append_right _ (List.mem_append_right _ (List.mem_append_left _ (List.mem_of_getElem? h)))))
theorem tb_tbl {w : Cond} (h : w ∈ TB) : w ∈ lw_tbl := (List.mem_filter.mp h).1
theorem nwr_0 : Cond.methodLinkNest "RightKeys" 22 ⟨"RightKeys$Text", "<init>", "()V"⟩ "RightKeys" ∈ lw_tbl := ltb1 27 rfl
theorem nwr_1 : Cond.methodLinkNest "RightKeys$Reader" 11 ⟨"RightKeys$Tokens", "<init>", "()V"⟩ "RightKeys" ∈ lw_tbl := ltb1 139 rfl
theorem nwr_2 : Cond.methodLinkNest "RightKeys" 51 ⟨"RightKeys$Watch", "<init>", "()V"⟩ "RightKeys" ∈ lw_tbl := ltb2 31 rfl
theorem nwr_3 : Cond.methodLinkNest "RightKeys$Reader" 125 ⟨"RightKeys", "bit", "(II)I"⟩ "RightKeys" ∈ lw_tbl := ltb3 32 rfl
theorem nwr_4 : Cond.methodLinkNest "RightKeys$Ring" 121 ⟨"RightKeys", "bit", "(II)I"⟩ "RightKeys" ∈ lw_tbl := ltb3 94 rfl
theorem nwr_5 : Cond.methodLinkNest "RightKeys$Watch" 52 ⟨"RightKeys", "bit", "(II)I"⟩ "RightKeys" ∈ lw_tbl := ltb4 63 rfl
theorem nw_tbl : ∀ q ∈ nwL, Cond.methodLinkNest q.1 q.2.1 q.2.2.1 q.2.2.2 ∈ lw_tbl := List.forall_mem_cons.mpr ⟨nwr_0, List.forall_mem_cons.mpr ⟨nwr_1, List.forall_mem_cons.mpr ⟨nwr_2, List.forall_mem_cons.mpr ⟨nwr_3, List.forall_mem_cons.mpr ⟨nwr_4, List.forall_mem_cons.mpr ⟨nwr_5, fun _ h => absurd h List.not_mem_nil⟩⟩⟩⟩⟩⟩
def txt (i : Nat) : Term := if i = 0 then .string "RightKeys$Tokens" 70 else .string "RightKeys$Tokens" 54
theorem gl_0 : ((flatC (Jvm.Cond.and given_1 narrow_1)).drop 13).take 160 = (List.range 160).map (fun j => (Cond.eq (.elem (.field (.string "RightKeys$Tokens" 70) "java/lang/String" "value" "[B") (.int (Int32.ofNat j))) (.int ((sxB.getD 0 []).getD j 0)))) := by decide +kernel
theorem gl_1 : ((flatC (Jvm.Cond.and given_1 narrow_1)).drop 177).take 9 = (List.range 9).map (fun j => (Cond.eq (.elem (.field (.string "RightKeys$Tokens" 54) "java/lang/String" "value" "[B") (.int (Int32.ofNat j))) (.int ((sxB.getD 1 []).getD j 0)))) := by decide +kernel
theorem gv_0 {j : Nat} (hj : j < 160) : (Cond.eq (.elem (.field (.string "RightKeys$Tokens" 70) "java/lang/String" "value" "[B") (.int (Int32.ofNat j))) (.int ((sxB.getD 0 []).getD j 0))) ∈ flatC (Jvm.Cond.and given_1 narrow_1) := List.mem_of_mem_drop (List.mem_of_mem_take (by rw [gl_0]; exact List.mem_map.mpr ⟨j, List.mem_range.mpr hj, rfl⟩))
theorem gv_1 {j : Nat} (hj : j < 9) : (Cond.eq (.elem (.field (.string "RightKeys$Tokens" 54) "java/lang/String" "value" "[B") (.int (Int32.ofNat j))) (.int ((sxB.getD 1 []).getD j 0))) ∈ flatC (Jvm.Cond.and given_1 narrow_1) := List.mem_of_mem_drop (List.mem_of_mem_take (by rw [gl_1]; exact List.mem_map.mpr ⟨j, List.mem_range.mpr hj, rfl⟩))
theorem fl_i {w : Cond} (i : Nat) (h : (flatC (Jvm.Cond.and given_1 narrow_1))[i]? = some w) : w ∈ flatC (Jvm.Cond.and given_1 narrow_1) := List.mem_of_getElem? h
theorem lt2 {i : Nat} (h : i < 2) : i = 0 ∨ i = 1 := by omega
theorem va_RAp {s : State} {args : Array Value} {ty : FieldType} (h : (Cond.arrayClass ty).before args s = true) (hp : ∀ cA, s.vm.findClass ("[" ++ ty.toString) = some cA → va_RA s cA ty) : ∃ cA, ArrOfT s cA ty ∧ va_RA s cA ty := by
  obtain ⟨cA, k, comp, h1, h2, h3⟩ := Cond.arrayClass_spec (args := args) (first := s) (o := none) (s := s) (idx := []) h
  exact ⟨cA, fun n z => ⟨fun k h => (by cases h), k, h2, comp, h3⟩, hp cA h1⟩
theorem w_start {p : Program} {s : State} {m : MethodId} {meth : Method} {c : Code} {b L : Nat} {xs : Nat → Int32} (C0 : lw_At p s m meth c b L xs) : ∃ G : Gm, gB G = s.heap.size ∧ gN G = 0 ∧ Cx p s m #[Value.ref b] c code R_law 4 (Jvm.Cond.arrayClass Jvm.ClassFile.FieldType.int) G ∧ ∀ σ, Ws G σ s.heap s.heap [] := by
  obtain ⟨hx, hb, hr, hml, hown, hts, hX, hbl, hlocks, hgv⟩ := id C0
  have htb : ∀ w ∈ TB, w.before #[Value.ref b] s = true := fun w hw => hts w (tb_tbl hw)
  have hgf : ∀ w ∈ flatC (Jvm.Cond.and given_1 narrow_1), w.before #[Value.ref b] s = true := flat_of_before _ hgv
  obtain ⟨c0, iS0, hKn0⟩ := u_known (C := RX0) (T := TX0) (N := 5) (n := 5) htb tbX0 (htb _ w_140)
  obtain ⟨c1, iS1, hKn1⟩ := u_known (C := RX1) (T := TX1) (N := 7) (n := 7) htb tbX1 (htb _ w_240)
  obtain ⟨c2, iS2, hKn2⟩ := u_known (C := RX2) (T := TX2) (N := 20) (n := 20) htb tbX2 (htb _ w_292)
  obtain ⟨c3, iS3, hKn3⟩ := u_known (C := RX3) (T := TX3) (N := 11) (n := 11) htb tbX3 (htb _ w_134)
  obtain ⟨c4, iS4, hKn4⟩ := u_known (C := RX4) (T := TX4) (N := 4) (n := 4) htb tbX4 (htb _ w_246)
  obtain ⟨c5, iS5, hKn5⟩ := u_known (C := RX5) (T := TX5) (N := 5) (n := 5) htb tbX5 (htb _ w_378)
  obtain ⟨c6, iS6, hKn6⟩ := u_known (C := RX6) (T := TX6) (N := 18) (n := 18) htb tbX6 (htb _ w_126)
  obtain ⟨c7, iS7, hKn7⟩ := u_known (C := RX7) (T := TX7) (N := 67) (n := 67) htb tbX7 (htb _ w_1007)
  obtain ⟨dC, dI, hKc⟩ : ∃ (dC : Nat → ClassId) (dI : Nat → Nat → Nat), ∀ (k : Nat) (q : vw_C), vwCl[k]? = some q → u_Kn s q.1 q.2.1 q.2.2 (dC k) (dI k) := by
    refine ⟨fun k => if k = 0 then c0 else if k = 1 then c1 else if k = 2 then c2 else if k = 3 then c3 else if k = 4 then c4 else if k = 5 then c5 else if k = 6 then c6 else c7, fun k => if k = 0 then iS0 else if k = 1 then iS1 else if k = 2 then iS2 else if k = 3 then iS3 else if k = 4 then iS4 else if k = 5 then iS5 else if k = 6 then iS6 else iS7, ?_⟩
    intro k q hq
    match k, hq with
    | 0, hq => cases hq; exact hKn0
    | 1, hq => cases hq; exact hKn1
    | 2, hq => cases hq; exact hKn2
    | 3, hq => cases hq; exact hKn3
    | 4, hq => cases hq; exact hKn4
    | 5, hq => cases hq; exact hKn5
    | 6, hq => cases hq; exact hKn6
    | 7, hq => cases hq; exact hKn7
    | k + 8, hq => simp [vwCl] at hq
  obtain ⟨a0, A0⟩ := va_RAp (htb _ w_176) (fun cA h => h)
  obtain ⟨a1, A1⟩ := va_RAp (htb _ w_178) (fun cA h => h)
  obtain ⟨a2, A2⟩ := va_RAp (htb _ w_177) (fun cA h => h)
  obtain ⟨a3, A3⟩ := va_RAp (htb _ w_1232) (fun cA h => h)
  have hao : (Cond.arrayOver (.object "RightKeys$Ring")).before #[Value.ref b] s = true := hts _ (ltb2 56 rfl)
  obtain ⟨comp, a4, k4, f1, f2, f3, f4, f5⟩ := Cond.arrayOver_spec (args := #[Value.ref b]) (first := s) (o := none) (s := s) (idx := []) hao
  have A4 : ArrOfT s a4 (.object "RightKeys$Ring") ∧ va_RA s a4 (.object "RightKeys$Ring") := ⟨fun n z => ⟨fun k h => (by cases h), k4, f3, comp, f4⟩, k4, comp, f3, f4, f1, f5⟩
  have hAA : ∀ a : Nat, a < s.heap.size → ¬ (fun q : Nat => s.heap.size ≤ q) a := fun a ha => Nat.not_le.mpr ha
  obtain ⟨adK, adV, hS, hev⟩ := vk_Sof (args := #[Value.ref b]) (s := s) (N := 2) (tm := txt) (len := sxL) (byt := sxB) (A := fun q : Nat => s.heap.size ≤ q)
    (fun i hi => by rcases lt2 hi with rfl | rfl <;> decide)
    (fun i hi => by
      rcases lt2 hi with rfl | rfl
      · exact hgf _ (fl_i 9 (by decide +kernel))
      · exact hgf _ (fl_i 173 (by decide +kernel)))
    (fun i hi => by
      rcases lt2 hi with rfl | rfl
      · exact hgf _ (fl_i 10 (by decide +kernel))
      · exact hgf _ (fl_i 174 (by decide +kernel)))
    (fun i hi => by
      rcases lt2 hi with rfl | rfl
      · exact hgf _ (fl_i 11 (by decide +kernel))
      · exact hgf _ (fl_i 175 (by decide +kernel)))
    (fun i hi => by
      rcases lt2 hi with rfl | rfl
      · exact hgf _ (fl_i 12 (by decide +kernel))
      · exact hgf _ (fl_i 176 (by decide +kernel)))
    (fun i hi j hj => by
      rcases lt2 hi with rfl | rfl
      · exact hgf _ (gv_0 hj)
      · exact hgf _ (gv_1 hj))
    (fun i j hi hj hij => by
      rcases lt2 hi with rfl | rfl <;> rcases lt2 hj with rfl | rfl
      · exact absurd rfl hij
      · exact Or.inl (hgf _ (fl_i 186 (by decide +kernel)))
      · exact Or.inr (hgf _ (fl_i 186 (by decide +kernel)))
      · exact absurd rfl hij) hAA
  have hR0 : vk_R "RightKeys$Tokens" 70 tx0 (adK 0) s := vk_R.of (A := #[Value.ref b]) (hts _ (ltb2 157 rfl)) (hev 0 (by omega))
  have hR1 : vk_R "RightKeys$Tokens" 54 tx1 (adK 1) s := vk_R.of (A := #[Value.ref b]) (hts _ (ltb2 198 rfl)) (hev 1 (by omega))
  have hZ : va_Z "java/lang/String" "COMPACT_STRINGS" "Z" (.int 1) (fun q : Nat => s.heap.size ≤ q) s s.heap := va_Zof (hts _ (ltb2 167 rfl)) (hts _ (ltb1 9 rfl)) (va_eqt (hgf _ (fl_i 4 (by decide +kernel)))) hAA
  have hZq : va_Zq "jdk/internal/util/Preconditions" "SIOOBE_FORMATTER" "Ljava/util/function/BiFunction;" (fun q : Nat => s.heap.size ≤ q) s s.heap := va_Zqof (hts _ (ltb2 175 rfl)) (hts _ (ltb1 11 rfl)) (hgf _ (fl_i 5 (by decide +kernel))) hAA
  refine ⟨((dC, dI), (fun k => if k = 0 then a0 else if k = 1 then a1 else if k = 2 then a2 else if k = 3 then a3 else a4), s.heap.size, 0, (fun _ => 0), s.heap, (fun i => if i < 2 then adK i else adV (i - 2))), rfl, rfl, ⟨⟨hx, hb, hml, hown, fun w hw => ?_⟩, ⟨hKc, fun k q hq => ?_⟩, fun q hq => ?_, ⟨hR0, hR1⟩, ?_, hZ, hZq, va_AO.of hao⟩, fun σ => ⟨⟨rfl, fun k hk => absurd hk (Nat.not_lt_zero _), fun q hq => rfl, ?_⟩, va_S.rf⟩⟩
  · rcases List.mem_cons.mp hw with h | h
    · rw [h]; exact htb _ w_178
    · exact htb w h
  · match k, hq with
    | 0, hq => cases hq; exact A0
    | 1, hq => cases hq; exact A1
    | 2, hq => cases hq; exact A2
    | 3, hq => cases hq; exact A3
    | 4, hq => cases hq; exact A4
    | k + 5, hq => simp [tysG] at hq
  · exact va_Nw.of rfl (hts _ (nw_tbl q hq))
  · refine ⟨fun i hi => ?_, fun i j hi hj => ?_⟩
    · have := hS.1 i hi
      rcases lt2 hi with rfl | rfl <;> exact this
    · have := hS.2 i j hi hj
      rcases lt2 hi with rfl | rfl <;> rcases lt2 hj with rfl | rfl <;> exact this
  · exact ⟨fun k hk => absurd rfl hk, fun k n hk => (by have hk : (0 : Nat) = kA 4 n := hk; unfold kA at hk; omega), fun k hk => absurd (show (0 : Nat) = 1 from hk) (by decide), fun k hk => absurd (show (0 : Nat) = 2 from hk) (by decide), fun k hk => absurd (show (0 : Nat) = 3 from hk) (by decide), fun k hk => absurd (show (0 : Nat) = 4 from hk) (by decide), fun k hk => absurd (show (0 : Nat) = 5 from hk) (by decide), fun k hk => absurd (show (0 : Nat) = 6 from hk) (by decide), fun k hk => absurd (show (0 : Nat) = 7 from hk) (by decide), fun k hk => absurd (show (0 : Nat) = 8 from hk) (by decide)⟩
