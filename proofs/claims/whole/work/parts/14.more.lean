theorem up2 (T : Nat → Nat → Nat) (k j t x y : Nat) : va_up T k (va_up (T k) j t) x y = if x = k ∧ y = j then t else T x y := by
  unfold va_up
  by_cases hx : x = k
  · subst hx
    by_cases hy : y = j
    · simp [hy]
    · simp [hy]
  · simp [hx]
theorem sh_T {kd : Nat → Nat} {N : Nat} {T : Nat → Nat → Nat} (h : Sh kd N T) {k j t : Nat} (hk : kd k < 16) (ht : kd t = 4) : Sh kd N (va_up T k (va_up (T k) j t)) := by
  obtain ⟨h0, hR, s0, s1, s2, s3, s4, s5, s6, s7⟩ := h
  have hT : ∀ x y, kd (T x y) = 4 → kd (va_up T k (va_up (T k) j t) x y) = 4 := fun x y q => by
    rw [up2]; split
    · exact ht
    · exact q
  refine ⟨h0, fun x n hx y hy => ?_, s0, fun x hx => ?_, fun x hx => ?_, s3, s4, s5, fun x hx => ?_, s7⟩
  · have hne : x ≠ k := fun q => by rw [q] at hx; rw [hx] at hk; unfold kA at hk; omega
    rw [up2, if_neg (fun q => hne q.1)] at hy ⊢
    exact hR x n hx y hy
  · have := s1 x hx; exact ⟨this.1, hT _ _ this.2⟩
  · have := s2 x hx; exact ⟨hT _ _ this.1, this.2⟩
  · obtain ⟨a, b, c, d⟩ := s6 x hx; exact ⟨a, hT _ _ b, hT _ _ c, d⟩
theorem sw_n {x k : Int32} (n : Int) (hk : k.toInt = n) (h : ¬ x = k) : x.toInt ≠ n := fun q => h (Int32.toInt_inj.mp (q.trans hk.symm))
section MORE
variable {p : Program} {l : Launch} {e : Env} {R : Room} {s : State} {m : MethodId} {args : Array Value} {below : List Frame} {meth : Method} {c : Code} {H H0 : Heap} {locs : List Loc} {cells slots : Nat} {Q : State → Prop} {cc : ByteArray} {own : String} {nL : Nat} {Y : Cond} {G : Gm} {σ : Sg} {pc : Nat} {ls : Array Slot} {rest : List Value}
theorem sw_c {x : Int32} (k : Int32) (kt : x = k → W p l e R s m args below meth c H locs cells slots Q (F0 m pc ls (.int x :: rest))) (kf : ¬ x = k → W p l e R s m args below meth c H locs cells slots Q (F0 m pc ls (.int x :: rest))) : W p l e R s m args below meth c H locs cells slots Q (F0 m pc ls (.int x :: rest)) := by
  by_cases h : x = k
  · exact kt h
  · exact kf h
theorem pf1_2 (C : Cx p s m args c cc own nL Y G) (hW : Ws G σ H0 H locs) {k t idx : Nat} (hk : gK G k = 2) (ht : gK G t = 4) (hl : Cond.fieldLink own idx "RightKeys$Reader" "text" "LRightKeys$Text;" ∈ TB) (hdg : decode cc pc = .ok (.putfield idx, 3)) (kk : ∀ (H1 : Heap) (locs1 : List Loc), Ws G (wT σ k 2 t) H0 H1 locs1 → W p l e R s m args below meth c H1 locs1 cells slots Q (F0 m (pc + 3) ls rest)) : W p l e R s m args below meth c H locs cells slots Q (F0 m pc ls (.ref (gB G + t) :: .ref (gB G + k) :: rest)) := wpf C hW tbX1 tyX1 tyX1_ok nmX1 (ci := 1) rfl (hW.lt hk) (by rw [hk]; rfl) 2 (by decide) hl rfl (ty := .object "RightKeys$Text") (v := .ref (gB G + t)) (by decide +kernel) rfl rfl (Nat.le_of_ble_eq_true rfl) (wT σ k 2 t) (by rw [hk]; simp [clE, obE, wT, va_up]) oT (sh_T hW.1.2.2.2 (by rw [hk]; omega) ht) hdg kk
theorem pf2_0 (C : Cx p s m args c cc own nL Y G) (hW : Ws G σ H0 H locs) {k t idx : Nat} (hk : gK G k = 3) (ht : gK G t = 4) (hl : Cond.fieldLink own idx "RightKeys$Ring" "text" "LRightKeys$Text;" ∈ TB) (hdg : decode cc pc = .ok (.putfield idx, 3)) (kk : ∀ (H1 : Heap) (locs1 : List Loc), Ws G (wT σ k 0 t) H0 H1 locs1 → W p l e R s m args below meth c H1 locs1 cells slots Q (F0 m (pc + 3) ls rest)) : W p l e R s m args below meth c H locs cells slots Q (F0 m pc ls (.ref (gB G + t) :: .ref (gB G + k) :: rest)) := wpf C hW tbX2 tyX2 tyX2_ok nmX2 (ci := 2) rfl (hW.lt hk) (by rw [hk]; rfl) 0 (by decide) hl rfl (ty := .object "RightKeys$Text") (v := .ref (gB G + t)) (by decide +kernel) rfl rfl (Nat.le_of_ble_eq_true rfl) (wT σ k 0 t) (by rw [hk]; simp [clE, obE, wT, va_up]) oT (sh_T hW.1.2.2.2 (by rw [hk]; omega) ht) hdg kk
theorem pf6_3 (C : Cx p s m args c cc own nL Y G) (hW : Ws G σ H0 H locs) {k t idx : Nat} (hk : gK G k = 7) (ht : gK G t = 4) (hl : Cond.fieldLink own idx "RightKeys" "text" "LRightKeys$Text;" ∈ TB) (hdg : decode cc pc = .ok (.putfield idx, 3)) (kk : ∀ (H1 : Heap) (locs1 : List Loc), Ws G (wT σ k 3 t) H0 H1 locs1 → W p l e R s m args below meth c H1 locs1 cells slots Q (F0 m (pc + 3) ls rest)) : W p l e R s m args below meth c H locs cells slots Q (F0 m pc ls (.ref (gB G + t) :: .ref (gB G + k) :: rest)) := wpf C hW tbX6 tyX6 tyX6_ok nmX6 (ci := 6) rfl (hW.lt hk) (by rw [hk]; rfl) 3 (by decide) hl rfl (ty := .object "RightKeys$Text") (v := .ref (gB G + t)) (by decide +kernel) rfl rfl (Nat.le_of_ble_eq_true rfl) (wT σ k 3 t) (by rw [hk]; simp [clE, obE, wT, va_up]) oT (sh_T hW.1.2.2.2 (by rw [hk]; omega) ht) hdg kk
theorem pf6_4 (C : Cx p s m args c cc own nL Y G) (hW : Ws G σ H0 H locs) {k t idx : Nat} (hk : gK G k = 7) (ht : gK G t = 4) (hl : Cond.fieldLink own idx "RightKeys" "draft" "LRightKeys$Text;" ∈ TB) (hdg : decode cc pc = .ok (.putfield idx, 3)) (kk : ∀ (H1 : Heap) (locs1 : List Loc), Ws G (wT σ k 4 t) H0 H1 locs1 → W p l e R s m args below meth c H1 locs1 cells slots Q (F0 m (pc + 3) ls rest)) : W p l e R s m args below meth c H locs cells slots Q (F0 m pc ls (.ref (gB G + t) :: .ref (gB G + k) :: rest)) := wpf C hW tbX6 tyX6 tyX6_ok nmX6 (ci := 6) rfl (hW.lt hk) (by rw [hk]; rfl) 4 (by decide) hl rfl (ty := .object "RightKeys$Text") (v := .ref (gB G + t)) (by decide +kernel) rfl rfl (Nat.le_of_ble_eq_true rfl) (wT σ k 4 t) (by rw [hk]; simp [clE, obE, wT, va_up]) oT (sh_T hW.1.2.2.2 (by rw [hk]; omega) ht) hdg kk
end MORE
