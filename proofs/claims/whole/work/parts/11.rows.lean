section ZZRows
variable {p : Program} {l : Launch} {e : Env} {R : Room} {s : State} {m : MethodId} {args : Array Value} {below : List Frame} {meth : Method} {c : Code} {H : Heap} {locs : List Loc} {cells slots : Nat} {Q : State → Prop} {cc : ByteArray} {pc : Nat} {ls : Array Slot} {rest : List Value} {D : va_G} {cl : List vw_C} {tys : List (ClassId × FieldType)} {ws : va_W} {A : Nat → Prop} {H0 : Heap}
theorem zI_inc {a n v : Int} (h : a + n = v) : zI a + Int32.ofInt n = zI v := by rw [← h]; exact zI_add a n
theorem zz_iadd (hx : p.tables.exec = Jvm.exec) (hb : c.code = cc) {a b : Int} (v : Int) (hv : a + b = v) (hd : decode cc pc = .ok (.iadd, 1)) (k : W p l e R s m args below meth c H locs cells slots Q (F0 m (pc + 1) ls (.int (zI v) :: rest))) : W p l e R s m args below meth c H locs cells slots Q (F0 m pc ls (.int (zI b) :: .int (zI a) :: rest)) :=
  lv_iadd hx hb hd (by rw [zI_add, hv]; exact k)
theorem zz_isub (hx : p.tables.exec = Jvm.exec) (hb : c.code = cc) {a b : Int} (v : Int) (hv : a - b = v) (hd : decode cc pc = .ok (.isub, 1)) (k : W p l e R s m args below meth c H locs cells slots Q (F0 m (pc + 1) ls (.int (zI v) :: rest))) : W p l e R s m args below meth c H locs cells slots Q (F0 m pc ls (.int (zI b) :: .int (zI a) :: rest)) :=
  lv_isub hx hb hd (by rw [zI_sub, hv]; exact k)
theorem zz_imul (hx : p.tables.exec = Jvm.exec) (hb : c.code = cc) {a b : Int} (v : Int) (hv : a * b = v) (hd : decode cc pc = .ok (.imul, 1)) (k : W p l e R s m args below meth c H locs cells slots Q (F0 m (pc + 1) ls (.int (zI v) :: rest))) : W p l e R s m args below meth c H locs cells slots Q (F0 m pc ls (.int (zI b) :: .int (zI a) :: rest)) :=
  lv_imul hx hb hd (by rw [zI_mul, hv]; exact k)
theorem zz_icmp_lt (hx : p.tables.exec = Jvm.exec) (hb : c.code = cc) {a b off : Int} {tgt : Nat} (hd : decode cc pc = .ok (.if_icmp .lt off, 3)) (ht : (pc : Int) + off = (tgt : Int)) (ha : -2147483648 ≤ a ∧ a < 2147483648) (hb9 : -2147483648 ≤ b ∧ b < 2147483648) (kt : a < b → W p l e R s m args below meth c H locs cells slots Q (F0 m tgt ls rest)) (kf : ¬ a < b → W p l e R s m args below meth c H locs cells slots Q (F0 m (pc + 3) ls rest)) : W p l e R s m args below meth c H locs cells slots Q (F0 m pc ls (.int (zI b) :: .int (zI a) :: rest)) :=
  lv_icmp_lt hx hb hd ht (fun h => kt ((zI_lt ha hb9).mp h)) (fun h => kf (fun q => h ((zI_lt ha hb9).mpr q)))
theorem zz_icmp_ge (hx : p.tables.exec = Jvm.exec) (hb : c.code = cc) {a b off : Int} {tgt : Nat} (hd : decode cc pc = .ok (.if_icmp .ge off, 3)) (ht : (pc : Int) + off = (tgt : Int)) (ha : -2147483648 ≤ a ∧ a < 2147483648) (hb9 : -2147483648 ≤ b ∧ b < 2147483648) (kt : b ≤ a → W p l e R s m args below meth c H locs cells slots Q (F0 m tgt ls rest)) (kf : ¬ b ≤ a → W p l e R s m args below meth c H locs cells slots Q (F0 m (pc + 3) ls rest)) : W p l e R s m args below meth c H locs cells slots Q (F0 m pc ls (.int (zI b) :: .int (zI a) :: rest)) :=
  lv_icmp_ge hx hb hd ht (fun h => kt ((zI_le hb9 ha).mp h)) (fun h => kf (fun q => h ((zI_le hb9 ha).mpr q)))
theorem zz_icmp_gt (hx : p.tables.exec = Jvm.exec) (hb : c.code = cc) {a b off : Int} {tgt : Nat} (hd : decode cc pc = .ok (.if_icmp .gt off, 3)) (ht : (pc : Int) + off = (tgt : Int)) (ha : -2147483648 ≤ a ∧ a < 2147483648) (hb9 : -2147483648 ≤ b ∧ b < 2147483648) (kt : b < a → W p l e R s m args below meth c H locs cells slots Q (F0 m tgt ls rest)) (kf : ¬ b < a → W p l e R s m args below meth c H locs cells slots Q (F0 m (pc + 3) ls rest)) : W p l e R s m args below meth c H locs cells slots Q (F0 m pc ls (.int (zI b) :: .int (zI a) :: rest)) :=
  lv_icmp_gt hx hb hd ht (fun h => kt ((zI_lt hb9 ha).mp h)) (fun h => kf (fun q => h ((zI_lt hb9 ha).mpr q)))
theorem zz_icmp_le (hx : p.tables.exec = Jvm.exec) (hb : c.code = cc) {a b off : Int} {tgt : Nat} (hd : decode cc pc = .ok (.if_icmp .le off, 3)) (ht : (pc : Int) + off = (tgt : Int)) (ha : -2147483648 ≤ a ∧ a < 2147483648) (hb9 : -2147483648 ≤ b ∧ b < 2147483648) (kt : a ≤ b → W p l e R s m args below meth c H locs cells slots Q (F0 m tgt ls rest)) (kf : ¬ a ≤ b → W p l e R s m args below meth c H locs cells slots Q (F0 m (pc + 3) ls rest)) : W p l e R s m args below meth c H locs cells slots Q (F0 m pc ls (.int (zI b) :: .int (zI a) :: rest)) :=
  lv_icmp_le hx hb hd ht (fun h => kt ((zI_le ha hb9).mp h)) (fun h => kf (fun q => h ((zI_le ha hb9).mpr q)))
theorem zz_icmp_eq (hx : p.tables.exec = Jvm.exec) (hb : c.code = cc) {a b off : Int} {tgt : Nat} (hd : decode cc pc = .ok (.if_icmp .eq off, 3)) (ht : (pc : Int) + off = (tgt : Int)) (ha : -2147483648 ≤ a ∧ a < 2147483648) (hb9 : -2147483648 ≤ b ∧ b < 2147483648) (kt : a = b → W p l e R s m args below meth c H locs cells slots Q (F0 m tgt ls rest)) (kf : ¬ a = b → W p l e R s m args below meth c H locs cells slots Q (F0 m (pc + 3) ls rest)) : W p l e R s m args below meth c H locs cells slots Q (F0 m pc ls (.int (zI b) :: .int (zI a) :: rest)) :=
  lv_icmp_eq hx hb hd ht (fun h => kt ((zI_eq ha hb9).mp h)) (fun h => kf (fun q => h ((zI_eq ha hb9).mpr q)))
theorem zz_icmp_ne (hx : p.tables.exec = Jvm.exec) (hb : c.code = cc) {a b off : Int} {tgt : Nat} (hd : decode cc pc = .ok (.if_icmp .ne off, 3)) (ht : (pc : Int) + off = (tgt : Int)) (ha : -2147483648 ≤ a ∧ a < 2147483648) (hb9 : -2147483648 ≤ b ∧ b < 2147483648) (kt : ¬ a = b → W p l e R s m args below meth c H locs cells slots Q (F0 m tgt ls rest)) (kf : a = b → W p l e R s m args below meth c H locs cells slots Q (F0 m (pc + 3) ls rest)) : W p l e R s m args below meth c H locs cells slots Q (F0 m pc ls (.int (zI b) :: .int (zI a) :: rest)) :=
  lv_icmp_ne hx hb hd ht (fun h => kt (fun q => h ((zI_eq ha hb9).mpr q))) (fun h => kf ((zI_eq ha hb9).mp h))
theorem zz_if_lt (hx : p.tables.exec = Jvm.exec) (hb : c.code = cc) {a off : Int} {tgt : Nat} (hd : decode cc pc = .ok (.ifCond .lt off, 3)) (ht : (pc : Int) + off = (tgt : Int)) (ha : -2147483648 ≤ a ∧ a < 2147483648) (kt : a < 0 → W p l e R s m args below meth c H locs cells slots Q (F0 m tgt ls rest)) (kf : ¬ a < 0 → W p l e R s m args below meth c H locs cells slots Q (F0 m (pc + 3) ls rest)) : W p l e R s m args below meth c H locs cells slots Q (F0 m pc ls (.int (zI a) :: rest)) :=
  lv_if_lt hx hb hd ht (fun h => kt ((zI_lt0 ha).mp h)) (fun h => kf (fun q => h ((zI_lt0 ha).mpr q)))
theorem zz_if_ge (hx : p.tables.exec = Jvm.exec) (hb : c.code = cc) {a off : Int} {tgt : Nat} (hd : decode cc pc = .ok (.ifCond .ge off, 3)) (ht : (pc : Int) + off = (tgt : Int)) (ha : -2147483648 ≤ a ∧ a < 2147483648) (kt : 0 ≤ a → W p l e R s m args below meth c H locs cells slots Q (F0 m tgt ls rest)) (kf : ¬ 0 ≤ a → W p l e R s m args below meth c H locs cells slots Q (F0 m (pc + 3) ls rest)) : W p l e R s m args below meth c H locs cells slots Q (F0 m pc ls (.int (zI a) :: rest)) :=
  lv_if_ge hx hb hd ht (fun h => kt ((zI_0le ha).mp h)) (fun h => kf (fun q => h ((zI_0le ha).mpr q)))
theorem zz_if_gt (hx : p.tables.exec = Jvm.exec) (hb : c.code = cc) {a off : Int} {tgt : Nat} (hd : decode cc pc = .ok (.ifCond .gt off, 3)) (ht : (pc : Int) + off = (tgt : Int)) (ha : -2147483648 ≤ a ∧ a < 2147483648) (kt : 0 < a → W p l e R s m args below meth c H locs cells slots Q (F0 m tgt ls rest)) (kf : ¬ 0 < a → W p l e R s m args below meth c H locs cells slots Q (F0 m (pc + 3) ls rest)) : W p l e R s m args below meth c H locs cells slots Q (F0 m pc ls (.int (zI a) :: rest)) :=
  lv_if_gt hx hb hd ht (fun h => kt ((zI_0lt ha).mp h)) (fun h => kf (fun q => h ((zI_0lt ha).mpr q)))
theorem zz_if_le (hx : p.tables.exec = Jvm.exec) (hb : c.code = cc) {a off : Int} {tgt : Nat} (hd : decode cc pc = .ok (.ifCond .le off, 3)) (ht : (pc : Int) + off = (tgt : Int)) (ha : -2147483648 ≤ a ∧ a < 2147483648) (kt : a ≤ 0 → W p l e R s m args below meth c H locs cells slots Q (F0 m tgt ls rest)) (kf : ¬ a ≤ 0 → W p l e R s m args below meth c H locs cells slots Q (F0 m (pc + 3) ls rest)) : W p l e R s m args below meth c H locs cells slots Q (F0 m pc ls (.int (zI a) :: rest)) :=
  lv_if_le hx hb hd ht (fun h => kt ((zI_le0 ha).mp h)) (fun h => kf (fun q => h ((zI_le0 ha).mpr q)))
theorem zz_if_eq (hx : p.tables.exec = Jvm.exec) (hb : c.code = cc) {a off : Int} {tgt : Nat} (hd : decode cc pc = .ok (.ifCond .eq off, 3)) (ht : (pc : Int) + off = (tgt : Int)) (ha : -2147483648 ≤ a ∧ a < 2147483648) (kt : a = 0 → W p l e R s m args below meth c H locs cells slots Q (F0 m tgt ls rest)) (kf : ¬ a = 0 → W p l e R s m args below meth c H locs cells slots Q (F0 m (pc + 3) ls rest)) : W p l e R s m args below meth c H locs cells slots Q (F0 m pc ls (.int (zI a) :: rest)) :=
  lv_if_eq hx hb hd ht (fun h => kt ((zI_eq0 ha).mp h)) (fun h => kf (fun q => h ((zI_eq0 ha).mpr q)))
theorem zz_if_ne (hx : p.tables.exec = Jvm.exec) (hb : c.code = cc) {a off : Int} {tgt : Nat} (hd : decode cc pc = .ok (.ifCond .ne off, 3)) (ht : (pc : Int) + off = (tgt : Int)) (ha : -2147483648 ≤ a ∧ a < 2147483648) (kt : ¬ a = 0 → W p l e R s m args below meth c H locs cells slots Q (F0 m tgt ls rest)) (kf : a = 0 → W p l e R s m args below meth c H locs cells slots Q (F0 m (pc + 3) ls rest)) : W p l e R s m args below meth c H locs cells slots Q (F0 m pc ls (.int (zI a) :: rest)) :=
  lv_if_ne hx hb hd ht (fun h => kt (fun q => h ((zI_eq0 ha).mpr q))) (fun h => kf ((zI_eq0 ha).mp h))
theorem zz_ifeqB (hx : p.tables.exec = Jvm.exec) (hb : c.code = cc) {b : Bool} {off : Int} {tgt : Nat} (hd : decode cc pc = .ok (.ifCond .eq off, 3)) (ht : (pc : Int) + off = (tgt : Int)) (kt : b = false → W p l e R s m args below meth c H locs cells slots Q (F0 m tgt ls rest)) (kf : b = true → W p l e R s m args below meth c H locs cells slots Q (F0 m (pc + 3) ls rest)) : W p l e R s m args below meth c H locs cells slots Q (F0 m pc ls (.int (zI (bI b)) :: rest)) :=
  lv_if_eq hx hb hd ht (fun h => kt (bI_0.mp h)) (fun h => kf (by cases b with | true => rfl | false => exact absurd (bI_0.mpr rfl) h))
theorem zz_ifneB (hx : p.tables.exec = Jvm.exec) (hb : c.code = cc) {b : Bool} {off : Int} {tgt : Nat} (hd : decode cc pc = .ok (.ifCond .ne off, 3)) (ht : (pc : Int) + off = (tgt : Int)) (kt : b = true → W p l e R s m args below meth c H locs cells slots Q (F0 m tgt ls rest)) (kf : b = false → W p l e R s m args below meth c H locs cells slots Q (F0 m (pc + 3) ls rest)) : W p l e R s m args below meth c H locs cells slots Q (F0 m pc ls (.int (zI (bI b)) :: rest)) :=
  lv_if_ne hx hb hd ht (fun h => kt (by cases b with | true => rfl | false => exact absurd (bI_0.mpr rfl) h)) (fun h => kf (bI_0.mp h))
theorem zz_iald (hx : p.tables.exec = Jvm.exec) (hb : c.code = cc) (hK : va_K D cl tys s) (hP : va_P D cl ws H) (q0 t0 : Nat) {a : Nat} {cA : ClassId} {N : Nat} {f : Nat → Int} (ha : ws[q0]? = some (a, .inl (cA, N, .inl (zA f)))) (ht : tys[t0]? = some (cA, .int)) {i : Int} (n : Nat) (hi : i = (n : Int)) (hn : n < N) (hN : N < 2147483648) (hd : decode cc pc = .ok (.iaload, 1)) (k : W p l e R s m args below meth c H locs cells slots Q (F0 m (pc + 1) ls (.int (zI (f n)) :: rest))) : W p l e R s m args below meth c H locs cells slots Q (F0 m pc ls (.int (zI i) :: .ref a :: rest)) := by
  subst hi
  refine va_iald hx hb hK hP q0 t0 ha ht (zI_in hn hN) hd ?_
  rw [zI_cl (by omega)]
  exact k
theorem zz_zald (hx : p.tables.exec = Jvm.exec) (hb : c.code = cc) (hK : va_K D cl tys s) (hP : va_P D cl ws H) (q0 t0 : Nat) {a : Nat} {cA : ClassId} {N : Nat} {f : Nat → Bool} (ha : ws[q0]? = some (a, .inl (cA, N, .inl (zB f)))) (ht : tys[t0]? = some (cA, .boolean)) {i : Int} (n : Nat) (hi : i = (n : Int)) (hn : n < N) (hN : N < 2147483648) (hd : decode cc pc = .ok (.baload, 1)) (k : W p l e R s m args below meth c H locs cells slots Q (F0 m (pc + 1) ls (.int (zI (bI (f n))) :: rest))) : W p l e R s m args below meth c H locs cells slots Q (F0 m pc ls (.int (zI i) :: .ref a :: rest)) := by
  subst hi
  refine va_zald hx hb hK hP q0 t0 ha ht (zI_in hn hN) hd ?_
  rw [zI_cl (by omega)]
  exact k
theorem zz_aald (hx : p.tables.exec = Jvm.exec) (hb : c.code = cc) (hK : va_K D cl tys s) (hP : va_P D cl ws H) (q0 t0 : Nat) {a : Nat} {cA : ClassId} {C : String} {N : Nat} {f : Nat → Option Nat} (ha : ws[q0]? = some (a, .inl (cA, N, .inr (.inr (.inr (.inr f)))))) (ht : tys[t0]? = some (cA, .object C)) {i : Int} (n : Nat) (hi : i = (n : Int)) (hn : n < N) (hN : N < 2147483648) {r : Nat} (hr : f n = some r) (hd : decode cc pc = .ok (.aaload, 1)) (k : W p l e R s m args below meth c H locs cells slots Q (F0 m (pc + 1) ls (.ref r :: rest))) : W p l e R s m args below meth c H locs cells slots Q (F0 m pc ls (.int (zI i) :: .ref a :: rest)) := by
  subst hi
  refine va_aldq hx hb hK hP q0 t0 ha ht (zI_in hn hN) hd ?_
  rw [zI_cl (by omega), hr]
  exact k
theorem zz_iast (hx : p.tables.exec = Jvm.exec) (hb : c.code = cc) (hK : va_K D cl tys s) (hP : va_P D cl ws H) (hD : va_D A ws) (hS : va_S A H0 H locs) (q0 t0 : Nat) {a : Nat} {cA : ClassId} {N : Nat} {f : Nat → Int} (ha : ws[q0]? = some (a, .inl (cA, N, .inl (zA f)))) (ht : tys[t0]? = some (cA, .int)) {i x : Int} (n : Nat) (hi : i = (n : Int)) (hn : n < N) (hN : N < 2147483648) (hd : decode cc pc = .ok (.iastore, 1)) (kk : ∀ (H1 : Heap) (locs1 : List Loc), va_P D cl (ws.set q0 (a, .inl (cA, N, .inl (zA (uz f n x))))) H1 → va_D A (ws.set q0 (a, .inl (cA, N, .inl (zA (uz f n x))))) → va_S A H0 H1 locs1 → W p l e R s m args below meth c H1 locs1 cells slots Q (F0 m (pc + 1) ls rest)) : W p l e R s m args below meth c H locs cells slots Q (F0 m pc ls (.int (zI x) :: .int (zI i) :: .ref a :: rest)) := by
  subst hi
  refine va_iast hx hb hK hP hD hS q0 t0 ha ht (zI_in hn hN) hd ?_
  rw [zI_cl (by omega), zA_upd]
  exact kk
theorem zz_zast (hx : p.tables.exec = Jvm.exec) (hb : c.code = cc) (hK : va_K D cl tys s) (hP : va_P D cl ws H) (hD : va_D A ws) (hS : va_S A H0 H locs) (q0 t0 : Nat) {a : Nat} {cA : ClassId} {N : Nat} {f : Nat → Bool} (ha : ws[q0]? = some (a, .inl (cA, N, .inl (zB f)))) (ht : tys[t0]? = some (cA, .boolean)) {i : Int} {x : Bool} (n : Nat) (hi : i = (n : Int)) (hn : n < N) (hN : N < 2147483648) (hd : decode cc pc = .ok (.bastore, 1)) (kk : ∀ (H1 : Heap) (locs1 : List Loc), va_P D cl (ws.set q0 (a, .inl (cA, N, .inl (zB (ub f n x))))) H1 → va_D A (ws.set q0 (a, .inl (cA, N, .inl (zB (ub f n x))))) → va_S A H0 H1 locs1 → W p l e R s m args below meth c H1 locs1 cells slots Q (F0 m (pc + 1) ls rest)) : W p l e R s m args below meth c H locs cells slots Q (F0 m pc ls (.int (zI (bI x)) :: .int (zI i) :: .ref a :: rest)) := by
  subst hi
  refine va_zast hx hb hK hP hD hS q0 t0 ha ht (zI_in hn hN) hd ?_
  rw [zI_cl (by omega), zB_upd]
  exact kk
theorem fz_keep {wf : va_W} {locs1 : List Loc} {H1 : Heap} (h : va_P D cl wf H0) (hA : ∀ (k : Nat) (q : Nat × va_E), wf[k]? = some q → ¬ A q.1) (hS : va_S A H0 H1 locs1) : va_P D cl wf H1 :=
  h.kept (fun k q hk => hS.2.1 q.1 (h k q hk).lt (hA k q hk))
theorem pw_nil : va_P D cl [] H := fun k q h => by simp at h
theorem pw_c {wr : va_W} {q : Nat × va_E} (hP : va_P D cl ws H) (k : Nat) (hk : ws[k]? = some q) (hR : va_P D cl wr H) : va_P D cl (q :: wr) H := by
  intro j x hj
  cases j with
  | zero => rw [List.getElem?_cons_zero] at hj; cases hj; exact hP k q hk
  | succ j => rw [List.getElem?_cons_succ] at hj; exact hR j x hj
/-- two worlds have no cell in common -/
def apw (wc wf : va_W) : Prop := ∀ (k : Nat) (q : Nat × va_E), wf[k]? = some q → ∀ (j : Nat) (x : va_E), wc[j]? = some (q.1, x) → False
theorem apw_nil {wc : va_W} : apw wc [] := fun k q h => by simp at h
theorem apw_c {wc wf : va_W} {q : Nat × va_E} (h1 : ∀ (j : Nat) (x : va_E), wc[j]? = some (q.1, x) → False) (h2 : apw wc wf) : apw wc (q :: wf) := by
  intro k z hk
  cases k with
  | zero => rw [List.getElem?_cons_zero] at hk; cases hk; exact h1
  | succ k => rw [List.getElem?_cons_succ] at hk; exact h2 k z hk
theorem apw_m {wc : va_W} {q : Nat × va_E} (hD : va_D A ws) (isC : List Nat) (hC : isC.map (fun i => ws[i]?) = wc.map some) (k : Nat) (hk : ws[k]? = some q) (hn : k ∉ isC) : ∀ (j : Nat) (x : va_E), wc[j]? = some (q.1, x) → False := by
  intro j x hj
  obtain ⟨i, hi, hw⟩ := va_in_of isC hC hj
  have := hD.1 i k _ _ hw hk rfl
  subst this
  exact hn (List.mem_of_getElem? hi)
theorem apw_f {wc : va_W} {q : Nat × va_E} (hD : va_D A ws) (isC : List Nat) (hC : isC.map (fun i => ws[i]?) = wc.map some) (hq : ¬ A q.1) : ∀ (j : Nat) (x : va_E), wc[j]? = some (q.1, x) → False := by
  intro j x hj
  obtain ⟨i, hi, hw⟩ := va_in_of isC hC hj
  exact hq (hD.2 i (q.1, x) hw)
theorem apw_A {wc wf : va_W} {sz : Nat} (h : apw wc wf) (hz : ∀ (k : Nat) (q : Nat × va_E), wf[k]? = some q → q.1 < sz) : ∀ (k : Nat) (q : Nat × va_E), wf[k]? = some q → ¬ va_A wc sz q.1 := by
  intro k q hk hA
  rcases hA with ⟨j, x, hj⟩ | hA
  · exact h k q hk j x hj
  · have := hz k q hk; omega
end ZZRows
