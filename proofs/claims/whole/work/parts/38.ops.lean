section ZZOps
variable {p : Program} {l : Launch} {e : Env} {R : Room} {s : State} {m : MethodId} {args : Array Value} {below : List Frame} {meth : Method} {c : Code} {H : Heap} {locs : List Loc} {cells slots : Nat} {Q : State → Prop} {cc : ByteArray} {pc : Nat} {ls : Array Slot} {rest : List Value}
theorem zz_irem (hx : p.tables.exec = Jvm.exec) (hb : c.code = cc) {a b : Nat} (ha : a < 2147483648) (h0 : 0 < b) (hb9 : b < 2147483648) (hd : decode cc pc = .ok (.irem, 1)) (k : W p l e R s m args below meth c H locs cells slots Q (F0 m (pc + 1) ls (.int (zI ((a % b : Nat) : Int)) :: rest))) : W p l e R s m args below meth c H locs cells slots Q (F0 m pc ls (.int (zI (b : Int)) :: .int (zI (a : Int)) :: rest)) := by
  refine lv_irem hx hb hd (by rw [zI_nat]; exact nI_ne0 h0 (by omega)) ?_
  rw [zI_nat, zI_nat, pk_rem (by omega) h0 (by omega), ← zI_nat]
  exact k
theorem zz_idiv (hx : p.tables.exec = Jvm.exec) (hb : c.code = cc) {a b : Nat} (ha : a < 2147483648) (h0 : 0 < b) (hb9 : b < 2147483648) (hd : decode cc pc = .ok (.idiv, 1)) (k : W p l e R s m args below meth c H locs cells slots Q (F0 m (pc + 1) ls (.int (zI ((a / b : Nat) : Int)) :: rest))) : W p l e R s m args below meth c H locs cells slots Q (F0 m pc ls (.int (zI (b : Int)) :: .int (zI (a : Int)) :: rest)) := by
  refine lv_idiv hx hb hd (by rw [zI_nat]; exact nI_ne0 h0 (by omega)) ?_
  rw [zI_nat, zI_nat, pk_div (by omega) h0 (by omega), ← zI_nat]
  exact k
end ZZOps
/-- a bit for each r that holds -/
noncomputable def obI (P : Nat → Prop) : Nat → Int32
  | 0 => zI 0
  | r + 1 => @ite _ (P r) (Classical.propDecidable _) (obI P r ||| (zI 1 <<< (zI (r : Int) &&& 31))) (obI P r)
theorem obI_t {P : Nat → Prop} {r : Nat} (h : P r) : obI P (r + 1) = obI P r ||| (zI 1 <<< (zI (r : Int) &&& 31)) := by
  conv => lhs; unfold obI
  exact if_pos h
theorem obI_f {P : Nat → Prop} {r : Nat} (h : ¬ P r) : obI P (r + 1) = obI P r := by
  conv => lhs; unfold obI
  exact if_neg h
theorem or_z (x : Int32) : x ||| zI 0 = x := by rw [zI_0]; simp
theorem obI_cg {P P' : Nat → Prop} : ∀ {n : Nat}, (∀ r, r < n → (P r ↔ P' r)) → obI P n = obI P' n := by
  intro n
  induction n with
  | zero => intro _; rfl
  | succ n ih =>
    intro h
    have i1 := ih (fun r hr => h r (by omega))
    by_cases hp : P n
    · rw [obI_t hp, obI_t ((h n (by omega)).mp hp), i1]
    · rw [obI_f hp, obI_f (fun z => hp ((h n (by omega)).mpr z)), i1]
/-- a row in the reference's scratch -/
def scr (l : List Int) (co : Nat → Int) : Prop := ∀ k, k < l.length → co (2560 + k) = rw_ l k
theorem scr_app {l : List Int} {co : Nat → Int} {c : Int} (h : scr l co) : scr (l ++ [c]) (uz co (2560 + l.length) c) := by
  intro k hk
  have hl : (l ++ [c]).length = l.length + 1 := by simp
  by_cases e1 : k = l.length
  · rw [e1, uz_s, rw_last]
  · rw [uz_n _ _ (by omega), rw_app (by omega)]
    exact h k (by omega)
