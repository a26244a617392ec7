theorem pS_ub {m : Nat → Int} {n : Nat} (hm : ∀ q, q < n → 0 ≤ m q ∧ m q ≤ 3) (k : Nat) : ∀ d : Nat, k + d ≤ n → pS m (k + d) - pS m k ≤ 2 * d ∧ -(d : Int) ≤ pS m (k + d) - pS m k := by
  intro d
  induction d with
  | zero => intro _; rw [Nat.add_zero]; omega
  | succ d ih =>
    intro h
    have h1 := ih (by omega)
    have h2 := hm (k + d) (by omega)
    rw [← Nat.add_assoc, pS_s]
    omega
theorem pS_ub2 {m : Nat → Int} {n : Nat} (hm : ∀ q, q < n → 0 ≤ m q ∧ m q ≤ 3) {k q : Nat} (h1 : k ≤ q) (h2 : q ≤ n) : pS m q - pS m k ≤ 2 * (q - k) ∧ (k : Int) - q ≤ pS m q - pS m k := by
  have := pS_ub hm k (q - k) (by omega)
  rw [show k + (q - k) = q by omega] at this
  omega
section ZZTop
variable {p : Program} {l : Launch} {e : Env} {R : Room} {s : State} {m : MethodId} {args : Array Value} {below : List Frame} {meth : Method} {c : Code} {H : Heap} {locs : List Loc} {cells slots : Nat} {Q : State → Prop} {pc : Nat} {ls : Array Slot} {rest : List Value}
theorem zz_top {a b : Int} (h : a = b) (k : W p l e R s m args below meth c H locs cells slots Q (F0 m pc ls (.int (zI b) :: rest))) : W p l e R s m args below meth c H locs cells slots Q (F0 m pc ls (.int (zI a) :: rest)) := by rw [h]; exact k
theorem zz_topB {a b : Bool} (h : a = b) (k : W p l e R s m args below meth c H locs cells slots Q (F0 m pc ls (.int (zI (bI b)) :: rest))) : W p l e R s m args below meth c H locs cells slots Q (F0 m pc ls (.int (zI (bI a)) :: rest)) := by rw [h]; exact k
theorem zz_1 (k : W p l e R s m args below meth c H locs cells slots Q (F0 m pc ls (.int (zI (bI true)) :: rest))) : W p l e R s m args below meth c H locs cells slots Q (F0 m pc ls (.int (zI 1) :: rest)) := k
theorem zz_0 (k : W p l e R s m args below meth c H locs cells slots Q (F0 m pc ls (.int (zI (bI false)) :: rest))) : W p l e R s m args below meth c H locs cells slots Q (F0 m pc ls (.int (zI 0) :: rest)) := k
end ZZTop
