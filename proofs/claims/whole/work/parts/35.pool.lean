section ZZPool
variable {D : va_G} {cl : List vw_C} {H : Heap} {A : Nat → Prop}
theorem pw_tail (a : va_W) {pl : va_W} (h : va_P D cl (a ++ pl) H) : va_P D cl pl H := by
  intro k q hk
  refine h (a.length + k) q ?_
  rw [List.getElem?_append_right (Nat.le_add_right _ _), Nat.add_sub_cancel_left]
  exact hk
theorem hA_tail (a : va_W) {pl : va_W} (h : ∀ (k : Nat) (q : Nat × va_E), (a ++ pl)[k]? = some q → ¬ A q.1) : ∀ (k : Nat) (q : Nat × va_E), pl[k]? = some q → ¬ A q.1 := by
  intro k q hk
  refine h (a.length + k) q ?_
  rw [List.getElem?_append_right (Nat.le_add_right _ _), Nat.add_sub_cancel_left]
  exact hk
theorem apw_pool {ws wc pl : va_W} (hD : va_D A ws) (isC : List Nat) (hC : isC.map (fun i => ws[i]?) = wc.map some) (h : ∀ (k : Nat) (q : Nat × va_E), pl[k]? = some q → ¬ A q.1) : apw wc pl := fun k q hk => apw_f hD isC hC (h k q hk)
/-- a term's cells are among these -/
def tin (pl : va_W) (cI : ClassId) (a h p e n : Nat) (th tm : Nat → Int) (te : Nat → Nat) (tg : Int) : Prop :=
  (∃ k : Nat, pl[k]? = some (a, .inr (1, [.ref h, .ref p, .ref e, .int (zI (n : Int)), .int (zI tg)]))) ∧ (∃ k : Nat, pl[k]? = some (h, .inl (cI, n, .inl (zA th)))) ∧ (∃ k : Nat, pl[k]? = some (p, .inl (cI, n, .inl (zA tm)))) ∧ ∃ k : Nat, pl[k]? = some (e, .inl (cI, n, .inl (zA (eI te))))
/-- a term as it is kept: its row, the parts, the ends, the heights -/
def okT (sy : Nat) (ar : Nat → Int) (n : Nat) (th tm : Nat → Int) (te : Nat → Nat) (ht : Nat → Int) : Prop :=
  0 < n ∧ n ≤ 16 ∧ (∀ q, q < n → -4 ≤ th q ∧ th q < sy) ∧ (∀ q, q < n → tm q = mny ar (th q)) ∧ wfE tm n te ∧ te 0 = n ∧ hgE tm n te ht ∧ ht 0 ≤ 4
theorem okT_mm {sy sy' : Nat} {ar : Nat → Int} {n n2 : Nat} {th tm th2 tm2 : Nat → Int} {te te2 : Nat → Nat} {ht ht2 : Nat → Int} (h1 : okT sy ar n th tm te ht) (h2 : okT sy' ar n2 th2 tm2 te2 ht2) : ∀ i j, i < n → j < n2 → th i = th2 j → tm i = tm2 j := by
  intro i j hi hj he
  rw [h1.2.2.2.1 i hi, h2.2.2.2.1 j hj, he]
theorem okT_hh {sy : Nat} {ar : Nat → Int} {n : Nat} {th tm : Nat → Int} {te : Nat → Nat} {ht : Nat → Int} (hs : sy ≤ 5) (h : okT sy ar n th tm te ht) : ∀ q, q < n → -4 ≤ th q ∧ th q ≤ 4 := by
  intro q hq
  have := h.2.2.1 q hq
  omega
theorem okT_hm {sy : Nat} {ar : Nat → Int} {n : Nat} {th tm : Nat → Int} {te : Nat → Nat} {ht : Nat → Int} (hs : sy ≤ 5) (har : ∀ q, q < 5 → 0 ≤ ar q ∧ ar q ≤ 3) (h : okT sy ar n th tm te ht) : ∀ q, q < n → 0 ≤ tm q ∧ tm q ≤ 3 := mq_b har (okT_hh hs h) h.2.2.2.1
theorem any_of {s : State} {tys : List (ClassId × FieldType)} {ws : va_W} {v ci q0 : Nat} {vs : List Value} {r : vw_C} (hK : va_K D cl tys s) (hP : va_P D cl ws H) (hc : cl[ci]? = some r) (he : ws[q0]? = some (v, .inr (ci, vs))) : va_Any r.1 s H v := by
  obtain ⟨cell, h1, h2, h3⟩ := va_recv hK hP hc he
  have h4 := (hK.1 ci r hc).2
  have h5 : cell.cls = D.1 ci := Option.some.inj (h3.symm.trans h4.1)
  obtain ⟨kC, h6, h7⟩ := h4.2
  refine ⟨cell, h1, h2, ⟨kC, by rw [h5]; exact h6⟩, fun comp hcomp => ?_⟩
  have h8 : comp = D.1 ci := Option.some.inj (hcomp.symm.trans h4.1)
  rw [h5, h8]
  exact va_assign h4
end ZZPool
/-- which order is asked -/
def gtO (ord : Int) (rk wt : Nat → Int) (h1 : Nat → Int) (e1 : Nat → Nat) (m1 : Nat → Int) (n1 : Nat) (h2 : Nat → Int) (e2 : Nat → Nat) (m2 : Nat → Int) (n2 : Nat) : Prop := (ord = 0 → gtP rk h1 e1 m1 n1 h2 e2 m2 n2) ∧ (ord ≠ 0 → gtW rk wt h1 e1 m1 n1 h2 e2 n2)
theorem zz_aast {p : Program} {l : Launch} {e : Env} {R : Room} {s : State} {m : MethodId} {args : Array Value} {below : List Frame} {meth : Method} {c : Code} {H : Heap} {locs : List Loc} {cells slots : Nat} {Q : State → Prop} {cc : ByteArray} {pc : Nat} {ls : Array Slot} {rest : List Value} {D : va_G} {cl : List vw_C} {tys : List (ClassId × FieldType)} {ws : va_W} {A : Nat → Prop} {H0 : Heap} (hx : p.tables.exec = Jvm.exec) (hb : c.code = cc) (hK : va_K D cl tys s) (hP : va_P D cl ws H) (hD : va_D A ws) (hS : va_S A H0 H locs) (q0 t0 : Nat) {a v : Nat} {E : String} {cA : ClassId} {N : Nat} {f : Nat → Option Nat} (ha : ws[q0]? = some (a, .inl (cA, N, .inr (.inr (.inr (.inr f)))))) (ht : tys[t0]? = some (cA, .object E)) (hv : va_Any E s H v) {i : Int} (n : Nat) (hi : i = (n : Int)) (hn : n < N) (hN : N < 2147483648) (hd : decode cc pc = .ok (.aastore, 1)) (kk : ∀ (H1 : Heap) (locs1 : List Loc), va_P D cl (ws.set q0 (a, .inl (cA, N, .inr (.inr (.inr (.inr (va_up f n (some v)))))))) H1 → va_D A (ws.set q0 (a, .inl (cA, N, .inr (.inr (.inr (.inr (va_up f n (some v)))))))) → va_S A H0 H1 locs1 → W p l e R s m args below meth c H1 locs1 cells slots Q (F0 m (pc + 1) ls rest)) : W p l e R s m args below meth c H locs cells slots Q (F0 m pc ls (.ref v :: .int (zI i) :: .ref a :: rest)) := by
  subst hi
  refine va_astqM hx hb hK hP hD hS q0 t0 ha ht hv (zI_in hn hN) hd ?_
  rw [zI_cl (by omega)]
  exact kk
