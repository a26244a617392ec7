section ZZLaw
variable {p : Program} {l : Launch} {e : Env} {R : Room} {s : State} {m : MethodId} {args : Array Value} {below : List Frame} {meth : Method} {c : Code} {H : Heap} {locs : List Loc} {cells slots : Nat} {Q : State → Prop} {cc : ByteArray} {pc : Nat} {ls : Array Slot} {rest : List Value} {D : va_G} {cl : List vw_C} {tys : List (ClassId × FieldType)} {ws : va_W} {A : Nat → Prop} {H0 : Heap}
theorem pj_cell {cA : ClassId} {n : Nat} {f g : Nat → Int64} (h : ∀ j, j < n → f j = g j) : vp_cell cA (n, .inr (.inl f)) = vp_cell cA (n, .inr (.inl g)) := by
  rw [vp_cell_l, vp_cell_l]
  unfold arrV
  have e1 : (Array.ofFn fun j : Fin n => Value.long (f j.val)) = Array.ofFn fun j : Fin n => Value.long (g j.val) := by
    congr 1
    funext j
    rw [h j.val j.isLt]
  rw [e1]
theorem pj_ext {q0 : Nat} {a9 : Nat} {cA : ClassId} {n : Nat} {f g : Nat → Int64} (hq : q0 < ws.length) (hP : va_P D cl (ws.set q0 (a9, .inl (cA, n, .inr (.inl f)))) H) (h : ∀ j, j < n → f j = g j) : va_P D cl (ws.set q0 (a9, .inl (cA, n, .inr (.inl g)))) H := by
  intro k q hk
  by_cases hkq : k = q0
  · subst hkq
    rw [List.getElem?_set_self hq] at hk
    cases hk
    have h1 := hP k _ (List.getElem?_set_self hq)
    show H[a9]? = some (vp_cell cA (n, .inr (.inl g)))
    rw [← pj_cell h]
    exact h1
  · rw [List.getElem?_set_ne (fun e9 => hkq e9.symm)] at hk
    exact hP k q (by rw [List.getElem?_set_ne (fun e9 => hkq e9.symm)]; exact hk)
theorem zj_last (hx : p.tables.exec = Jvm.exec) (hb : c.code = cc) (hK : va_K D cl tys s) (hP : va_P D cl ws H) (hD : va_D A ws) (hS : va_S A H0 H locs) (q0 : Nat) {a : Nat} {cA : ClassId} {f : Nat → Int64} (ha : ws[q0]? = some (a, .inl (cA, 1, .inr (.inl f)))) (ht : tys[3]? = some (cA, .long)) {x : Int64} (hd : decode cc pc = .ok (.lastore, 1)) (kk : ∀ (H1 : Heap) (locs1 : List Loc), va_P D cl (ws.set q0 (a, .inl (cA, 1, .inr (.inl (fun _ => x))))) H1 → va_D A (ws.set q0 (a, .inl (cA, 1, .inr (.inl (fun _ => x))))) → va_S A H0 H1 locs1 → W p l e R s m args below meth c H1 locs1 cells slots Q (F0 m (pc + 1) ls rest)) : W p l e R s m args below meth c H locs cells slots Q (F0 m pc ls (.long x :: .int (zI 0) :: .ref a :: rest)) := by
  have hl := (List.getElem?_eq_some_iff.mp ha).1
  refine va_last hx hb hK hP hD hS q0 3 ha ht (i := zI 0) (zI_in (n := 0) (by decide) (by decide)) hd (fun H1 l1 p1 d1 s1 => kk H1 l1 (pj_ext hl p1 (fun j hj => ?_)) (hD.set ha) s1)
  have e0 : (zI 0).toNatClampNeg = 0 := by decide
  show vp_updL f (zI 0).toNatClampNeg x j = x
  rw [e0]
  unfold vp_updL
  rw [if_pos (by omega)]
theorem zj_lald (hx : p.tables.exec = Jvm.exec) (hb : c.code = cc) (hK : va_K D cl tys s) (hP : va_P D cl ws H) (q0 : Nat) {a : Nat} {cA : ClassId} {v : Int64} (ha : ws[q0]? = some (a, .inl (cA, 1, .inr (.inl (fun _ => v))))) (ht : tys[3]? = some (cA, .long)) (hd : decode cc pc = .ok (.laload, 1)) (k : W p l e R s m args below meth c H locs cells slots Q (F0 m (pc + 1) ls (.long v :: rest))) : W p l e R s m args below meth c H locs cells slots Q (F0 m pc ls (.int (zI 0) :: .ref a :: rest)) :=
  va_lald hx hb hK hP q0 3 ha ht (i := zI 0) (zI_in (n := 0) (by decide) (by decide)) hd k
theorem zj_cmp (hx : p.tables.exec = Jvm.exec) (hb : c.code = cc) {x y : Int64} (hd : decode cc pc = .ok (.lcmp, 1)) (h : x = y) (k : W p l e R s m args below meth c H locs cells slots Q (F0 m (pc + 1) ls (.int (zI 0) :: rest))) : W p l e R s m args below meth c H locs cells slots Q (F0 m pc ls (.long y :: .long x :: rest)) := by
  subst h
  refine W.lcmp hx hb hd ?_
  have e1 : lg_cmp x x = zI 0 := by simp [lg_cmp]; rfl
  rw [e1]
  exact k
theorem zx_catch0 {own name E : String} {ce : Cell} {q : Addr} {h0 : Nat × Nat × Nat × Nat} {r : List (Nat × Nat × Nat × Nat)} {tgt : Nat} (hown : s.vm.findClass own = some m.cls) (htb : c.exceptionTable.toList = tableOf (h0 :: r)) (hx : covers ⟨h0.1, h0.2.1, h0.2.2.1, h0.2.2.2⟩ pc = true) (h00 : h0.2.2.2 ≠ 0) (ht : h0.2.2.1 = tgt) (hlink : (Cond.classLink own h0.2.2.2 name).before args s = true) (hcast : (Cond.castable E name).before args s = true) (hcell : H[q]? = some ce) (hv : ce.vm = .none) (hcl : s.vm.findClass E = some ce.cls) (kk : W p l e R s m args below meth c H locs cells slots Q (F0 m tgt ls [.ref q])) : vx_W p l e R s m args below meth c H locs cells slots Q (F0 m pc ls rest) q := by
  subst ht
  exact vx_catch hown [] ⟨h0.1, h0.2.1, h0.2.2.1, h0.2.2.2⟩ (tableOf r) htb (fun z hz => nomatch hz) hx h00 hlink hcast hcell hv hcl kk
theorem zx_catch1 {own name0 name E : String} {ce : Cell} {q : Addr} {h0 h1 : Nat × Nat × Nat × Nat} {r : List (Nat × Nat × Nat × Nat)} {tgt : Nat} (hown : s.vm.findClass own = some m.cls) (htb : c.exceptionTable.toList = tableOf (h0 :: h1 :: r)) (hx : covers ⟨h1.1, h1.2.1, h1.2.2.1, h1.2.2.2⟩ pc = true) (h00 : h0.2.2.2 ≠ 0) (h10 : h1.2.2.2 ≠ 0) (ht : h1.2.2.1 = tgt) (hl0 : (Cond.classLink own h0.2.2.2 name0).before args s = true) (hn0 : va_Nc E name0 s) (hlink : (Cond.classLink own h1.2.2.2 name).before args s = true) (hcast : (Cond.castable E name).before args s = true) (hcell : H[q]? = some ce) (hv : ce.vm = .none) (hcl : s.vm.findClass E = some ce.cls) (kk : W p l e R s m args below meth c H locs cells slots Q (F0 m tgt ls [.ref q])) : vx_W p l e R s m args below meth c H locs cells slots Q (F0 m pc ls rest) q := by
  subst ht
  exact vx_catch hown [⟨h0.1, h0.2.1, h0.2.2.1, h0.2.2.2⟩] ⟨h1.1, h1.2.1, h1.2.2.1, h1.2.2.2⟩ (tableOf r) htb (fun z hz => by cases List.mem_singleton.mp hz; exact Or.inr ⟨h00, name0, hl0, hn0⟩) hx h10 hlink hcast hcell hv hcl kk
theorem cw_of {own : String} {index maxL mc ms : Nat} {y : MethodName} {bytes : ByteArray} {ret : Option FieldType} {hh : List (Nat × Nat × Nat × Nat)} {rm : Room} (n : Nat) (ht : ∀ w ∈ gw, w.before args s = true) (hG : GoodIn gw (Cond.codeWith y bytes maxL ret hh :: gw)) (hrc : rm.cells = mc) (hrs : rm.slots = ms)
    (hd : y.cls ≠ "java/lang/invoke/MethodHandle" ∧ y.cls ≠ "java/lang/invoke/VarHandle" ∧ (parseMethodDescriptor y.desc).map (fun d => d.parameters.length) = some n) (hR : rm.frames + 1 ≤ R.frames ∧ 8 + (maxL + 11) + rm.locals ≤ R.locals)
    (hini : Cond.initialized y.cls ∈ gw) (hlink : Cond.methodLink own index y ∈ gw) (hstat : Cond.static y ∈ gw) (hcode : Cond.codeWith y bytes maxL ret hh ∈ gw) :
    vx_CSW R s args own index y bytes maxL ret hh (Cond.codeWith y bytes maxL ret hh :: gw) rm mc ms n := by
  refine ⟨⟨hrc, hrs, hR.1, hR.2, pay_in ht hG, List.mem_cons_self⟩, ht _ hcode, ht _ hini, ⟨hd.1, hd.2.1⟩, fun sig h => ?_, ht _ hlink, ht _ hstat⟩
  have h2 := hd.2.2
  rw [h] at h2
  exact (Option.some.inj h2).symm
theorem apw_mp {X wc pl : va_W} (hD : va_D A (X ++ pl)) (isC : List Nat) (hC : isC.map (fun i => X[i]?) = wc.map some) : apw wc pl := by
  intro k q hk j x hj
  have h1 : (wc ++ pl)[j]? = some (q.1, x) := by rw [List.getElem?_append_left (List.getElem?_eq_some_iff.mp hj).1]; exact hj
  have h2 := va_part isC hC j _ h1
  have hjl := (List.getElem?_eq_some_iff.mp hj).1
  rw [if_pos hjl] at h2
  have h3 : (X ++ pl)[X.length + k]? = some q := by rw [List.getElem?_append_right (Nat.le_add_right _ _), Nat.add_sub_cancel_left]; exact hk
  have h4 := hD.1 _ _ _ _ h2 h3 rfl
  have h5 : (isC.map (fun i => X[i]?))[j]? = some (some (q.1, x)) := by rw [hC, List.getElem?_map, hj]; rfl
  rw [List.getElem?_map] at h5
  cases hi : isC[j]? with
  | none => rw [hi] at h5; cases h5
  | some i =>
    rw [hi] at h5
    have h6 : X[i]? = some (q.1, x) := Option.some.inj h5
    have h7 := (List.getElem?_eq_some_iff.mp h6).1
    rw [hi] at h4
    have h8 : i = X.length + k := h4
    omega
end ZZLaw
set_option maxHeartbeats 4000000 in
set_option maxRecDepth 100000 in
theorem c_L_symbol (l : Launch) (dC : Nat → ClassId) (dI : Nat → Nat → Nat) (cI cZ cT cJ : ClassId) (ox : Nat) (o aA aR aW aV sy : Nat) (ar rk wt sv : Nat → Int) (od dH dP dE dT dz : Nat) (dt : Bool) (hd pcs : Nat → Int) (de : Nat → Nat) (dh : Nat → Int) (orr rL rR rB rc : Nat) (lf rf : Nat → Option Nat) (bd : Nat → Int) (og oG : Nat) (gr : Nat → Bool) (ta tH tP tE tn : Nat → Nat) (TH TM : Nat → Nat → Int) (TE : Nat → Nat → Nat) (TG : Nat → Int) (HT : Nat → Nat → Int) (LI RI : Nat → Nat) (pl : va_W) (tc : Nat) (xT : Nat) (tf : Nat → Option Nat) (ou : Nat) (ot : Int64) (x : Int) (zh : Nat) (hst : l.stackTraces = false) (hsy : sy ≤ 5) (h32x : -2147483648 ≤ x ∧ x < 2147483648) : vx_Met l qy_L_symbol qw_L_symbol ({ frames := 7, cells := 1, slots := 6, locals := 140 }) (mxP (dC, dI) qcl (qty cI cZ cT cJ) nwL [(o, .inr (0, [.ref aA, .ref aR, .ref aW, .ref aV, .int (zI (↑sy))])), (aA, .inl (cI, 5, .inl (zA ar))), (aR, .inl (cI, 5, .inl (zA rk))), (aW, .inl (cI, 5, .inl (zA wt))), (ou, .inl (cJ, 1, .inr (.inl (fun _ => ot))))] [(ox, .inr (5, [.ref o, .ref od, .ref xT, .ref orr, .ref og, .int (zI (↑tc))]))] zh [.ref ox, .int (zI (x)), .ref ou]) (mwI (S := (Nat) × (Nat → Int) × (Nat → Int) × (Nat → Int) × (Int64)) (fun r uq => (r = 0 ∧ 0 ≤ x ∧ x ≤ 3 ∧ sy < 5 ∧ uq.2.2.2.2 = (zI ↑sy).toInt64 ∧ uq.1 = sy + 1 ∧ uq.2.1 = uz ar sy x ∧ uq.2.2.1 = uz rk sy ↑sy ∧ uq.2.2.2.1 = uz wt sy 1) ∨ (r = 1 ∧ (x < 0 ∨ 3 < x) ∧ uq.1 = sy ∧ uq.2.1 = ar ∧ uq.2.2.1 = rk ∧ uq.2.2.2.1 = wt) ∨ (r = 2 ∧ 0 ≤ x ∧ x ≤ 3 ∧ sy = 5 ∧ uq.1 = sy ∧ uq.2.1 = ar ∧ uq.2.2.1 = rk ∧ uq.2.2.2.1 = wt)) (fun uq tq => mwB (dC, dI) qcl (qty cI cZ cT cJ) (va_A [(o, .inr (0, [.ref aA, .ref aR, .ref aW, .ref aV, .int (zI (↑sy))])), (aA, .inl (cI, 5, .inl (zA ar))), (aR, .inl (cI, 5, .inl (zA rk))), (aW, .inl (cI, 5, .inl (zA wt))), (ou, .inl (cJ, 1, .inr (.inl (fun _ => ot))))] zh) [(o, .inr (0, [.ref aA, .ref aR, .ref aW, .ref aV, .int (zI (↑uq.1))])), (aA, .inl (cI, 5, .inl (zA uq.2.1))), (aR, .inl (cI, 5, .inl (zA uq.2.2.1))), (aW, .inl (cI, 5, .inl (zA uq.2.2.2.1))), (ou, .inl (cJ, 1, .inr (.inl (fun _ => uq.2.2.2.2))))] tq) (va_A [(o, .inr (0, [.ref aA, .ref aR, .ref aW, .ref aV, .int (zI (↑sy))])), (aA, .inl (cI, 5, .inl (zA ar))), (aR, .inl (cI, 5, .inl (zA rk))), (aW, .inl (cI, 5, .inl (zA wt))), (ou, .inl (cJ, 1, .inr (.inl (fun _ => ot))))] zh)) (vx_X (S := Unit) (fun _ => True) (fun E uq tq => (False) ∧ mwB (dC, dI) qcl (qty cI cZ cT cJ) (va_A [(o, .inr (0, [.ref aA, .ref aR, .ref aW, .ref aV, .int (zI (↑sy))])), (aA, .inl (cI, 5, .inl (zA ar))), (aR, .inl (cI, 5, .inl (zA rk))), (aW, .inl (cI, 5, .inl (zA wt))), (ou, .inl (cJ, 1, .inr (.inl (fun _ => ot))))] zh) [(o, .inr (0, [.ref aA, .ref aR, .ref aW, .ref aV, .int (zI (↑sy))])), (aA, .inl (cI, 5, .inl (zA ar))), (aR, .inl (cI, 5, .inl (zA rk))), (aW, .inl (cI, 5, .inl (zA wt))), (ou, .inl (cJ, 1, .inr (.inl (fun _ => ot))))] tq) (va_A [(o, .inr (0, [.ref aA, .ref aR, .ref aW, .ref aV, .int (zI (↑sy))])), (aA, .inl (cI, 5, .inl (zA ar))), (aR, .inl (cI, 5, .inl (zA rk))), (aW, .inl (cI, 5, .inl (zA wt))), (ou, .inl (cJ, 1, .inr (.inl (fun _ => ot))))] zh)) 1 6 (va_A [(o, .inr (0, [.ref aA, .ref aR, .ref aW, .ref aV, .int (zI (↑sy))])), (aA, .inl (cI, 5, .inl (zA ar))), (aR, .inl (cI, 5, .inl (zA rk))), (aW, .inl (cI, 5, .inl (zA wt))), (ou, .inl (cJ, 1, .inr (.inl (fun _ => ot))))] zh) := by
  refine vx_ofWH (cc := qc_L_symbol) (maxL := 4) (ret := (Option.some Jvm.ClassFile.FieldType.int)) (hh := [((0 : Nat), (9 : Nat), (12 : Nat), (13 : Nat)), ((0 : Nat), (9 : Nat), (15 : Nat), (15 : Nat))]) (by decide) rfl ?_
  intro pg eg sg mg args below meth cg s₁ B hml hv
  obtain ⟨rfl, ⟨hsz, hP, hF0, hK, hN, hD0, hap⟩, hE⟩ := hv
  have hx := B.exec
  have hb := B.bytes
  have hr := B.returns
  have hts := atoms_spec (ws := qw_L_symbol) B.pre
  have hg : ∀ w ∈ gw, w.before _ sg = true := fun w h => hts w (List.mem_cons_of_mem _ h)
  have htb := vx_table (x := qy_L_symbol) B (hts _ List.mem_cons_self)
  have hown : sg.vm.findClass "TermOrdersLaw" = some mg.cls := findClass_of_methodNamed B.named
  have hlocks := B.notSynchronized
  have hl := lv_entry ([.ref ox, .int (zI (x)), .ref ou]) (n := 4) (Nat.le_of_ble_eq_true rfl)
  rw [lg_entry_eq]
  generalize (lg_sl ([.ref ox, .int (zI (x)), .ref ou]) ++ List.replicate (4 - (lg_sl ([.ref ox, .int (zI (x)), .ref ou])).length) Slot.unset).toArray = ls at hl ⊢
  subst hsz
  have hD := hD0.self (sz := sg.heap.size)
  have hFA := apw_A hap (fun k q hk => (hF0 k q hk).lt)
  generalize hAe : va_A [(o, .inr (0, [.ref aA, .ref aR, .ref aW, .ref aV, .int (zI (↑sy))])), (aA, .inl (cI, 5, .inl (zA ar))), (aR, .inl (cI, 5, .inl (zA rk))), (aW, .inl (cI, 5, .inl (zA wt))), (ou, .inl (cJ, 1, .inr (.inl (fun _ => ot))))] sg.heap.size = A at hD hFA hE ⊢
  have hA : ∀ q : Nat, sg.heap.size ≤ q → A q := fun q h => by rw [← hAe]; exact Or.inr h
  have hS : va_S A sg.heap sg.heap [] := va_S.rf
  have hF := hF0
  have hl : lv_has ls 4 [(0, .ref ox), (1, .int (zI (x))), (2, .ref ou)] := hl
  refine lv_aload_n hx hb qd_L_symbol_0 rfl (lv_at hl 2 rfl) ?_
  refine lv_iconst (v := zI 0) hx hb qd_L_symbol_1 rfl ?_
  refine lv_aload_n hx hb qd_L_symbol_2 rfl (lv_at hl 0 rfl) ?_
  refine lv_iload_n hx hb qd_L_symbol_3 rfl (lv_at hl 1 rfl) ?_
  have hPc := hP.sub (ws' := [(o, .inr (0, [.ref aA, .ref aR, .ref aW, .ref aV, .int (zI (↑sy))])), (aA, .inl (cI, 5, .inl (zA ar))), (aR, .inl (cI, 5, .inl (zA rk))), (aW, .inl (cI, 5, .inl (zA wt)))]) [0, 1, 2, 3] rfl
  have hDc := hD.sub (ws' := [(o, .inr (0, [.ref aA, .ref aR, .ref aW, .ref aV, .int (zI (↑sy))])), (aA, .inl (cI, 5, .inl (zA ar))), (aR, .inl (cI, 5, .inl (zA rk))), (aW, .inl (cI, 5, .inl (zA wt)))]) [0, 1, 2, 3] (by decide) rfl
  have hFr := va_free (wc := [(o, .inr (0, [.ref aA, .ref aR, .ref aW, .ref aV, .int (zI (↑sy))])), (aA, .inl (cI, 5, .inl (zA ar))), (aR, .inl (cI, 5, .inl (zA rk))), (aW, .inl (cI, 5, .inl (zA wt)))]) hD hS hA [0, 1, 2, 3] rfl
  refine mx_callI (vx_runV (As := [.int (zI (x))]) (rest := [.int (zI (0)), .ref ou]) ⟨hx, hb, hml, hown, hg⟩ (c_X_symbol l dC dI cI cZ cT cJ ox o aA aR aW aV sy ar rk wt sv od dH dP dE dT dz dt hd pcs de dh orr rL rR rB rc lf rf bd og oG gr ta tH tP tE tn TH TM TE TG HT LI RI pl tc xT tf x sg.heap.size hst hsy h32x) ⟨callB_of 1 hg (gw_ok (fun _ h => h) wd_171) rfl rfl rfl (hg _ wd_1) (hg _ wd_168) (by decide +kernel) ⟨Nat.le_of_ble_eq_true rfl, Nat.le_of_ble_eq_true rfl⟩, hg _ wd_169, hg _ wd_170⟩ (mx_preV (va_recv (q0 := 0) hK hF rfl rfl) hPc (pw_c (q := (ox, .inr (5, [.ref o, .ref od, .ref xT, .ref orr, .ref og, .int (zI (↑tc))]))) hF 0 rfl (pw_nil)) hK hN hDc (apw_c (q := (ox, .inr (5, [.ref o, .ref od, .ref xT, .ref orr, .ref og, .int (zI (↑tc))]))) (apw_f hD [0, 1, 2, 3] rfl (hFA 0 _ rfl)) (apw_nil)) (exH.narrow (exH.kept hE hS.2.1) hFr)) rfl rfl hl.1 rfl (lv_room (Nat.le_of_ble_eq_true rfl)) qd_L_symbol_4 ⟨Nat.le_of_ble_eq_true rfl, Nat.le_of_ble_eq_true rfl⟩) hS (fun q _ h => hFr q h) hFr (fun q _ h => hFr q h) (fun E9 ce9 q9 u9 t9 H4_1 L4_1 ht9 hv9 _ hx4 hz9 hk9 hS hc9 hcv9 hcl9 => ?_) (fun r4 u9 t9 H4_1 L4_1 ht9 hv9 hr4 hB9 hz9 hk9 hS => ?_)
  · skip
    obtain ⟨hx4, hB9⟩ := hx4
    try dsimp only at hx4 hB9
    obtain ⟨hP, hD⟩ := mw_join (wr := [(ou, .inl (cJ, 1, .inr (.inl (fun _ => ot))))]) (w1 := [(o, .inr (0, [.ref aA, .ref aR, .ref aW, .ref aV, .int (zI (↑sy))])), (aA, .inl (cI, 5, .inl (zA ar))), (aR, .inl (cI, 5, .inl (zA rk))), (aW, .inl (cI, 5, .inl (zA wt)))]) hP hD [0, 1, 2, 3] [4] rfl rfl (by decide) (by decide) hk9 hFr ht9 hB9
    have hP := hP.sub (ws' := [(o, .inr (0, [.ref aA, .ref aR, .ref aW, .ref aV, .int (zI (↑sy))])), (aA, .inl (cI, 5, .inl (zA ar))), (aR, .inl (cI, 5, .inl (zA rk))), (aW, .inl (cI, 5, .inl (zA wt))), (ou, .inl (cJ, 1, .inr (.inl (fun _ => ot))))]) [1, 2, 3, 4, 0] rfl
    have hD := hD.sub (ws' := [(o, .inr (0, [.ref aA, .ref aR, .ref aW, .ref aV, .int (zI (↑sy))])), (aA, .inl (cI, 5, .inl (zA ar))), (aR, .inl (cI, 5, .inl (zA rk))), (aW, .inl (cI, 5, .inl (zA wt))), (ou, .inl (cJ, 1, .inr (.inl (fun _ => ot))))]) [1, 2, 3, 4, 0] (by decide) rfl
    have hF := fz_keep hF0 hFA hS
    rcases hx4 with ⟨rfl, hcx⟩ | ⟨rfl, hcx⟩
    · skip
      refine zx_catch0 (tgt := 12) hown htb rfl (by decide) rfl (hg _ wd_166) (va_Nw.use (isEx_tab rfl) (hE.1 _ (List.mem_of_getElem? (i := 0) rfl))) hc9 hcv9 hcl9 ?_
      refine lv_astore_n (lv' := [(3, .ref q9), (0, .ref ox), (1, .int (zI (x))), (2, .ref ou)]) hx hb qd_L_symbol_12 rfl hl (by decide) rfl (fun ls hl => ?_)
      refine lv_iconst (v := zI 1) hx hb qd_L_symbol_13 rfl ?_
      refine vx_ret ?_
      exact W.iret (v := zI 1) hx hb hr (fun t9 ht9 hW9 => ⟨⟨1, (sy, ar, rk, wt, ot), rfl, (Or.inr (Or.inl ⟨rfl, hcx, rfl, rfl, rfl, rfl⟩)), mwB_i (by rw [ht9]; exact hP) (va_K.moved hW9.alike hK) hD⟩, hS.F ht9⟩) hS.2.2 qd_L_symbol_14
    · skip
      refine zx_catch1 (tgt := 15) hown htb rfl (by decide) (by decide) rfl (hg _ wd_166) (hE.2.2.2.2 _ (List.mem_of_getElem? (i := 0) rfl)) (hg _ wd_167) (va_Nw.use (isEx_tab rfl) (hE.1 _ (List.mem_of_getElem? (i := 7) rfl))) hc9 hcv9 hcl9 ?_
      refine lv_astore_n (lv' := [(3, .ref q9), (0, .ref ox), (1, .int (zI (x))), (2, .ref ou)]) hx hb qd_L_symbol_15 rfl hl (by decide) rfl (fun ls hl => ?_)
      refine lv_iconst (v := zI 2) hx hb qd_L_symbol_16 rfl ?_
      refine vx_ret ?_
      exact W.iret (v := zI 2) hx hb hr (fun t9 ht9 hW9 => ⟨⟨2, (sy, ar, rk, wt, ot), rfl, (Or.inr (Or.inr ⟨rfl, hcx.1, hcx.2.1, hcx.2.2, rfl, rfl, rfl, rfl⟩)), mwB_i (by rw [ht9]; exact hP) (va_K.moved hW9.alike hK) hD⟩, hS.F ht9⟩) hS.2.2 qd_L_symbol_17
  · skip
    obtain ⟨hP, hD⟩ := mw_join (wr := [(ou, .inl (cJ, 1, .inr (.inl (fun _ => ot))))]) (w1 := [(o, .inr (0, [.ref aA, .ref aR, .ref aW, .ref aV, .int (zI (↑(sy + 1)))])), (aA, .inl (cI, 5, .inl (zA (uz ar sy x)))), (aR, .inl (cI, 5, .inl (zA (uz rk sy ↑sy)))), (aW, .inl (cI, 5, .inl (zA (uz wt sy 1))))]) hP hD [0, 1, 2, 3] [4] rfl rfl (by decide) (by decide) hk9 hFr ht9 hB9
    have hP := hP.sub (ws' := [(o, .inr (0, [.ref aA, .ref aR, .ref aW, .ref aV, .int (zI (↑(sy + 1)))])), (aA, .inl (cI, 5, .inl (zA (uz ar sy x)))), (aR, .inl (cI, 5, .inl (zA (uz rk sy ↑sy)))), (aW, .inl (cI, 5, .inl (zA (uz wt sy 1)))), (ou, .inl (cJ, 1, .inr (.inl (fun _ => ot))))]) [1, 2, 3, 4, 0] rfl
    have hD := hD.sub (ws' := [(o, .inr (0, [.ref aA, .ref aR, .ref aW, .ref aV, .int (zI (↑(sy + 1)))])), (aA, .inl (cI, 5, .inl (zA (uz ar sy x)))), (aR, .inl (cI, 5, .inl (zA (uz rk sy ↑sy)))), (aW, .inl (cI, 5, .inl (zA (uz wt sy 1)))), (ou, .inl (cJ, 1, .inr (.inl (fun _ => ot))))]) [1, 2, 3, 4, 0] (by decide) rfl
    have hF := fz_keep hF0 hFA hS
    obtain ⟨y1, y2, y3, e9⟩ := hr4
    subst e9
    refine lv_i2l (v := (zI ((↑sy))).toInt64) hx hb qd_L_symbol_7 rfl ?_
    refine zj_last hx hb hK hP hD hS 4 rfl rfl qd_L_symbol_8 (fun H8_2 L8_2 hP hD hS => ?_)
    have hP : va_P (dC, dI) qcl [(o, .inr (0, [.ref aA, .ref aR, .ref aW, .ref aV, .int (zI (↑(sy + 1)))])), (aA, .inl (cI, 5, .inl (zA (uz ar sy x)))), (aR, .inl (cI, 5, .inl (zA (uz rk sy ↑sy)))), (aW, .inl (cI, 5, .inl (zA (uz wt sy 1)))), (ou, .inl (cJ, 1, .inr (.inl (fun _ => (zI ((↑sy))).toInt64))))] H8_2 := hP
    have hD : va_D A [(o, .inr (0, [.ref aA, .ref aR, .ref aW, .ref aV, .int (zI (↑(sy + 1)))])), (aA, .inl (cI, 5, .inl (zA (uz ar sy x)))), (aR, .inl (cI, 5, .inl (zA (uz rk sy ↑sy)))), (aW, .inl (cI, 5, .inl (zA (uz wt sy 1)))), (ou, .inl (cJ, 1, .inr (.inl (fun _ => (zI ((↑sy))).toInt64))))] := hD
    have hF := fz_keep hF0 hFA hS
    refine lv_goto (tgt := 18) hx hb qd_L_symbol_9 (by decide) ?_
    refine lv_iconst (v := zI 0) hx hb qd_L_symbol_18 rfl ?_
    refine vx_ret ?_
    exact W.iret (v := zI 0) hx hb hr (fun t9 ht9 hW9 => ⟨⟨0, (sy + 1, uz ar sy x, uz rk sy ↑sy, uz wt sy 1, (zI ↑sy).toInt64), rfl, (Or.inl ⟨rfl, y1, y2, y3, rfl, rfl, rfl, rfl, rfl⟩), mwB_i (by rw [ht9]; exact hP) (va_K.moved hW9.alike hK) hD⟩, hS.F ht9⟩) hS.2.2 qd_L_symbol_19
set_option maxHeartbeats 4000000 in
set_option maxRecDepth 100000 in
theorem c_L_rank (l : Launch) (dC : Nat → ClassId) (dI : Nat → Nat → Nat) (cI cZ cT cJ : ClassId) (ox : Nat) (o aA aR aW aV sy : Nat) (ar rk wt sv : Nat → Int) (od dH dP dE dT dz : Nat) (dt : Bool) (hd pcs : Nat → Int) (de : Nat → Nat) (dh : Nat → Int) (orr rL rR rB rc : Nat) (lf rf : Nat → Option Nat) (bd : Nat → Int) (og oG : Nat) (gr : Nat → Bool) (ta tH tP tE tn : Nat → Nat) (TH TM : Nat → Nat → Int) (TE : Nat → Nat → Nat) (TG : Nat → Int) (HT : Nat → Nat → Int) (LI RI : Nat → Nat) (pl : va_W) (tc : Nat) (xT : Nat) (tf : Nat → Option Nat) (ou : Nat) (ot : Int64) (x : Int) (zh : Nat) (hst : l.stackTraces = false) (hsy : sy ≤ 5) (h32x : -2147483648 ≤ x ∧ x < 2147483648) : vx_Met l qy_L_rank qw_L_rank ({ frames := 8, cells := 1, slots := 6, locals := 142 }) (mxP (dC, dI) qcl (qty cI cZ cT cJ) nwL [(ou, .inl (cJ, 1, .inr (.inl (fun _ => ot))))] [(ox, .inr (5, [.ref o, .ref od, .ref xT, .ref orr, .ref og, .int (zI (↑tc))])), (o, .inr (0, [.ref aA, .ref aR, .ref aW, .ref aV, .int (zI (↑sy))])), (aR, .inl (cI, 5, .inl (zA rk)))] zh [.ref ox, .int (zI (x)), .ref ou]) (mwI (S := (Int64)) (fun r uq => (r = 0 ∧ (0 ≤ x ∧ x < sy) ∧ uq = (zI (rk x.toNat)).toInt64) ∨ (r = 1 ∧ ¬ (0 ≤ x ∧ x < sy))) (fun uq tq => mwB (dC, dI) qcl (qty cI cZ cT cJ) (va_A [(ou, .inl (cJ, 1, .inr (.inl (fun _ => ot))))] zh) [(ou, .inl (cJ, 1, .inr (.inl (fun _ => uq))))] tq) (va_A [(ou, .inl (cJ, 1, .inr (.inl (fun _ => ot))))] zh)) (vx_X (S := Unit) (fun _ => True) (fun E uq tq => (False) ∧ mwB (dC, dI) qcl (qty cI cZ cT cJ) (va_A [(ou, .inl (cJ, 1, .inr (.inl (fun _ => ot))))] zh) [(ou, .inl (cJ, 1, .inr (.inl (fun _ => ot))))] tq) (va_A [(ou, .inl (cJ, 1, .inr (.inl (fun _ => ot))))] zh)) 1 6 (va_A [(ou, .inl (cJ, 1, .inr (.inl (fun _ => ot))))] zh) := by
  refine vx_ofWH (cc := qc_L_rank) (maxL := 4) (ret := (Option.some Jvm.ClassFile.FieldType.int)) (hh := [((0 : Nat), (9 : Nat), (12 : Nat), (13 : Nat))]) (by decide) rfl ?_
  intro pg eg sg mg args below meth cg s₁ B hml hv
  obtain ⟨rfl, ⟨hsz, hP, hF0, hK, hN, hD0, hap⟩, hE⟩ := hv
  have hx := B.exec
  have hb := B.bytes
  have hr := B.returns
  have hts := atoms_spec (ws := qw_L_rank) B.pre
  have hg : ∀ w ∈ gw, w.before _ sg = true := fun w h => hts w (List.mem_cons_of_mem _ h)
  have htb := vx_table (x := qy_L_rank) B (hts _ List.mem_cons_self)
  have hown : sg.vm.findClass "TermOrdersLaw" = some mg.cls := findClass_of_methodNamed B.named
  have hlocks := B.notSynchronized
  have hl := lv_entry ([.ref ox, .int (zI (x)), .ref ou]) (n := 4) (Nat.le_of_ble_eq_true rfl)
  rw [lg_entry_eq]
  generalize (lg_sl ([.ref ox, .int (zI (x)), .ref ou]) ++ List.replicate (4 - (lg_sl ([.ref ox, .int (zI (x)), .ref ou])).length) Slot.unset).toArray = ls at hl ⊢
  subst hsz
  have hD := hD0.self (sz := sg.heap.size)
  have hFA := apw_A hap (fun k q hk => (hF0 k q hk).lt)
  generalize hAe : va_A [(ou, .inl (cJ, 1, .inr (.inl (fun _ => ot))))] sg.heap.size = A at hD hFA hE ⊢
  have hA : ∀ q : Nat, sg.heap.size ≤ q → A q := fun q h => by rw [← hAe]; exact Or.inr h
  have hS : va_S A sg.heap sg.heap [] := va_S.rf
  have hF := hF0
  have hl : lv_has ls 4 [(0, .ref ox), (1, .int (zI (x))), (2, .ref ou)] := hl
  refine lv_aload_n hx hb qd_L_rank_0 rfl (lv_at hl 2 rfl) ?_
  refine lv_iconst (v := zI 0) hx hb qd_L_rank_1 rfl ?_
  refine lv_aload_n hx hb qd_L_rank_2 rfl (lv_at hl 0 rfl) ?_
  refine lv_iload_n hx hb qd_L_rank_3 rfl (lv_at hl 1 rfl) ?_
  have hPc := hP.sub (ws' := []) [] rfl
  have hDc := hD.sub (ws' := []) [] (by decide) rfl
  have hFr := va_free (wc := []) hD hS hA [] rfl
  refine mx_callI (vx_runV (As := [.int (zI (x))]) (rest := [.int (zI (0)), .ref ou]) ⟨hx, hb, hml, hown, hg⟩ (c_X_rank l dC dI cI cZ cT cJ ox o aA aR aW aV sy ar rk wt sv od dH dP dE dT dz dt hd pcs de dh orr rL rR rB rc lf rf bd og oG gr ta tH tP tE tn TH TM TE TG HT LI RI pl tc xT tf x sg.heap.size hst hsy h32x) ⟨callB_of 1 hg (gw_ok (fun _ h => h) wd_419) rfl rfl rfl (hg _ wd_1) (hg _ wd_416) (by decide +kernel) ⟨Nat.le_of_ble_eq_true rfl, Nat.le_of_ble_eq_true rfl⟩, hg _ wd_417, hg _ wd_418⟩ (mx_preV (va_recv (q0 := 0) hK hF rfl rfl) hPc (pw_c (q := (ox, .inr (5, [.ref o, .ref od, .ref xT, .ref orr, .ref og, .int (zI (↑tc))]))) hF 0 rfl (pw_c (q := (o, .inr (0, [.ref aA, .ref aR, .ref aW, .ref aV, .int (zI (↑sy))]))) hF 1 rfl (pw_c (q := (aR, .inl (cI, 5, .inl (zA rk)))) hF 2 rfl (pw_nil)))) hK hN hDc (apw_c (q := (ox, .inr (5, [.ref o, .ref od, .ref xT, .ref orr, .ref og, .int (zI (↑tc))]))) (apw_f hD [] rfl (hFA 0 _ rfl)) (apw_c (q := (o, .inr (0, [.ref aA, .ref aR, .ref aW, .ref aV, .int (zI (↑sy))]))) (apw_f hD [] rfl (hFA 1 _ rfl)) (apw_c (q := (aR, .inl (cI, 5, .inl (zA rk)))) (apw_f hD [] rfl (hFA 2 _ rfl)) (apw_nil)))) (exH.narrow (exH.kept hE hS.2.1) hFr)) rfl rfl hl.1 rfl (lv_room (Nat.le_of_ble_eq_true rfl)) qd_L_rank_4 ⟨Nat.le_of_ble_eq_true rfl, Nat.le_of_ble_eq_true rfl⟩) hS (fun q _ h => hFr q h) hFr (fun q _ h => hFr q h) (fun E9 ce9 q9 u9 t9 H4_1 L4_1 ht9 hv9 _ hx4 hz9 hk9 hS hc9 hcv9 hcl9 => ?_) (fun r4 u9 t9 H4_1 L4_1 ht9 hv9 hr4 hB9 hz9 hk9 hS => ?_)
  · skip
    obtain ⟨hx4, hB9⟩ := hx4
    try dsimp only at hx4 hB9
    obtain ⟨hP, hD⟩ := mw_join (wr := [(ou, .inl (cJ, 1, .inr (.inl (fun _ => ot))))]) (w1 := []) hP hD [] [0] rfl rfl (by decide) (by decide) hk9 hFr ht9 hB9
    have hP := hP.sub (ws' := [(ou, .inl (cJ, 1, .inr (.inl (fun _ => ot))))]) [0] rfl
    have hD := hD.sub (ws' := [(ou, .inl (cJ, 1, .inr (.inl (fun _ => ot))))]) [0] (by decide) rfl
    have hF := fz_keep hF0 hFA hS
    obtain ⟨rfl, hcx⟩ := hx4
    refine zx_catch0 (tgt := 12) hown htb rfl (by decide) rfl (hg _ wd_166) (va_Nw.use (isEx_tab rfl) (hE.1 _ (List.mem_of_getElem? (i := 0) rfl))) hc9 hcv9 hcl9 ?_
    refine lv_astore_n (lv' := [(3, .ref q9), (0, .ref ox), (1, .int (zI (x))), (2, .ref ou)]) hx hb qd_L_rank_12 rfl hl (by decide) rfl (fun ls hl => ?_)
    refine lv_iconst (v := zI 1) hx hb qd_L_rank_13 rfl ?_
    refine vx_ret ?_
    exact W.iret (v := zI 1) hx hb hr (fun t9 ht9 hW9 => ⟨⟨1, ot, rfl, (Or.inr ⟨rfl, hcx⟩), mwB_i (by rw [ht9]; exact hP) (va_K.moved hW9.alike hK) hD⟩, hS.F ht9⟩) hS.2.2 qd_L_rank_14
  · skip
    obtain ⟨hP, hD⟩ := mw_join (wr := [(ou, .inl (cJ, 1, .inr (.inl (fun _ => ot))))]) (w1 := []) hP hD [] [0] rfl rfl (by decide) (by decide) hk9 hFr ht9 hB9
    have hP := hP.sub (ws' := [(ou, .inl (cJ, 1, .inr (.inl (fun _ => ot))))]) [0] rfl
    have hD := hD.sub (ws' := [(ou, .inl (cJ, 1, .inr (.inl (fun _ => ot))))]) [0] (by decide) rfl
    have hF := fz_keep hF0 hFA hS
    obtain ⟨y1, e9⟩ := hr4
    subst e9
    refine lv_i2l (v := (zI ((rk x.toNat))).toInt64) hx hb qd_L_rank_7 rfl ?_
    refine zj_last hx hb hK hP hD hS 0 rfl rfl qd_L_rank_8 (fun H8_2 L8_2 hP hD hS => ?_)
    have hP : va_P (dC, dI) qcl [(ou, .inl (cJ, 1, .inr (.inl (fun _ => (zI ((rk x.toNat))).toInt64))))] H8_2 := hP
    have hD : va_D A [(ou, .inl (cJ, 1, .inr (.inl (fun _ => (zI ((rk x.toNat))).toInt64))))] := hD
    have hF := fz_keep hF0 hFA hS
    refine lv_goto (tgt := 15) hx hb qd_L_rank_9 (by decide) ?_
    refine lv_iconst (v := zI 0) hx hb qd_L_rank_15 rfl ?_
    refine vx_ret ?_
    exact W.iret (v := zI 0) hx hb hr (fun t9 ht9 hW9 => ⟨⟨0, (zI (rk x.toNat)).toInt64, rfl, (Or.inl ⟨rfl, y1, rfl⟩), mwB_i (by rw [ht9]; exact hP) (va_K.moved hW9.alike hK) hD⟩, hS.F ht9⟩) hS.2.2 qd_L_rank_16
set_option maxHeartbeats 4000000 in
set_option maxRecDepth 100000 in
theorem c_L_order (l : Launch) (dC : Nat → ClassId) (dI : Nat → Nat → Nat) (cI cZ cT cJ : ClassId) (ox : Nat) (o aA aR aW aV sy : Nat) (ar rk wt sv : Nat → Int) (od dH dP dE dT dz : Nat) (dt : Bool) (hd pcs : Nat → Int) (de : Nat → Nat) (dh : Nat → Int) (orr rL rR rB rc : Nat) (lf rf : Nat → Option Nat) (bd : Nat → Int) (og oG : Nat) (gr : Nat → Bool) (ta tH tP tE tn : Nat → Nat) (TH TM : Nat → Nat → Int) (TE : Nat → Nat → Nat) (TG : Nat → Int) (HT : Nat → Nat → Int) (LI RI : Nat → Nat) (pl : va_W) (tc : Nat) (xT : Nat) (tf : Nat → Option Nat) (ou : Nat) (ot : Int64) (x y z : Int) (zh : Nat) (hst : l.stackTraces = false) (hsy : sy ≤ 5) (h32x : -2147483648 ≤ x ∧ x < 2147483648) (h32y : -2147483648 ≤ y ∧ y < 2147483648) (h32z : -2147483648 ≤ z ∧ z < 2147483648) : vx_Met l qy_L_order qw_L_order ({ frames := 8, cells := 1, slots := 6, locals := 144 }) (mxP (dC, dI) qcl (qty cI cZ cT cJ) nwL [(aR, .inl (cI, 5, .inl (zA rk))), (aW, .inl (cI, 5, .inl (zA wt)))] [(ox, .inr (5, [.ref o, .ref od, .ref xT, .ref orr, .ref og, .int (zI (↑tc))])), (o, .inr (0, [.ref aA, .ref aR, .ref aW, .ref aV, .int (zI (↑sy))]))] zh [.ref ox, .int (zI (x)), .int (zI (y)), .int (zI (z))]) (mwI (S := (Nat → Int) × (Nat → Int)) (fun r uq => (r = 0 ∧ (0 ≤ x ∧ x < sy ∧ 0 ≤ y ∧ y ≤ 4 ∧ 0 ≤ z ∧ z ≤ 9) ∧ uq.1 = uz rk x.toNat y ∧ uq.2 = uz wt x.toNat z) ∨ (r = 1 ∧ ¬ (0 ≤ x ∧ x < sy ∧ 0 ≤ y ∧ y ≤ 4 ∧ 0 ≤ z ∧ z ≤ 9) ∧ uq.1 = rk ∧ uq.2 = wt)) (fun uq tq => mwB (dC, dI) qcl (qty cI cZ cT cJ) (va_A [(aR, .inl (cI, 5, .inl (zA rk))), (aW, .inl (cI, 5, .inl (zA wt)))] zh) [(aR, .inl (cI, 5, .inl (zA uq.1))), (aW, .inl (cI, 5, .inl (zA uq.2)))] tq) (va_A [(aR, .inl (cI, 5, .inl (zA rk))), (aW, .inl (cI, 5, .inl (zA wt)))] zh)) (vx_X (S := Unit) (fun _ => True) (fun E uq tq => (False) ∧ mwB (dC, dI) qcl (qty cI cZ cT cJ) (va_A [(aR, .inl (cI, 5, .inl (zA rk))), (aW, .inl (cI, 5, .inl (zA wt)))] zh) [(aR, .inl (cI, 5, .inl (zA rk))), (aW, .inl (cI, 5, .inl (zA wt)))] tq) (va_A [(aR, .inl (cI, 5, .inl (zA rk))), (aW, .inl (cI, 5, .inl (zA wt)))] zh)) 1 6 (va_A [(aR, .inl (cI, 5, .inl (zA rk))), (aW, .inl (cI, 5, .inl (zA wt)))] zh) := by
  refine vx_ofWH (cc := qc_L_order) (maxL := 5) (ret := (Option.some Jvm.ClassFile.FieldType.int)) (hh := [((0 : Nat), (7 : Nat), (10 : Nat), (13 : Nat))]) (by decide) rfl ?_
  intro pg eg sg mg args below meth cg s₁ B hml hv
  obtain ⟨rfl, ⟨hsz, hP, hF0, hK, hN, hD0, hap⟩, hE⟩ := hv
  have hx := B.exec
  have hb := B.bytes
  have hr := B.returns
  have hts := atoms_spec (ws := qw_L_order) B.pre
  have hg : ∀ w ∈ gw, w.before _ sg = true := fun w h => hts w (List.mem_cons_of_mem _ h)
  have htb := vx_table (x := qy_L_order) B (hts _ List.mem_cons_self)
  have hown : sg.vm.findClass "TermOrdersLaw" = some mg.cls := findClass_of_methodNamed B.named
  have hlocks := B.notSynchronized
  have hl := lv_entry ([.ref ox, .int (zI (x)), .int (zI (y)), .int (zI (z))]) (n := 5) (Nat.le_of_ble_eq_true rfl)
  rw [lg_entry_eq]
  generalize (lg_sl ([.ref ox, .int (zI (x)), .int (zI (y)), .int (zI (z))]) ++ List.replicate (5 - (lg_sl ([.ref ox, .int (zI (x)), .int (zI (y)), .int (zI (z))])).length) Slot.unset).toArray = ls at hl ⊢
  subst hsz
  have hD := hD0.self (sz := sg.heap.size)
  have hFA := apw_A hap (fun k q hk => (hF0 k q hk).lt)
  generalize hAe : va_A [(aR, .inl (cI, 5, .inl (zA rk))), (aW, .inl (cI, 5, .inl (zA wt)))] sg.heap.size = A at hD hFA hE ⊢
  have hA : ∀ q : Nat, sg.heap.size ≤ q → A q := fun q h => by rw [← hAe]; exact Or.inr h
  have hS : va_S A sg.heap sg.heap [] := va_S.rf
  have hF := hF0
  have hl : lv_has ls 5 [(0, .ref ox), (1, .int (zI (x))), (2, .int (zI (y))), (3, .int (zI (z)))] := hl
  refine lv_aload_n hx hb qd_L_order_0 rfl (lv_at hl 0 rfl) ?_
  refine lv_iload_n hx hb qd_L_order_1 rfl (lv_at hl 1 rfl) ?_
  refine lv_iload_n hx hb qd_L_order_2 rfl (lv_at hl 2 rfl) ?_
  refine lv_iload_n hx hb qd_L_order_3 rfl (lv_at hl 3 rfl) ?_
  have hPc := hP.sub (ws' := [(aR, .inl (cI, 5, .inl (zA rk))), (aW, .inl (cI, 5, .inl (zA wt)))]) [0, 1] rfl
  have hDc := hD.sub (ws' := [(aR, .inl (cI, 5, .inl (zA rk))), (aW, .inl (cI, 5, .inl (zA wt)))]) [0, 1] (by decide) rfl
  have hFr := va_free (wc := [(aR, .inl (cI, 5, .inl (zA rk))), (aW, .inl (cI, 5, .inl (zA wt)))]) hD hS hA [0, 1] rfl
  refine vx_callv (vx_runV (As := [.int (zI (x)), .int (zI (y)), .int (zI (z))]) (rest := []) ⟨hx, hb, hml, hown, hg⟩ (c_X_order l dC dI cI cZ cT cJ ox o aA aR aW aV sy ar rk wt sv od dH dP dE dT dz dt hd pcs de dh orr rL rR rB rc lf rf bd og oG gr ta tH tP tE tn TH TM TE TG HT LI RI pl tc xT tf x y z sg.heap.size hst hsy h32x h32y h32z) ⟨callB_of 3 hg (gw_ok (fun _ h => h) wd_410) rfl rfl rfl (hg _ wd_1) (hg _ wd_407) (by decide +kernel) ⟨Nat.le_of_ble_eq_true rfl, Nat.le_of_ble_eq_true rfl⟩, hg _ wd_408, hg _ wd_409⟩ (mx_preV (va_recv (q0 := 0) hK hF rfl rfl) hPc (pw_c (q := (ox, .inr (5, [.ref o, .ref od, .ref xT, .ref orr, .ref og, .int (zI (↑tc))]))) hF 0 rfl (pw_c (q := (o, .inr (0, [.ref aA, .ref aR, .ref aW, .ref aV, .int (zI (↑sy))]))) hF 1 rfl (pw_nil))) hK hN hDc (apw_c (q := (ox, .inr (5, [.ref o, .ref od, .ref xT, .ref orr, .ref og, .int (zI (↑tc))]))) (apw_f hD [0, 1] rfl (hFA 0 _ rfl)) (apw_c (q := (o, .inr (0, [.ref aA, .ref aR, .ref aW, .ref aV, .int (zI (↑sy))]))) (apw_f hD [0, 1] rfl (hFA 1 _ rfl)) (apw_nil))) (exH.narrow (exH.kept hE hS.2.1) hFr)) rfl rfl hl.1 rfl (lv_room (Nat.le_of_ble_eq_true rfl)) qd_L_order_4 ⟨Nat.le_of_ble_eq_true rfl, Nat.le_of_ble_eq_true rfl⟩) hS (fun q _ h => hFr q h) hFr (fun q _ h => hFr q h) (fun E9 ce9 q9 u9 t9 H4_1 L4_1 ht9 hv9 _ hx4 hz9 hk9 hS hc9 hcv9 hcl9 => ?_) (fun u9 t9 H4_1 L4_1 ht9 hv9 hr4 hB9 hz9 hk9 hS => ?_)
  · skip
    obtain ⟨hx4, hB9⟩ := hx4
    try dsimp only at hx4 hB9
    obtain ⟨hP, hD⟩ := mw_join (wr := []) (w1 := [(aR, .inl (cI, 5, .inl (zA rk))), (aW, .inl (cI, 5, .inl (zA wt)))]) hP hD [0, 1] [] rfl rfl (by decide) (by decide) hk9 hFr ht9 hB9
    have hP := hP.sub (ws' := [(aR, .inl (cI, 5, .inl (zA rk))), (aW, .inl (cI, 5, .inl (zA wt)))]) [0, 1] rfl
    have hD := hD.sub (ws' := [(aR, .inl (cI, 5, .inl (zA rk))), (aW, .inl (cI, 5, .inl (zA wt)))]) [0, 1] (by decide) rfl
    have hF := fz_keep hF0 hFA hS
    obtain ⟨rfl, hcx⟩ := hx4
    refine zx_catch0 (tgt := 10) hown htb rfl (by decide) rfl (hg _ wd_166) (va_Nw.use (isEx_tab rfl) (hE.1 _ (List.mem_of_getElem? (i := 0) rfl))) hc9 hcv9 hcl9 ?_
    refine lv_astore (lv' := [(4, .ref q9), (0, .ref ox), (1, .int (zI (x))), (2, .int (zI (y))), (3, .int (zI (z)))]) hx hb qd_L_order_10 hl (by decide) rfl (fun ls hl => ?_)
    refine lv_iconst (v := zI 1) hx hb qd_L_order_12 rfl ?_
    refine vx_ret ?_
    exact W.iret (v := zI 1) hx hb hr (fun t9 ht9 hW9 => ⟨⟨1, (rk, wt), rfl, (Or.inr ⟨rfl, hcx, rfl, rfl⟩), mwB_i (by rw [ht9]; exact hP) (va_K.moved hW9.alike hK) hD⟩, hS.F ht9⟩) hS.2.2 qd_L_order_13
  · skip
    obtain ⟨hP, hD⟩ := mw_join (wr := []) (w1 := [(aR, .inl (cI, 5, .inl (zA (uz rk x.toNat y)))), (aW, .inl (cI, 5, .inl (zA (uz wt x.toNat z))))]) hP hD [0, 1] [] rfl rfl (by decide) (by decide) hk9 hFr ht9 hB9
    have hP := hP.sub (ws' := [(aR, .inl (cI, 5, .inl (zA (uz rk x.toNat y)))), (aW, .inl (cI, 5, .inl (zA (uz wt x.toNat z))))]) [0, 1] rfl
    have hD := hD.sub (ws' := [(aR, .inl (cI, 5, .inl (zA (uz rk x.toNat y)))), (aW, .inl (cI, 5, .inl (zA (uz wt x.toNat z))))]) [0, 1] (by decide) rfl
    have hF := fz_keep hF0 hFA hS
    refine lv_goto (tgt := 14) hx hb qd_L_order_7 (by decide) ?_
    refine lv_iconst (v := zI 0) hx hb qd_L_order_14 rfl ?_
    refine vx_ret ?_
    exact W.iret (v := zI 0) hx hb hr (fun t9 ht9 hW9 => ⟨⟨0, (uz rk x.toNat y, uz wt x.toNat z), rfl, (Or.inl ⟨rfl, hr4, rfl, rfl⟩), mwB_i (by rw [ht9]; exact hP) (va_K.moved hW9.alike hK) hD⟩, hS.F ht9⟩) hS.2.2 qd_L_order_15
set_option maxHeartbeats 4000000 in
set_option maxRecDepth 100000 in
theorem c_L_rule (l : Launch) (dC : Nat → ClassId) (dI : Nat → Nat → Nat) (cI cZ cT cJ : ClassId) (ox : Nat) (o aA aR aW aV sy : Nat) (ar rk wt sv : Nat → Int) (od dH dP dE dT dz : Nat) (dt : Bool) (hd pcs : Nat → Int) (de : Nat → Nat) (dh : Nat → Int) (orr rL rR rB rc : Nat) (lf rf : Nat → Option Nat) (bd : Nat → Int) (og oG : Nat) (gr : Nat → Bool) (ta tH tP tE tn : Nat → Nat) (TH TM : Nat → Nat → Int) (TE : Nat → Nat → Nat) (TG : Nat → Int) (HT : Nat → Nat → Int) (LI RI : Nat → Nat) (pl : va_W) (tc : Nat) (xT : Nat) (tf : Nat → Option Nat) (ou : Nat) (ot : Int64) (x y : Int) (zh : Nat) (hst : l.stackTraces = false) (hsy : sy ≤ 5) (htc : tc ≤ 160) (htf : ∀ t, t < tc → tf t = some (ta t)) (htp : ∀ t, t < tc → okT sy ar (tn t) (TH t) (TM t) (TE t) (HT t) ∧ tin pl cI (ta t) (tH t) (tP t) (tE t) (tn t) (TH t) (TM t) (TE t) (TG t)) (hrc : rc ≤ 8) (h32x : -2147483648 ≤ x ∧ x < 2147483648) (h32y : -2147483648 ≤ y ∧ y < 2147483648) : vx_Met l qy_L_rule qw_L_rule ({ frames := 8, cells := 1, slots := 6, locals := 145 }) (mxP (dC, dI) qcl (qty cI cZ cT cJ) nwL [(orr, .inr (4, [.ref rL, .ref rR, .ref rB, .int (zI (↑rc))])), (rL, .inl (cT, 8, .inr (.inr (.inr (.inr lf))))), (rR, .inl (cT, 8, .inr (.inr (.inr (.inr rf))))), (ou, .inl (cJ, 1, .inr (.inl (fun _ => ot))))] ([(ox, .inr (5, [.ref o, .ref od, .ref xT, .ref orr, .ref og, .int (zI (↑tc))])), (xT, .inl (cT, 160, .inr (.inr (.inr (.inr tf)))))] ++ pl) zh [.ref ox, .int (zI (x)), .int (zI (y)), .ref ou]) (mwI (S := (Nat) × (Nat → Option Nat) × (Nat → Option Nat) × (Int64)) (fun r uq => (r = 0 ∧ (0 ≤ x ∧ x < tc ∧ 0 ≤ y ∧ y < tc ∧ 0 ≤ TH x.toNat 0 ∧ ∀ q, q < tn y.toNat → TH y.toNat q < 0 → ∃ k, k < tn x.toNat ∧ TH x.toNat k = TH y.toNat q) ∧ rc < 8 ∧ uq.2.2.2 = (zI ↑rc).toInt64 ∧ uq.1 = rc + 1 ∧ uq.2.1 = va_up lf rc (some (ta x.toNat)) ∧ uq.2.2.1 = va_up rf rc (some (ta y.toNat))) ∨ (r = 1 ∧ ¬ (0 ≤ x ∧ x < tc ∧ 0 ≤ y ∧ y < tc ∧ 0 ≤ TH x.toNat 0 ∧ ∀ q, q < tn y.toNat → TH y.toNat q < 0 → ∃ k, k < tn x.toNat ∧ TH x.toNat k = TH y.toNat q) ∧ uq.1 = rc ∧ uq.2.1 = lf ∧ uq.2.2.1 = rf) ∨ (r = 2 ∧ (0 ≤ x ∧ x < tc ∧ 0 ≤ y ∧ y < tc ∧ 0 ≤ TH x.toNat 0 ∧ ∀ q, q < tn y.toNat → TH y.toNat q < 0 → ∃ k, k < tn x.toNat ∧ TH x.toNat k = TH y.toNat q) ∧ rc = 8 ∧ uq.1 = rc ∧ uq.2.1 = lf ∧ uq.2.2.1 = rf)) (fun uq tq => mwB (dC, dI) qcl (qty cI cZ cT cJ) (va_A [(orr, .inr (4, [.ref rL, .ref rR, .ref rB, .int (zI (↑rc))])), (rL, .inl (cT, 8, .inr (.inr (.inr (.inr lf))))), (rR, .inl (cT, 8, .inr (.inr (.inr (.inr rf))))), (ou, .inl (cJ, 1, .inr (.inl (fun _ => ot))))] zh) [(orr, .inr (4, [.ref rL, .ref rR, .ref rB, .int (zI (↑uq.1))])), (rL, .inl (cT, 8, .inr (.inr (.inr (.inr uq.2.1))))), (rR, .inl (cT, 8, .inr (.inr (.inr (.inr uq.2.2.1))))), (ou, .inl (cJ, 1, .inr (.inl (fun _ => uq.2.2.2))))] tq) (va_A [(orr, .inr (4, [.ref rL, .ref rR, .ref rB, .int (zI (↑rc))])), (rL, .inl (cT, 8, .inr (.inr (.inr (.inr lf))))), (rR, .inl (cT, 8, .inr (.inr (.inr (.inr rf))))), (ou, .inl (cJ, 1, .inr (.inl (fun _ => ot))))] zh)) (vx_X (S := Unit) (fun _ => True) (fun E uq tq => (False) ∧ mwB (dC, dI) qcl (qty cI cZ cT cJ) (va_A [(orr, .inr (4, [.ref rL, .ref rR, .ref rB, .int (zI (↑rc))])), (rL, .inl (cT, 8, .inr (.inr (.inr (.inr lf))))), (rR, .inl (cT, 8, .inr (.inr (.inr (.inr rf))))), (ou, .inl (cJ, 1, .inr (.inl (fun _ => ot))))] zh) [(orr, .inr (4, [.ref rL, .ref rR, .ref rB, .int (zI (↑rc))])), (rL, .inl (cT, 8, .inr (.inr (.inr (.inr lf))))), (rR, .inl (cT, 8, .inr (.inr (.inr (.inr rf))))), (ou, .inl (cJ, 1, .inr (.inl (fun _ => ot))))] tq) (va_A [(orr, .inr (4, [.ref rL, .ref rR, .ref rB, .int (zI (↑rc))])), (rL, .inl (cT, 8, .inr (.inr (.inr (.inr lf))))), (rR, .inl (cT, 8, .inr (.inr (.inr (.inr rf))))), (ou, .inl (cJ, 1, .inr (.inl (fun _ => ot))))] zh)) 1 6 (va_A [(orr, .inr (4, [.ref rL, .ref rR, .ref rB, .int (zI (↑rc))])), (rL, .inl (cT, 8, .inr (.inr (.inr (.inr lf))))), (rR, .inl (cT, 8, .inr (.inr (.inr (.inr rf))))), (ou, .inl (cJ, 1, .inr (.inl (fun _ => ot))))] zh) := by
  refine vx_ofWH (cc := qc_L_rule) (maxL := 5) (ret := (Option.some Jvm.ClassFile.FieldType.int)) (hh := [((0 : Nat), (10 : Nat), (13 : Nat), (13 : Nat)), ((0 : Nat), (10 : Nat), (17 : Nat), (15 : Nat))]) (by decide) rfl ?_
  intro pg eg sg mg args below meth cg s₁ B hml hv
  obtain ⟨rfl, ⟨hsz, hP, hF0, hK, hN, hD0, hap⟩, hE⟩ := hv
  have hx := B.exec
  have hb := B.bytes
  have hr := B.returns
  have hts := atoms_spec (ws := qw_L_rule) B.pre
  have hg : ∀ w ∈ gw, w.before _ sg = true := fun w h => hts w (List.mem_cons_of_mem _ h)
  have htb := vx_table (x := qy_L_rule) B (hts _ List.mem_cons_self)
  have hown : sg.vm.findClass "TermOrdersLaw" = some mg.cls := findClass_of_methodNamed B.named
  have hlocks := B.notSynchronized
  have hl := lv_entry ([.ref ox, .int (zI (x)), .int (zI (y)), .ref ou]) (n := 5) (Nat.le_of_ble_eq_true rfl)
  rw [lg_entry_eq]
  generalize (lg_sl ([.ref ox, .int (zI (x)), .int (zI (y)), .ref ou]) ++ List.replicate (5 - (lg_sl ([.ref ox, .int (zI (x)), .int (zI (y)), .ref ou])).length) Slot.unset).toArray = ls at hl ⊢
  subst hsz
  have hD := hD0.self (sz := sg.heap.size)
  have hFA := apw_A hap (fun k q hk => (hF0 k q hk).lt)
  generalize hAe : va_A [(orr, .inr (4, [.ref rL, .ref rR, .ref rB, .int (zI (↑rc))])), (rL, .inl (cT, 8, .inr (.inr (.inr (.inr lf))))), (rR, .inl (cT, 8, .inr (.inr (.inr (.inr rf))))), (ou, .inl (cJ, 1, .inr (.inl (fun _ => ot))))] sg.heap.size = A at hD hFA hE ⊢
  have hA : ∀ q : Nat, sg.heap.size ≤ q → A q := fun q h => by rw [← hAe]; exact Or.inr h
  have hS : va_S A sg.heap sg.heap [] := va_S.rf
  have hF := hF0
  have hl : lv_has ls 5 [(0, .ref ox), (1, .int (zI (x))), (2, .int (zI (y))), (3, .ref ou)] := hl
  refine lv_aload_n hx hb qd_L_rule_0 rfl (lv_at hl 3 rfl) ?_
  refine lv_iconst (v := zI 0) hx hb qd_L_rule_1 rfl ?_
  refine lv_aload_n hx hb qd_L_rule_2 rfl (lv_at hl 0 rfl) ?_
  refine lv_iload_n hx hb qd_L_rule_3 rfl (lv_at hl 1 rfl) ?_
  refine lv_iload_n hx hb qd_L_rule_4 rfl (lv_at hl 2 rfl) ?_
  have hPc := hP.sub (ws' := [(orr, .inr (4, [.ref rL, .ref rR, .ref rB, .int (zI (↑rc))])), (rL, .inl (cT, 8, .inr (.inr (.inr (.inr lf))))), (rR, .inl (cT, 8, .inr (.inr (.inr (.inr rf)))))]) [0, 1, 2] rfl
  have hDc := hD.sub (ws' := [(orr, .inr (4, [.ref rL, .ref rR, .ref rB, .int (zI (↑rc))])), (rL, .inl (cT, 8, .inr (.inr (.inr (.inr lf))))), (rR, .inl (cT, 8, .inr (.inr (.inr (.inr rf)))))]) [0, 1, 2] (by decide) rfl
  have hFr := va_free (wc := [(orr, .inr (4, [.ref rL, .ref rR, .ref rB, .int (zI (↑rc))])), (rL, .inl (cT, 8, .inr (.inr (.inr (.inr lf))))), (rR, .inl (cT, 8, .inr (.inr (.inr (.inr rf)))))]) hD hS hA [0, 1, 2] rfl
  refine mx_callI (vx_runV (As := [.int (zI (x)), .int (zI (y))]) (rest := [.int (zI (0)), .ref ou]) ⟨hx, hb, hml, hown, hg⟩ (c_X_rule l dC dI cI cZ cT cJ ox o aA aR aW aV sy ar rk wt sv od dH dP dE dT dz dt hd pcs de dh orr rL rR rB rc lf rf bd og oG gr ta tH tP tE tn TH TM TE TG HT LI RI pl tc xT tf x y sg.heap.size hst hsy htc htf htp hrc h32x h32y) ⟨callB_of 2 hg (gw_ok (fun _ h => h) wd_384) rfl rfl rfl (hg _ wd_1) (hg _ wd_381) (by decide +kernel) ⟨Nat.le_of_ble_eq_true rfl, Nat.le_of_ble_eq_true rfl⟩, hg _ wd_382, hg _ wd_383⟩ (mx_preV (va_recv (q0 := 0) hK hF rfl rfl) hPc (pw_c (q := (ox, .inr (5, [.ref o, .ref od, .ref xT, .ref orr, .ref og, .int (zI (↑tc))]))) hF 0 rfl (pw_c (q := (xT, .inl (cT, 160, .inr (.inr (.inr (.inr tf)))))) hF 1 rfl (pw_tail [(ox, .inr (5, [.ref o, .ref od, .ref xT, .ref orr, .ref og, .int (zI (↑tc))])), (xT, .inl (cT, 160, .inr (.inr (.inr (.inr tf)))))] hF))) hK hN hDc (apw_c (q := (ox, .inr (5, [.ref o, .ref od, .ref xT, .ref orr, .ref og, .int (zI (↑tc))]))) (apw_f hD [0, 1, 2] rfl (hFA 0 _ rfl)) (apw_c (q := (xT, .inl (cT, 160, .inr (.inr (.inr (.inr tf)))))) (apw_f hD [0, 1, 2] rfl (hFA 1 _ rfl)) (apw_pool hD [0, 1, 2] rfl (hA_tail [(ox, .inr (5, [.ref o, .ref od, .ref xT, .ref orr, .ref og, .int (zI (↑tc))])), (xT, .inl (cT, 160, .inr (.inr (.inr (.inr tf)))))] hFA)))) (exH.narrow (exH.kept hE hS.2.1) hFr)) rfl rfl hl.1 rfl (lv_room (Nat.le_of_ble_eq_true rfl)) qd_L_rule_5 ⟨Nat.le_of_ble_eq_true rfl, Nat.le_of_ble_eq_true rfl⟩) hS (fun q _ h => hFr q h) hFr (fun q _ h => hFr q h) (fun E9 ce9 q9 u9 t9 H5_1 L5_1 ht9 hv9 _ hx5 hz9 hk9 hS hc9 hcv9 hcl9 => ?_) (fun r5 u9 t9 H5_1 L5_1 ht9 hv9 hr5 hB9 hz9 hk9 hS => ?_)
  · skip
    obtain ⟨hx5, hB9⟩ := hx5
    try dsimp only at hx5 hB9
    obtain ⟨hP, hD⟩ := mw_join (wr := [(ou, .inl (cJ, 1, .inr (.inl (fun _ => ot))))]) (w1 := [(orr, .inr (4, [.ref rL, .ref rR, .ref rB, .int (zI (↑rc))])), (rL, .inl (cT, 8, .inr (.inr (.inr (.inr lf))))), (rR, .inl (cT, 8, .inr (.inr (.inr (.inr rf)))))]) hP hD [0, 1, 2] [3] rfl rfl (by decide) (by decide) hk9 hFr ht9 hB9
    have hP := hP.sub (ws' := [(orr, .inr (4, [.ref rL, .ref rR, .ref rB, .int (zI (↑rc))])), (rL, .inl (cT, 8, .inr (.inr (.inr (.inr lf))))), (rR, .inl (cT, 8, .inr (.inr (.inr (.inr rf))))), (ou, .inl (cJ, 1, .inr (.inl (fun _ => ot))))]) [1, 2, 3, 0] rfl
    have hD := hD.sub (ws' := [(orr, .inr (4, [.ref rL, .ref rR, .ref rB, .int (zI (↑rc))])), (rL, .inl (cT, 8, .inr (.inr (.inr (.inr lf))))), (rR, .inl (cT, 8, .inr (.inr (.inr (.inr rf))))), (ou, .inl (cJ, 1, .inr (.inl (fun _ => ot))))]) [1, 2, 3, 0] (by decide) rfl
    have hF := fz_keep hF0 hFA hS
    rcases hx5 with ⟨rfl, hcx⟩ | ⟨rfl, hcx⟩
    · skip
      refine zx_catch0 (tgt := 13) hown htb rfl (by decide) rfl (hg _ wd_166) (va_Nw.use (isEx_tab rfl) (hE.1 _ (List.mem_of_getElem? (i := 0) rfl))) hc9 hcv9 hcl9 ?_
      refine lv_astore (lv' := [(4, .ref q9), (0, .ref ox), (1, .int (zI (x))), (2, .int (zI (y))), (3, .ref ou)]) hx hb qd_L_rule_13 hl (by decide) rfl (fun ls hl => ?_)
      refine lv_iconst (v := zI 1) hx hb qd_L_rule_15 rfl ?_
      refine vx_ret ?_
      exact W.iret (v := zI 1) hx hb hr (fun t9 ht9 hW9 => ⟨⟨1, (rc, lf, rf, ot), rfl, (Or.inr (Or.inl ⟨rfl, hcx, rfl, rfl, rfl⟩)), mwB_i (by rw [ht9]; exact hP) (va_K.moved hW9.alike hK) hD⟩, hS.F ht9⟩) hS.2.2 qd_L_rule_16
    · skip
      refine zx_catch1 (tgt := 17) hown htb rfl (by decide) (by decide) rfl (hg _ wd_166) (hE.2.2.2.2 _ (List.mem_of_getElem? (i := 0) rfl)) (hg _ wd_167) (va_Nw.use (isEx_tab rfl) (hE.1 _ (List.mem_of_getElem? (i := 7) rfl))) hc9 hcv9 hcl9 ?_
      refine lv_astore (lv' := [(4, .ref q9), (0, .ref ox), (1, .int (zI (x))), (2, .int (zI (y))), (3, .ref ou)]) hx hb qd_L_rule_17 hl (by decide) rfl (fun ls hl => ?_)
      refine lv_iconst (v := zI 2) hx hb qd_L_rule_19 rfl ?_
      refine vx_ret ?_
      exact W.iret (v := zI 2) hx hb hr (fun t9 ht9 hW9 => ⟨⟨2, (rc, lf, rf, ot), rfl, (Or.inr (Or.inr ⟨rfl, hcx.1, hcx.2, rfl, rfl, rfl⟩)), mwB_i (by rw [ht9]; exact hP) (va_K.moved hW9.alike hK) hD⟩, hS.F ht9⟩) hS.2.2 qd_L_rule_20
  · skip
    obtain ⟨hP, hD⟩ := mw_join (wr := [(ou, .inl (cJ, 1, .inr (.inl (fun _ => ot))))]) (w1 := [(orr, .inr (4, [.ref rL, .ref rR, .ref rB, .int (zI (↑(rc + 1)))])), (rL, .inl (cT, 8, .inr (.inr (.inr (.inr (va_up lf rc (some (ta x.toNat)))))))), (rR, .inl (cT, 8, .inr (.inr (.inr (.inr (va_up rf rc (some (ta y.toNat))))))))]) hP hD [0, 1, 2] [3] rfl rfl (by decide) (by decide) hk9 hFr ht9 hB9
    have hP := hP.sub (ws' := [(orr, .inr (4, [.ref rL, .ref rR, .ref rB, .int (zI (↑(rc + 1)))])), (rL, .inl (cT, 8, .inr (.inr (.inr (.inr (va_up lf rc (some (ta x.toNat)))))))), (rR, .inl (cT, 8, .inr (.inr (.inr (.inr (va_up rf rc (some (ta y.toNat)))))))), (ou, .inl (cJ, 1, .inr (.inl (fun _ => ot))))]) [1, 2, 3, 0] rfl
    have hD := hD.sub (ws' := [(orr, .inr (4, [.ref rL, .ref rR, .ref rB, .int (zI (↑(rc + 1)))])), (rL, .inl (cT, 8, .inr (.inr (.inr (.inr (va_up lf rc (some (ta x.toNat)))))))), (rR, .inl (cT, 8, .inr (.inr (.inr (.inr (va_up rf rc (some (ta y.toNat)))))))), (ou, .inl (cJ, 1, .inr (.inl (fun _ => ot))))]) [1, 2, 3, 0] (by decide) rfl
    have hF := fz_keep hF0 hFA hS
    obtain ⟨y1, y2, e9⟩ := hr5
    subst e9
    refine lv_i2l (v := (zI ((↑rc))).toInt64) hx hb qd_L_rule_8 rfl ?_
    refine zj_last hx hb hK hP hD hS 3 rfl rfl qd_L_rule_9 (fun H9_2 L9_2 hP hD hS => ?_)
    have hP : va_P (dC, dI) qcl [(orr, .inr (4, [.ref rL, .ref rR, .ref rB, .int (zI (↑(rc + 1)))])), (rL, .inl (cT, 8, .inr (.inr (.inr (.inr (va_up lf rc (some (ta x.toNat)))))))), (rR, .inl (cT, 8, .inr (.inr (.inr (.inr (va_up rf rc (some (ta y.toNat)))))))), (ou, .inl (cJ, 1, .inr (.inl (fun _ => (zI ((↑rc))).toInt64))))] H9_2 := hP
    have hD : va_D A [(orr, .inr (4, [.ref rL, .ref rR, .ref rB, .int (zI (↑(rc + 1)))])), (rL, .inl (cT, 8, .inr (.inr (.inr (.inr (va_up lf rc (some (ta x.toNat)))))))), (rR, .inl (cT, 8, .inr (.inr (.inr (.inr (va_up rf rc (some (ta y.toNat)))))))), (ou, .inl (cJ, 1, .inr (.inl (fun _ => (zI ((↑rc))).toInt64))))] := hD
    have hF := fz_keep hF0 hFA hS
    refine lv_goto (tgt := 21) hx hb qd_L_rule_10 (by decide) ?_
    refine lv_iconst (v := zI 0) hx hb qd_L_rule_21 rfl ?_
    refine vx_ret ?_
    exact W.iret (v := zI 0) hx hb hr (fun t9 ht9 hW9 => ⟨⟨0, (rc + 1, va_up lf rc (some (ta x.toNat)), va_up rf rc (some (ta y.toNat)), (zI ↑rc).toInt64), rfl, (Or.inl ⟨rfl, y1, y2, rfl, rfl, rfl, rfl⟩), mwB_i (by rw [ht9]; exact hP) (va_K.moved hW9.alike hK) hD⟩, hS.F ht9⟩) hS.2.2 qd_L_rule_22
set_option maxHeartbeats 4000000 in
set_option maxRecDepth 100000 in
theorem c_L_greater (l : Launch) (dC : Nat → ClassId) (dI : Nat → Nat → Nat) (cI cZ cT cJ : ClassId) (ox : Nat) (o aA aR aW aV sy : Nat) (ar rk wt sv : Nat → Int) (od dH dP dE dT dz : Nat) (dt : Bool) (hd pcs : Nat → Int) (de : Nat → Nat) (dh : Nat → Int) (orr rL rR rB rc : Nat) (lf rf : Nat → Option Nat) (bd : Nat → Int) (og oG : Nat) (gr : Nat → Bool) (ta tH tP tE tn : Nat → Nat) (TH TM : Nat → Nat → Int) (TE : Nat → Nat → Nat) (TG : Nat → Int) (HT : Nat → Nat → Int) (LI RI : Nat → Nat) (pl : va_W) (tc : Nat) (xT : Nat) (tf : Nat → Option Nat) (ou : Nat) (ot : Int64) (x y z : Int) (zh : Nat) (hst : l.stackTraces = false) (hsy : sy ≤ 5) (har : ∀ q, q < 5 → 0 ≤ ar q ∧ ar q ≤ 3) (hrk : ∀ q, q < 5 → 0 ≤ rk q ∧ rk q ≤ 4) (hwt : ∀ q, q < 5 → 0 ≤ wt q ∧ wt q ≤ 9) (htc : tc ≤ 160) (htf : ∀ t, t < tc → tf t = some (ta t)) (htp : ∀ t, t < tc → okT sy ar (tn t) (TH t) (TM t) (TE t) (HT t) ∧ tin pl cI (ta t) (tH t) (tP t) (tE t) (tn t) (TH t) (TM t) (TE t) (TG t)) (h32x : -2147483648 ≤ x ∧ x < 2147483648) (h32y : -2147483648 ≤ y ∧ y < 2147483648) (h32z : -2147483648 ≤ z ∧ z < 2147483648) : vx_Met l qy_L_greater qw_L_greater ({ frames := 8, cells := 1, slots := 6, locals := 146 }) (mxP (dC, dI) qcl (qty cI cZ cT cJ) nwL [(oG, .inl (cZ, 256, .inl (zB gr))), (ou, .inl (cJ, 1, .inr (.inl (fun _ => ot))))] ([(ox, .inr (5, [.ref o, .ref od, .ref xT, .ref orr, .ref og, .int (zI (↑tc))])), (xT, .inl (cT, 160, .inr (.inr (.inr (.inr tf))))), (og, .inr (3, [.ref o, .ref oG])), (o, .inr (0, [.ref aA, .ref aR, .ref aW, .ref aV, .int (zI (↑sy))])), (aA, .inl (cI, 5, .inl (zA ar))), (aR, .inl (cI, 5, .inl (zA rk))), (aW, .inl (cI, 5, .inl (zA wt))), (aV, .inl (cI, 5, .inl (zA sv)))] ++ pl) zh [.ref ox, .int (zI (x)), .int (zI (y)), .int (zI (z)), .ref ou]) (mwI (S := (Nat → Bool) × (Int64)) (fun r uq => (r = 0 ∧ (0 ≤ x ∧ x ≤ 1 ∧ 0 ≤ y ∧ y < tc ∧ 0 ≤ z ∧ z < tc) ∧ ((gtO x rk wt (TH y.toNat) (TE y.toNat) (TM y.toNat) (tn y.toNat) (TH z.toNat) (TE z.toNat) (TM z.toNat) (tn z.toNat)) → uq.2 = 1) ∧ (¬ (gtO x rk wt (TH y.toNat) (TE y.toNat) (TM y.toNat) (tn y.toNat) (TH z.toNat) (TE z.toNat) (TM z.toNat) (tn z.toNat)) → uq.2 = 0)) ∨ (r = 1 ∧ ¬ (0 ≤ x ∧ x ≤ 1 ∧ 0 ≤ y ∧ y < tc ∧ 0 ≤ z ∧ z < tc))) (fun uq tq => mwB (dC, dI) qcl (qty cI cZ cT cJ) (va_A [(oG, .inl (cZ, 256, .inl (zB gr))), (ou, .inl (cJ, 1, .inr (.inl (fun _ => ot))))] zh) [(oG, .inl (cZ, 256, .inl (zB uq.1))), (ou, .inl (cJ, 1, .inr (.inl (fun _ => uq.2))))] tq) (va_A [(oG, .inl (cZ, 256, .inl (zB gr))), (ou, .inl (cJ, 1, .inr (.inl (fun _ => ot))))] zh)) (vx_X (S := Unit) (fun _ => True) (fun E uq tq => (False) ∧ mwB (dC, dI) qcl (qty cI cZ cT cJ) (va_A [(oG, .inl (cZ, 256, .inl (zB gr))), (ou, .inl (cJ, 1, .inr (.inl (fun _ => ot))))] zh) [(oG, .inl (cZ, 256, .inl (zB gr))), (ou, .inl (cJ, 1, .inr (.inl (fun _ => ot))))] tq) (va_A [(oG, .inl (cZ, 256, .inl (zB gr))), (ou, .inl (cJ, 1, .inr (.inl (fun _ => ot))))] zh)) 1 6 (va_A [(oG, .inl (cZ, 256, .inl (zB gr))), (ou, .inl (cJ, 1, .inr (.inl (fun _ => ot))))] zh) := by
  refine vx_ofWH (cc := qc_L_greater) (maxL := 6) (ret := (Option.some Jvm.ClassFile.FieldType.int)) (hh := [((0 : Nat), (19 : Nat), (22 : Nat), (13 : Nat))]) (by decide) rfl ?_
  intro pg eg sg mg args below meth cg s₁ B hml hv
  obtain ⟨rfl, ⟨hsz, hP, hF0, hK, hN, hD0, hap⟩, hE⟩ := hv
  have hx := B.exec
  have hb := B.bytes
  have hr := B.returns
  have hts := atoms_spec (ws := qw_L_greater) B.pre
  have hg : ∀ w ∈ gw, w.before _ sg = true := fun w h => hts w (List.mem_cons_of_mem _ h)
  have htb := vx_table (x := qy_L_greater) B (hts _ List.mem_cons_self)
  have hown : sg.vm.findClass "TermOrdersLaw" = some mg.cls := findClass_of_methodNamed B.named
  have hlocks := B.notSynchronized
  have hl := lv_entry ([.ref ox, .int (zI (x)), .int (zI (y)), .int (zI (z)), .ref ou]) (n := 6) (Nat.le_of_ble_eq_true rfl)
  rw [lg_entry_eq]
  generalize (lg_sl ([.ref ox, .int (zI (x)), .int (zI (y)), .int (zI (z)), .ref ou]) ++ List.replicate (6 - (lg_sl ([.ref ox, .int (zI (x)), .int (zI (y)), .int (zI (z)), .ref ou])).length) Slot.unset).toArray = ls at hl ⊢
  subst hsz
  have hD := hD0.self (sz := sg.heap.size)
  have hFA := apw_A hap (fun k q hk => (hF0 k q hk).lt)
  generalize hAe : va_A [(oG, .inl (cZ, 256, .inl (zB gr))), (ou, .inl (cJ, 1, .inr (.inl (fun _ => ot))))] sg.heap.size = A at hD hFA hE ⊢
  have hA : ∀ q : Nat, sg.heap.size ≤ q → A q := fun q h => by rw [← hAe]; exact Or.inr h
  have hS : va_S A sg.heap sg.heap [] := va_S.rf
  have hF := hF0
  have hl : lv_has ls 6 [(0, .ref ox), (1, .int (zI (x))), (2, .int (zI (y))), (3, .int (zI (z))), (4, .ref ou)] := hl
  refine lv_aload hx hb qd_L_greater_0 (lv_at hl 4 rfl) ?_
  refine lv_iconst (v := zI 0) hx hb qd_L_greater_2 rfl ?_
  refine lv_aload_n hx hb qd_L_greater_3 rfl (lv_at hl 0 rfl) ?_
  refine lv_iload_n hx hb qd_L_greater_4 rfl (lv_at hl 1 rfl) ?_
  refine lv_iload_n hx hb qd_L_greater_5 rfl (lv_at hl 2 rfl) ?_
  refine lv_iload_n hx hb qd_L_greater_6 rfl (lv_at hl 3 rfl) ?_
  have hPc := hP.sub (ws' := [(oG, .inl (cZ, 256, .inl (zB gr)))]) [0] rfl
  have hDc := hD.sub (ws' := [(oG, .inl (cZ, 256, .inl (zB gr)))]) [0] (by decide) rfl
  have hFr := va_free (wc := [(oG, .inl (cZ, 256, .inl (zB gr)))]) hD hS hA [0] rfl
  refine mx_callO (vx_runV (As := [.int (zI (x)), .int (zI (y)), .int (zI (z))]) (rest := [.int (zI (0)), .ref ou]) ⟨hx, hb, hml, hown, hg⟩ (c_X_greater l dC dI cI cZ cT cJ ox o aA aR aW aV sy ar rk wt sv od dH dP dE dT dz dt hd pcs de dh orr rL rR rB rc lf rf bd og oG gr ta tH tP tE tn TH TM TE TG HT LI RI pl tc xT tf x y z sg.heap.size hst hsy har hrk hwt htc htf htp h32x h32y h32z) ⟨callB_of 3 hg (gw_ok (fun _ h => h) wd_426) rfl rfl rfl (hg _ wd_1) (hg _ wd_423) (by decide +kernel) ⟨Nat.le_of_ble_eq_true rfl, Nat.le_of_ble_eq_true rfl⟩, hg _ wd_424, hg _ wd_425⟩ (mx_preV (va_recv (q0 := 0) hK hF rfl rfl) hPc (pw_c (q := (ox, .inr (5, [.ref o, .ref od, .ref xT, .ref orr, .ref og, .int (zI (↑tc))]))) hF 0 rfl (pw_c (q := (xT, .inl (cT, 160, .inr (.inr (.inr (.inr tf)))))) hF 1 rfl (pw_c (q := (og, .inr (3, [.ref o, .ref oG]))) hF 2 rfl (pw_c (q := (o, .inr (0, [.ref aA, .ref aR, .ref aW, .ref aV, .int (zI (↑sy))]))) hF 3 rfl (pw_c (q := (aA, .inl (cI, 5, .inl (zA ar)))) hF 4 rfl (pw_c (q := (aR, .inl (cI, 5, .inl (zA rk)))) hF 5 rfl (pw_c (q := (aW, .inl (cI, 5, .inl (zA wt)))) hF 6 rfl (pw_c (q := (aV, .inl (cI, 5, .inl (zA sv)))) hF 7 rfl (pw_tail [(ox, .inr (5, [.ref o, .ref od, .ref xT, .ref orr, .ref og, .int (zI (↑tc))])), (xT, .inl (cT, 160, .inr (.inr (.inr (.inr tf))))), (og, .inr (3, [.ref o, .ref oG])), (o, .inr (0, [.ref aA, .ref aR, .ref aW, .ref aV, .int (zI (↑sy))])), (aA, .inl (cI, 5, .inl (zA ar))), (aR, .inl (cI, 5, .inl (zA rk))), (aW, .inl (cI, 5, .inl (zA wt))), (aV, .inl (cI, 5, .inl (zA sv)))] hF))))))))) hK hN hDc (apw_c (q := (ox, .inr (5, [.ref o, .ref od, .ref xT, .ref orr, .ref og, .int (zI (↑tc))]))) (apw_f hD [0] rfl (hFA 0 _ rfl)) (apw_c (q := (xT, .inl (cT, 160, .inr (.inr (.inr (.inr tf)))))) (apw_f hD [0] rfl (hFA 1 _ rfl)) (apw_c (q := (og, .inr (3, [.ref o, .ref oG]))) (apw_f hD [0] rfl (hFA 2 _ rfl)) (apw_c (q := (o, .inr (0, [.ref aA, .ref aR, .ref aW, .ref aV, .int (zI (↑sy))]))) (apw_f hD [0] rfl (hFA 3 _ rfl)) (apw_c (q := (aA, .inl (cI, 5, .inl (zA ar)))) (apw_f hD [0] rfl (hFA 4 _ rfl)) (apw_c (q := (aR, .inl (cI, 5, .inl (zA rk)))) (apw_f hD [0] rfl (hFA 5 _ rfl)) (apw_c (q := (aW, .inl (cI, 5, .inl (zA wt)))) (apw_f hD [0] rfl (hFA 6 _ rfl)) (apw_c (q := (aV, .inl (cI, 5, .inl (zA sv)))) (apw_f hD [0] rfl (hFA 7 _ rfl)) (apw_pool hD [0] rfl (hA_tail [(ox, .inr (5, [.ref o, .ref od, .ref xT, .ref orr, .ref og, .int (zI (↑tc))])), (xT, .inl (cT, 160, .inr (.inr (.inr (.inr tf))))), (og, .inr (3, [.ref o, .ref oG])), (o, .inr (0, [.ref aA, .ref aR, .ref aW, .ref aV, .int (zI (↑sy))])), (aA, .inl (cI, 5, .inl (zA ar))), (aR, .inl (cI, 5, .inl (zA rk))), (aW, .inl (cI, 5, .inl (zA wt))), (aV, .inl (cI, 5, .inl (zA sv)))] hFA)))))))))) (exH.narrow (exH.kept hE hS.2.1) hFr)) rfl rfl hl.1 rfl (lv_room (Nat.le_of_ble_eq_true rfl)) qd_L_greater_7 ⟨Nat.le_of_ble_eq_true rfl, Nat.le_of_ble_eq_true rfl⟩) hS (fun q _ h => hFr q h) hFr (fun q _ h => hFr q h) (fun E9 ce9 q9 u9 t9 H7_1 L7_1 ht9 hv9 _ hx7 hz9 hk9 hS hc9 hcv9 hcl9 => ?_) (fun r7 g8 t9 H7_1 L7_1 ht9 hv9 hr7 hB9 hz9 hk9 hS => ?_)
  · skip
    obtain ⟨hx7, hB9⟩ := hx7
    try dsimp only at hx7 hB9
    obtain ⟨hP, hD⟩ := mw_join (wr := [(ou, .inl (cJ, 1, .inr (.inl (fun _ => ot))))]) (w1 := [(oG, .inl (cZ, 256, .inl (zB gr)))]) hP hD [0] [1] rfl rfl (by decide) (by decide) hk9 hFr ht9 hB9
    have hP := hP.sub (ws' := [(oG, .inl (cZ, 256, .inl (zB gr))), (ou, .inl (cJ, 1, .inr (.inl (fun _ => ot))))]) [1, 0] rfl
    have hD := hD.sub (ws' := [(oG, .inl (cZ, 256, .inl (zB gr))), (ou, .inl (cJ, 1, .inr (.inl (fun _ => ot))))]) [1, 0] (by decide) rfl
    have hF := fz_keep hF0 hFA hS
    obtain ⟨rfl, hcx⟩ := hx7
    refine zx_catch0 (tgt := 22) hown htb rfl (by decide) rfl (hg _ wd_166) (va_Nw.use (isEx_tab rfl) (hE.1 _ (List.mem_of_getElem? (i := 0) rfl))) hc9 hcv9 hcl9 ?_
    refine lv_astore (lv' := [(5, .ref q9), (0, .ref ox), (1, .int (zI (x))), (2, .int (zI (y))), (3, .int (zI (z))), (4, .ref ou)]) hx hb qd_L_greater_22 hl (by decide) rfl (fun ls hl => ?_)
    refine lv_iconst (v := zI 1) hx hb qd_L_greater_24 rfl ?_
    refine vx_ret ?_
    exact W.iret (v := zI 1) hx hb hr (fun t9 ht9 hW9 => ⟨⟨1, (gr, ot), rfl, (Or.inr ⟨rfl, hcx⟩), mwB_i (by rw [ht9]; exact hP) (va_K.moved hW9.alike hK) hD⟩, hS.F ht9⟩) hS.2.2 qd_L_greater_25
  · skip
    try dsimp only at hr7 hB9
    obtain ⟨hP, hD⟩ := mw_join (wr := [(ou, .inl (cJ, 1, .inr (.inl (fun _ => ot))))]) (w1 := [(oG, .inl (cZ, 256, .inl (zB g8)))]) hP hD [0] [1] rfl rfl (by decide) (by decide) hk9 hFr ht9 hB9
    have hP := hP.sub (ws' := [(oG, .inl (cZ, 256, .inl (zB g8))), (ou, .inl (cJ, 1, .inr (.inl (fun _ => ot))))]) [1, 0] rfl
    have hD := hD.sub (ws' := [(oG, .inl (cZ, 256, .inl (zB g8))), (ou, .inl (cJ, 1, .inr (.inl (fun _ => ot))))]) [1, 0] (by decide) rfl
    have hF := fz_keep hF0 hFA hS
    refine zz_ifeqB (tgt := 17) hx hb qd_L_greater_10 (by decide) (fun h10 => ?_) (fun h10 => ?_)
    · skip
      refine lv_lconst (v := 0) hx hb qd_L_greater_17 rfl ?_
      refine zj_last hx hb hK hP hD hS 1 rfl rfl qd_L_greater_18 (fun H18_2 L18_2 hP hD hS => ?_)
      have hP : va_P (dC, dI) qcl [(oG, .inl (cZ, 256, .inl (zB g8))), (ou, .inl (cJ, 1, .inr (.inl (fun _ => 0))))] H18_2 := hP
      have hD : va_D A [(oG, .inl (cZ, 256, .inl (zB g8))), (ou, .inl (cJ, 1, .inr (.inl (fun _ => 0))))] := hD
      have hF := fz_keep hF0 hFA hS
      refine lv_goto (tgt := 26) hx hb qd_L_greater_19 (by decide) ?_
      refine lv_iconst (v := zI 0) hx hb qd_L_greater_26 rfl ?_
      refine vx_ret ?_
      exact W.iret (v := zI 0) hx hb hr (fun t9 ht9 hW9 => ⟨⟨0, (g8, 0), rfl, (Or.inl ⟨rfl, hr7.1, fun z9 => (by rw [hr7.2.mpr z9] at h10; exact Bool.noConfusion h10), fun _ => rfl⟩), mwB_i (by rw [ht9]; exact hP) (va_K.moved hW9.alike hK) hD⟩, hS.F ht9⟩) hS.2.2 qd_L_greater_27
    · skip
      refine lv_lconst (v := 1) hx hb qd_L_greater_13 rfl ?_
      refine lv_goto (tgt := 18) hx hb qd_L_greater_14 (by decide) ?_
      refine zj_last hx hb hK hP hD hS 1 rfl rfl qd_L_greater_18 (fun H18_3 L18_3 hP hD hS => ?_)
      have hP : va_P (dC, dI) qcl [(oG, .inl (cZ, 256, .inl (zB g8))), (ou, .inl (cJ, 1, .inr (.inl (fun _ => 1))))] H18_3 := hP
      have hD : va_D A [(oG, .inl (cZ, 256, .inl (zB g8))), (ou, .inl (cJ, 1, .inr (.inl (fun _ => 1))))] := hD
      have hF := fz_keep hF0 hFA hS
      refine lv_goto (tgt := 26) hx hb qd_L_greater_19 (by decide) ?_
      refine lv_iconst (v := zI 0) hx hb qd_L_greater_26 rfl ?_
      refine vx_ret ?_
      exact W.iret (v := zI 0) hx hb hr (fun t9 ht9 hW9 => ⟨⟨0, (g8, 1), rfl, (Or.inl ⟨rfl, hr7.1, fun _ => rfl, fun z9 => absurd (hr7.2.mp h10) z9⟩), mwB_i (by rw [ht9]; exact hP) (va_K.moved hW9.alike hK) hD⟩, hS.F ht9⟩) hS.2.2 qd_L_greater_27
set_option maxHeartbeats 4000000 in
set_option maxRecDepth 100000 in
theorem c_L_same (l : Launch) (dC : Nat → ClassId) (dI : Nat → Nat → Nat) (cI cZ cT cJ : ClassId) (ox : Nat) (o aA aR aW aV sy : Nat) (ar rk wt sv : Nat → Int) (od dH dP dE dT dz : Nat) (dt : Bool) (hd pcs : Nat → Int) (de : Nat → Nat) (dh : Nat → Int) (orr rL rR rB rc : Nat) (lf rf : Nat → Option Nat) (bd : Nat → Int) (og oG : Nat) (gr : Nat → Bool) (ta tH tP tE tn : Nat → Nat) (TH TM : Nat → Nat → Int) (TE : Nat → Nat → Nat) (TG : Nat → Int) (HT : Nat → Nat → Int) (LI RI : Nat → Nat) (pl : va_W) (tc : Nat) (xT : Nat) (tf : Nat → Option Nat) (ou : Nat) (ot : Int64) (x y : Int) (zh : Nat) (hst : l.stackTraces = false) (hsy : sy ≤ 5) (htc : tc ≤ 160) (htf : ∀ t, t < tc → tf t = some (ta t)) (htp : ∀ t, t < tc → okT sy ar (tn t) (TH t) (TM t) (TE t) (HT t) ∧ tin pl cI (ta t) (tH t) (tP t) (tE t) (tn t) (TH t) (TM t) (TE t) (TG t)) (h32x : -2147483648 ≤ x ∧ x < 2147483648) (h32y : -2147483648 ≤ y ∧ y < 2147483648) : vx_Met l qy_L_same qw_L_same ({ frames := 8, cells := 1, slots := 6, locals := 143 }) (mxP (dC, dI) qcl (qty cI cZ cT cJ) nwL [(ou, .inl (cJ, 1, .inr (.inl (fun _ => ot))))] ([(ox, .inr (5, [.ref o, .ref od, .ref xT, .ref orr, .ref og, .int (zI (↑tc))])), (xT, .inl (cT, 160, .inr (.inr (.inr (.inr tf)))))] ++ pl) zh [.ref ox, .int (zI (x)), .int (zI (y)), .ref ou]) (mwI (S := (Int64)) (fun r uq => (r = 0 ∧ (0 ≤ x ∧ x < tc ∧ 0 ≤ y ∧ y < tc) ∧ ((smP (TH x.toNat) (TE x.toNat) 0 (TH y.toNat) (TE y.toNat) 0) → uq = 1) ∧ (¬ (smP (TH x.toNat) (TE x.toNat) 0 (TH y.toNat) (TE y.toNat) 0) → uq = 0)) ∨ (r = 1 ∧ ¬ (0 ≤ x ∧ x < tc ∧ 0 ≤ y ∧ y < tc))) (fun uq tq => mwB (dC, dI) qcl (qty cI cZ cT cJ) (va_A [(ou, .inl (cJ, 1, .inr (.inl (fun _ => ot))))] zh) [(ou, .inl (cJ, 1, .inr (.inl (fun _ => uq))))] tq) (va_A [(ou, .inl (cJ, 1, .inr (.inl (fun _ => ot))))] zh)) (vx_X (S := Unit) (fun _ => True) (fun E uq tq => (False) ∧ mwB (dC, dI) qcl (qty cI cZ cT cJ) (va_A [(ou, .inl (cJ, 1, .inr (.inl (fun _ => ot))))] zh) [(ou, .inl (cJ, 1, .inr (.inl (fun _ => ot))))] tq) (va_A [(ou, .inl (cJ, 1, .inr (.inl (fun _ => ot))))] zh)) 1 6 (va_A [(ou, .inl (cJ, 1, .inr (.inl (fun _ => ot))))] zh) := by
  refine vx_ofWH (cc := qc_L_same) (maxL := 5) (ret := (Option.some Jvm.ClassFile.FieldType.int)) (hh := [((0 : Nat), (17 : Nat), (20 : Nat), (13 : Nat))]) (by decide) rfl ?_
  intro pg eg sg mg args below meth cg s₁ B hml hv
  obtain ⟨rfl, ⟨hsz, hP, hF0, hK, hN, hD0, hap⟩, hE⟩ := hv
  have hx := B.exec
  have hb := B.bytes
  have hr := B.returns
  have hts := atoms_spec (ws := qw_L_same) B.pre
  have hg : ∀ w ∈ gw, w.before _ sg = true := fun w h => hts w (List.mem_cons_of_mem _ h)
  have htb := vx_table (x := qy_L_same) B (hts _ List.mem_cons_self)
  have hown : sg.vm.findClass "TermOrdersLaw" = some mg.cls := findClass_of_methodNamed B.named
  have hlocks := B.notSynchronized
  have hl := lv_entry ([.ref ox, .int (zI (x)), .int (zI (y)), .ref ou]) (n := 5) (Nat.le_of_ble_eq_true rfl)
  rw [lg_entry_eq]
  generalize (lg_sl ([.ref ox, .int (zI (x)), .int (zI (y)), .ref ou]) ++ List.replicate (5 - (lg_sl ([.ref ox, .int (zI (x)), .int (zI (y)), .ref ou])).length) Slot.unset).toArray = ls at hl ⊢
  subst hsz
  have hD := hD0.self (sz := sg.heap.size)
  have hFA := apw_A hap (fun k q hk => (hF0 k q hk).lt)
  generalize hAe : va_A [(ou, .inl (cJ, 1, .inr (.inl (fun _ => ot))))] sg.heap.size = A at hD hFA hE ⊢
  have hA : ∀ q : Nat, sg.heap.size ≤ q → A q := fun q h => by rw [← hAe]; exact Or.inr h
  have hS : va_S A sg.heap sg.heap [] := va_S.rf
  have hF := hF0
  have hl : lv_has ls 5 [(0, .ref ox), (1, .int (zI (x))), (2, .int (zI (y))), (3, .ref ou)] := hl
  refine lv_aload_n hx hb qd_L_same_0 rfl (lv_at hl 3 rfl) ?_
  refine lv_iconst (v := zI 0) hx hb qd_L_same_1 rfl ?_
  refine lv_aload_n hx hb qd_L_same_2 rfl (lv_at hl 0 rfl) ?_
  refine lv_iload_n hx hb qd_L_same_3 rfl (lv_at hl 1 rfl) ?_
  refine lv_iload_n hx hb qd_L_same_4 rfl (lv_at hl 2 rfl) ?_
  have hPc := hP.sub (ws' := []) [] rfl
  have hDc := hD.sub (ws' := []) [] (by decide) rfl
  have hFr := va_free (wc := []) hD hS hA [] rfl
  refine mx_callO (vx_runV (As := [.int (zI (x)), .int (zI (y))]) (rest := [.int (zI (0)), .ref ou]) ⟨hx, hb, hml, hown, hg⟩ (c_X_same l dC dI cI cZ cT cJ ox o aA aR aW aV sy ar rk wt sv od dH dP dE dT dz dt hd pcs de dh orr rL rR rB rc lf rf bd og oG gr ta tH tP tE tn TH TM TE TG HT LI RI pl tc xT tf x y sg.heap.size hst hsy htc htf htp h32x h32y) ⟨callB_of 2 hg (gw_ok (fun _ h => h) wd_491) rfl rfl rfl (hg _ wd_1) (hg _ wd_488) (by decide +kernel) ⟨Nat.le_of_ble_eq_true rfl, Nat.le_of_ble_eq_true rfl⟩, hg _ wd_489, hg _ wd_490⟩ (mx_preV (va_recv (q0 := 0) hK hF rfl rfl) hPc (pw_c (q := (ox, .inr (5, [.ref o, .ref od, .ref xT, .ref orr, .ref og, .int (zI (↑tc))]))) hF 0 rfl (pw_c (q := (xT, .inl (cT, 160, .inr (.inr (.inr (.inr tf)))))) hF 1 rfl (pw_tail [(ox, .inr (5, [.ref o, .ref od, .ref xT, .ref orr, .ref og, .int (zI (↑tc))])), (xT, .inl (cT, 160, .inr (.inr (.inr (.inr tf)))))] hF))) hK hN hDc (apw_c (q := (ox, .inr (5, [.ref o, .ref od, .ref xT, .ref orr, .ref og, .int (zI (↑tc))]))) (apw_f hD [] rfl (hFA 0 _ rfl)) (apw_c (q := (xT, .inl (cT, 160, .inr (.inr (.inr (.inr tf)))))) (apw_f hD [] rfl (hFA 1 _ rfl)) (apw_pool hD [] rfl (hA_tail [(ox, .inr (5, [.ref o, .ref od, .ref xT, .ref orr, .ref og, .int (zI (↑tc))])), (xT, .inl (cT, 160, .inr (.inr (.inr (.inr tf)))))] hFA)))) (exH.narrow (exH.kept hE hS.2.1) hFr)) rfl rfl hl.1 rfl (lv_room (Nat.le_of_ble_eq_true rfl)) qd_L_same_5 ⟨Nat.le_of_ble_eq_true rfl, Nat.le_of_ble_eq_true rfl⟩) hS (fun q _ h => hFr q h) hFr (fun q _ h => hFr q h) (fun E9 ce9 q9 u9 t9 H5_1 L5_1 ht9 hv9 _ hx5 hz9 hk9 hS hc9 hcv9 hcl9 => ?_) (fun r5 u9 t9 H5_1 L5_1 ht9 hv9 hr5 hB9 hz9 hk9 hS => ?_)
  · skip
    obtain ⟨hx5, hB9⟩ := hx5
    try dsimp only at hx5 hB9
    obtain ⟨hP, hD⟩ := mw_join (wr := [(ou, .inl (cJ, 1, .inr (.inl (fun _ => ot))))]) (w1 := []) hP hD [] [0] rfl rfl (by decide) (by decide) hk9 hFr ht9 hB9
    have hP := hP.sub (ws' := [(ou, .inl (cJ, 1, .inr (.inl (fun _ => ot))))]) [0] rfl
    have hD := hD.sub (ws' := [(ou, .inl (cJ, 1, .inr (.inl (fun _ => ot))))]) [0] (by decide) rfl
    have hF := fz_keep hF0 hFA hS
    obtain ⟨rfl, hcx⟩ := hx5
    refine zx_catch0 (tgt := 20) hown htb rfl (by decide) rfl (hg _ wd_166) (va_Nw.use (isEx_tab rfl) (hE.1 _ (List.mem_of_getElem? (i := 0) rfl))) hc9 hcv9 hcl9 ?_
    refine lv_astore (lv' := [(4, .ref q9), (0, .ref ox), (1, .int (zI (x))), (2, .int (zI (y))), (3, .ref ou)]) hx hb qd_L_same_20 hl (by decide) rfl (fun ls hl => ?_)
    refine lv_iconst (v := zI 1) hx hb qd_L_same_22 rfl ?_
    refine vx_ret ?_
    exact W.iret (v := zI 1) hx hb hr (fun t9 ht9 hW9 => ⟨⟨1, ot, rfl, (Or.inr ⟨rfl, hcx⟩), mwB_i (by rw [ht9]; exact hP) (va_K.moved hW9.alike hK) hD⟩, hS.F ht9⟩) hS.2.2 qd_L_same_23
  · skip
    obtain ⟨hP, hD⟩ := mw_join (wr := [(ou, .inl (cJ, 1, .inr (.inl (fun _ => ot))))]) (w1 := []) hP hD [] [0] rfl rfl (by decide) (by decide) hk9 hFr ht9 hB9
    have hP := hP.sub (ws' := [(ou, .inl (cJ, 1, .inr (.inl (fun _ => ot))))]) [0] rfl
    have hD := hD.sub (ws' := [(ou, .inl (cJ, 1, .inr (.inl (fun _ => ot))))]) [0] (by decide) rfl
    have hF := fz_keep hF0 hFA hS
    refine zz_ifeqB (tgt := 15) hx hb qd_L_same_8 (by decide) (fun h8 => ?_) (fun h8 => ?_)
    · skip
      refine lv_lconst (v := 0) hx hb qd_L_same_15 rfl ?_
      refine zj_last hx hb hK hP hD hS 0 rfl rfl qd_L_same_16 (fun H16_2 L16_2 hP hD hS => ?_)
      have hP : va_P (dC, dI) qcl [(ou, .inl (cJ, 1, .inr (.inl (fun _ => 0))))] H16_2 := hP
      have hD : va_D A [(ou, .inl (cJ, 1, .inr (.inl (fun _ => 0))))] := hD
      have hF := fz_keep hF0 hFA hS
      refine lv_goto (tgt := 24) hx hb qd_L_same_17 (by decide) ?_
      refine lv_iconst (v := zI 0) hx hb qd_L_same_24 rfl ?_
      refine vx_ret ?_
      exact W.iret (v := zI 0) hx hb hr (fun t9 ht9 hW9 => ⟨⟨0, 0, rfl, (Or.inl ⟨rfl, hr5.1, fun z9 => (by rw [hr5.2.mpr z9] at h8; exact Bool.noConfusion h8), fun _ => rfl⟩), mwB_i (by rw [ht9]; exact hP) (va_K.moved hW9.alike hK) hD⟩, hS.F ht9⟩) hS.2.2 qd_L_same_25
    · skip
      refine lv_lconst (v := 1) hx hb qd_L_same_11 rfl ?_
      refine lv_goto (tgt := 16) hx hb qd_L_same_12 (by decide) ?_
      refine zj_last hx hb hK hP hD hS 0 rfl rfl qd_L_same_16 (fun H16_3 L16_3 hP hD hS => ?_)
      have hP : va_P (dC, dI) qcl [(ou, .inl (cJ, 1, .inr (.inl (fun _ => 1))))] H16_3 := hP
      have hD : va_D A [(ou, .inl (cJ, 1, .inr (.inl (fun _ => 1))))] := hD
      have hF := fz_keep hF0 hFA hS
      refine lv_goto (tgt := 24) hx hb qd_L_same_17 (by decide) ?_
      refine lv_iconst (v := zI 0) hx hb qd_L_same_24 rfl ?_
      refine vx_ret ?_
      exact W.iret (v := zI 0) hx hb hr (fun t9 ht9 hW9 => ⟨⟨0, 1, rfl, (Or.inl ⟨rfl, hr5.1, fun _ => rfl, fun z9 => absurd (hr5.2.mp h8) z9⟩), mwB_i (by rw [ht9]; exact hP) (va_K.moved hW9.alike hK) hD⟩, hS.F ht9⟩) hS.2.2 qd_L_same_25
set_option maxHeartbeats 4000000 in
set_option maxRecDepth 100000 in
theorem c_L_oriented (l : Launch) (dC : Nat → ClassId) (dI : Nat → Nat → Nat) (cI cZ cT cJ : ClassId) (ox : Nat) (o aA aR aW aV sy : Nat) (ar rk wt sv : Nat → Int) (od dH dP dE dT dz : Nat) (dt : Bool) (hd pcs : Nat → Int) (de : Nat → Nat) (dh : Nat → Int) (orr rL rR rB rc : Nat) (lf rf : Nat → Option Nat) (bd : Nat → Int) (og oG : Nat) (gr : Nat → Bool) (ta tH tP tE tn : Nat → Nat) (TH TM : Nat → Nat → Int) (TE : Nat → Nat → Nat) (TG : Nat → Int) (HT : Nat → Nat → Int) (LI RI : Nat → Nat) (pl : va_W) (tc : Nat) (xT : Nat) (tf : Nat → Option Nat) (ou : Nat) (ot : Int64) (x : Int) (zh : Nat) (hst : l.stackTraces = false) (hsy : sy ≤ 5) (har : ∀ q, q < 5 → 0 ≤ ar q ∧ ar q ≤ 3) (hrk : ∀ q, q < 5 → 0 ≤ rk q ∧ rk q ≤ 4) (hwt : ∀ q, q < 5 → 0 ≤ wt q ∧ wt q ≤ 9) (htp : ∀ t, t < tc → okT sy ar (tn t) (TH t) (TM t) (TE t) (HT t) ∧ tin pl cI (ta t) (tH t) (tP t) (tE t) (tn t) (TH t) (TM t) (TE t) (TG t)) (hlr : ∀ r, r < rc → LI r < tc ∧ RI r < tc ∧ lf r = some (ta (LI r)) ∧ rf r = some (ta (RI r)) ∧ ∀ q, q < tn (RI r) → TH (RI r) q < 0 → ∃ k, k < tn (LI r) ∧ TH (LI r) k = TH (RI r) q) (hrc : rc ≤ 8) (h32x : -2147483648 ≤ x ∧ x < 2147483648) : vx_Met l qy_L_oriented qw_L_oriented ({ frames := 8, cells := 1, slots := 6, locals := 146 }) (mxP (dC, dI) qcl (qty cI cZ cT cJ) nwL [(oG, .inl (cZ, 256, .inl (zB gr))), (ou, .inl (cJ, 1, .inr (.inl (fun _ => ot))))] ([(ox, .inr (5, [.ref o, .ref od, .ref xT, .ref orr, .ref og, .int (zI (↑tc))])), (orr, .inr (4, [.ref rL, .ref rR, .ref rB, .int (zI (↑rc))])), (rL, .inl (cT, 8, .inr (.inr (.inr (.inr lf))))), (rR, .inl (cT, 8, .inr (.inr (.inr (.inr rf))))), (og, .inr (3, [.ref o, .ref oG])), (o, .inr (0, [.ref aA, .ref aR, .ref aW, .ref aV, .int (zI (↑sy))])), (aA, .inl (cI, 5, .inl (zA ar))), (aR, .inl (cI, 5, .inl (zA rk))), (aW, .inl (cI, 5, .inl (zA wt))), (aV, .inl (cI, 5, .inl (zA sv)))] ++ pl) zh [.ref ox, .int (zI (x)), .ref ou]) (mwI (S := (Nat → Bool) × (Int64)) (fun r uq => (r = 0 ∧ (0 ≤ x ∧ x ≤ 1) ∧ uq.2 = (obI (fun r => gtO x rk wt (TH (LI r)) (TE (LI r)) (TM (LI r)) (tn (LI r)) (TH (RI r)) (TE (RI r)) (TM (RI r)) (tn (RI r))) rc).toInt64) ∨ (r = 1 ∧ ¬ (0 ≤ x ∧ x ≤ 1))) (fun uq tq => mwB (dC, dI) qcl (qty cI cZ cT cJ) (va_A [(oG, .inl (cZ, 256, .inl (zB gr))), (ou, .inl (cJ, 1, .inr (.inl (fun _ => ot))))] zh) [(oG, .inl (cZ, 256, .inl (zB uq.1))), (ou, .inl (cJ, 1, .inr (.inl (fun _ => uq.2))))] tq) (va_A [(oG, .inl (cZ, 256, .inl (zB gr))), (ou, .inl (cJ, 1, .inr (.inl (fun _ => ot))))] zh)) (vx_X (S := Unit) (fun _ => True) (fun E uq tq => (False) ∧ mwB (dC, dI) qcl (qty cI cZ cT cJ) (va_A [(oG, .inl (cZ, 256, .inl (zB gr))), (ou, .inl (cJ, 1, .inr (.inl (fun _ => ot))))] zh) [(oG, .inl (cZ, 256, .inl (zB gr))), (ou, .inl (cJ, 1, .inr (.inl (fun _ => ot))))] tq) (va_A [(oG, .inl (cZ, 256, .inl (zB gr))), (ou, .inl (cJ, 1, .inr (.inl (fun _ => ot))))] zh)) 1 6 (va_A [(oG, .inl (cZ, 256, .inl (zB gr))), (ou, .inl (cJ, 1, .inr (.inl (fun _ => ot))))] zh) := by
  refine vx_ofWH (cc := qc_L_oriented) (maxL := 4) (ret := (Option.some Jvm.ClassFile.FieldType.int)) (hh := [((0 : Nat), (9 : Nat), (12 : Nat), (13 : Nat))]) (by decide) rfl ?_
  intro pg eg sg mg args below meth cg s₁ B hml hv
  obtain ⟨rfl, ⟨hsz, hP, hF0, hK, hN, hD0, hap⟩, hE⟩ := hv
  have hx := B.exec
  have hb := B.bytes
  have hr := B.returns
  have hts := atoms_spec (ws := qw_L_oriented) B.pre
  have hg : ∀ w ∈ gw, w.before _ sg = true := fun w h => hts w (List.mem_cons_of_mem _ h)
  have htb := vx_table (x := qy_L_oriented) B (hts _ List.mem_cons_self)
  have hown : sg.vm.findClass "TermOrdersLaw" = some mg.cls := findClass_of_methodNamed B.named
  have hlocks := B.notSynchronized
  have hl := lv_entry ([.ref ox, .int (zI (x)), .ref ou]) (n := 4) (Nat.le_of_ble_eq_true rfl)
  rw [lg_entry_eq]
  generalize (lg_sl ([.ref ox, .int (zI (x)), .ref ou]) ++ List.replicate (4 - (lg_sl ([.ref ox, .int (zI (x)), .ref ou])).length) Slot.unset).toArray = ls at hl ⊢
  subst hsz
  have hD := hD0.self (sz := sg.heap.size)
  have hFA := apw_A hap (fun k q hk => (hF0 k q hk).lt)
  generalize hAe : va_A [(oG, .inl (cZ, 256, .inl (zB gr))), (ou, .inl (cJ, 1, .inr (.inl (fun _ => ot))))] sg.heap.size = A at hD hFA hE ⊢
  have hA : ∀ q : Nat, sg.heap.size ≤ q → A q := fun q h => by rw [← hAe]; exact Or.inr h
  have hS : va_S A sg.heap sg.heap [] := va_S.rf
  have hF := hF0
  have hl : lv_has ls 4 [(0, .ref ox), (1, .int (zI (x))), (2, .ref ou)] := hl
  refine lv_aload_n hx hb qd_L_oriented_0 rfl (lv_at hl 2 rfl) ?_
  refine lv_iconst (v := zI 0) hx hb qd_L_oriented_1 rfl ?_
  refine lv_aload_n hx hb qd_L_oriented_2 rfl (lv_at hl 0 rfl) ?_
  refine lv_iload_n hx hb qd_L_oriented_3 rfl (lv_at hl 1 rfl) ?_
  have hPc := hP.sub (ws' := [(oG, .inl (cZ, 256, .inl (zB gr)))]) [0] rfl
  have hDc := hD.sub (ws' := [(oG, .inl (cZ, 256, .inl (zB gr)))]) [0] (by decide) rfl
  have hFr := va_free (wc := [(oG, .inl (cZ, 256, .inl (zB gr)))]) hD hS hA [0] rfl
  refine vx_calli (vx_runV (As := [.int (zI (x))]) (rest := [.int (zI (0)), .ref ou]) ⟨hx, hb, hml, hown, hg⟩ (c_X_oriented l dC dI cI cZ cT cJ ox o aA aR aW aV sy ar rk wt sv od dH dP dE dT dz dt hd pcs de dh orr rL rR rB rc lf rf bd og oG gr ta tH tP tE tn TH TM TE TG HT LI RI pl tc xT tf x sg.heap.size hst hsy har hrk hwt htp hlr hrc h32x) ⟨callB_of 1 hg (gw_ok (fun _ h => h) wd_499) rfl rfl rfl (hg _ wd_1) (hg _ wd_496) (by decide +kernel) ⟨Nat.le_of_ble_eq_true rfl, Nat.le_of_ble_eq_true rfl⟩, hg _ wd_497, hg _ wd_498⟩ (mx_preV (va_recv (q0 := 0) hK hF rfl rfl) hPc (pw_c (q := (ox, .inr (5, [.ref o, .ref od, .ref xT, .ref orr, .ref og, .int (zI (↑tc))]))) hF 0 rfl (pw_c (q := (orr, .inr (4, [.ref rL, .ref rR, .ref rB, .int (zI (↑rc))]))) hF 1 rfl (pw_c (q := (rL, .inl (cT, 8, .inr (.inr (.inr (.inr lf)))))) hF 2 rfl (pw_c (q := (rR, .inl (cT, 8, .inr (.inr (.inr (.inr rf)))))) hF 3 rfl (pw_c (q := (og, .inr (3, [.ref o, .ref oG]))) hF 4 rfl (pw_c (q := (o, .inr (0, [.ref aA, .ref aR, .ref aW, .ref aV, .int (zI (↑sy))]))) hF 5 rfl (pw_c (q := (aA, .inl (cI, 5, .inl (zA ar)))) hF 6 rfl (pw_c (q := (aR, .inl (cI, 5, .inl (zA rk)))) hF 7 rfl (pw_c (q := (aW, .inl (cI, 5, .inl (zA wt)))) hF 8 rfl (pw_c (q := (aV, .inl (cI, 5, .inl (zA sv)))) hF 9 rfl (pw_tail [(ox, .inr (5, [.ref o, .ref od, .ref xT, .ref orr, .ref og, .int (zI (↑tc))])), (orr, .inr (4, [.ref rL, .ref rR, .ref rB, .int (zI (↑rc))])), (rL, .inl (cT, 8, .inr (.inr (.inr (.inr lf))))), (rR, .inl (cT, 8, .inr (.inr (.inr (.inr rf))))), (og, .inr (3, [.ref o, .ref oG])), (o, .inr (0, [.ref aA, .ref aR, .ref aW, .ref aV, .int (zI (↑sy))])), (aA, .inl (cI, 5, .inl (zA ar))), (aR, .inl (cI, 5, .inl (zA rk))), (aW, .inl (cI, 5, .inl (zA wt))), (aV, .inl (cI, 5, .inl (zA sv)))] hF))))))))))) hK hN hDc (apw_c (q := (ox, .inr (5, [.ref o, .ref od, .ref xT, .ref orr, .ref og, .int (zI (↑tc))]))) (apw_f hD [0] rfl (hFA 0 _ rfl)) (apw_c (q := (orr, .inr (4, [.ref rL, .ref rR, .ref rB, .int (zI (↑rc))]))) (apw_f hD [0] rfl (hFA 1 _ rfl)) (apw_c (q := (rL, .inl (cT, 8, .inr (.inr (.inr (.inr lf)))))) (apw_f hD [0] rfl (hFA 2 _ rfl)) (apw_c (q := (rR, .inl (cT, 8, .inr (.inr (.inr (.inr rf)))))) (apw_f hD [0] rfl (hFA 3 _ rfl)) (apw_c (q := (og, .inr (3, [.ref o, .ref oG]))) (apw_f hD [0] rfl (hFA 4 _ rfl)) (apw_c (q := (o, .inr (0, [.ref aA, .ref aR, .ref aW, .ref aV, .int (zI (↑sy))]))) (apw_f hD [0] rfl (hFA 5 _ rfl)) (apw_c (q := (aA, .inl (cI, 5, .inl (zA ar)))) (apw_f hD [0] rfl (hFA 6 _ rfl)) (apw_c (q := (aR, .inl (cI, 5, .inl (zA rk)))) (apw_f hD [0] rfl (hFA 7 _ rfl)) (apw_c (q := (aW, .inl (cI, 5, .inl (zA wt)))) (apw_f hD [0] rfl (hFA 8 _ rfl)) (apw_c (q := (aV, .inl (cI, 5, .inl (zA sv)))) (apw_f hD [0] rfl (hFA 9 _ rfl)) (apw_pool hD [0] rfl (hA_tail [(ox, .inr (5, [.ref o, .ref od, .ref xT, .ref orr, .ref og, .int (zI (↑tc))])), (orr, .inr (4, [.ref rL, .ref rR, .ref rB, .int (zI (↑rc))])), (rL, .inl (cT, 8, .inr (.inr (.inr (.inr lf))))), (rR, .inl (cT, 8, .inr (.inr (.inr (.inr rf))))), (og, .inr (3, [.ref o, .ref oG])), (o, .inr (0, [.ref aA, .ref aR, .ref aW, .ref aV, .int (zI (↑sy))])), (aA, .inl (cI, 5, .inl (zA ar))), (aR, .inl (cI, 5, .inl (zA rk))), (aW, .inl (cI, 5, .inl (zA wt))), (aV, .inl (cI, 5, .inl (zA sv)))] hFA)))))))))))) (exH.narrow (exH.kept hE hS.2.1) hFr)) rfl rfl hl.1 rfl (lv_room (Nat.le_of_ble_eq_true rfl)) qd_L_oriented_4 ⟨Nat.le_of_ble_eq_true rfl, Nat.le_of_ble_eq_true rfl⟩) hS (fun q _ h => hFr q h) hFr (fun q _ h => hFr q h) (fun E9 ce9 q9 u9 t9 H4_1 L4_1 ht9 hv9 _ hx4 hz9 hk9 hS hc9 hcv9 hcl9 => ?_) (fun r4 g8 t9 H4_1 L4_1 ht9 hv9 hr4 hB9 hz9 hk9 hS => ?_)
  · skip
    obtain ⟨hx4, hB9⟩ := hx4
    try dsimp only at hx4 hB9
    obtain ⟨hP, hD⟩ := mw_join (wr := [(ou, .inl (cJ, 1, .inr (.inl (fun _ => ot))))]) (w1 := [(oG, .inl (cZ, 256, .inl (zB gr)))]) hP hD [0] [1] rfl rfl (by decide) (by decide) hk9 hFr ht9 hB9
    have hP := hP.sub (ws' := [(oG, .inl (cZ, 256, .inl (zB gr))), (ou, .inl (cJ, 1, .inr (.inl (fun _ => ot))))]) [1, 0] rfl
    have hD := hD.sub (ws' := [(oG, .inl (cZ, 256, .inl (zB gr))), (ou, .inl (cJ, 1, .inr (.inl (fun _ => ot))))]) [1, 0] (by decide) rfl
    have hF := fz_keep hF0 hFA hS
    obtain ⟨rfl, hcx⟩ := hx4
    refine zx_catch0 (tgt := 12) hown htb rfl (by decide) rfl (hg _ wd_166) (va_Nw.use (isEx_tab rfl) (hE.1 _ (List.mem_of_getElem? (i := 0) rfl))) hc9 hcv9 hcl9 ?_
    refine lv_astore_n (lv' := [(3, .ref q9), (0, .ref ox), (1, .int (zI (x))), (2, .ref ou)]) hx hb qd_L_oriented_12 rfl hl (by decide) rfl (fun ls hl => ?_)
    refine lv_iconst (v := zI 1) hx hb qd_L_oriented_13 rfl ?_
    refine vx_ret ?_
    exact W.iret (v := zI 1) hx hb hr (fun t9 ht9 hW9 => ⟨⟨1, (gr, ot), rfl, (Or.inr ⟨rfl, hcx⟩), mwB_i (by rw [ht9]; exact hP) (va_K.moved hW9.alike hK) hD⟩, hS.F ht9⟩) hS.2.2 qd_L_oriented_14
  · skip
    try dsimp only at hr4 hB9
    obtain ⟨hP, hD⟩ := mw_join (wr := [(ou, .inl (cJ, 1, .inr (.inl (fun _ => ot))))]) (w1 := [(oG, .inl (cZ, 256, .inl (zB g8)))]) hP hD [0] [1] rfl rfl (by decide) (by decide) hk9 hFr ht9 hB9
    have hP := hP.sub (ws' := [(oG, .inl (cZ, 256, .inl (zB g8))), (ou, .inl (cJ, 1, .inr (.inl (fun _ => ot))))]) [1, 0] rfl
    have hD := hD.sub (ws' := [(oG, .inl (cZ, 256, .inl (zB g8))), (ou, .inl (cJ, 1, .inr (.inl (fun _ => ot))))]) [1, 0] (by decide) rfl
    have hF := fz_keep hF0 hFA hS
    obtain ⟨y1, e9⟩ := hr4
    subst e9
    refine lv_i2l (v := ((obI (fun r => gtO x rk wt (TH (LI r)) (TE (LI r)) (TM (LI r)) (tn (LI r)) (TH (RI r)) (TE (RI r)) (TM (RI r)) (tn (RI r))) rc)).toInt64) hx hb qd_L_oriented_7 rfl ?_
    refine zj_last hx hb hK hP hD hS 1 rfl rfl qd_L_oriented_8 (fun H8_2 L8_2 hP hD hS => ?_)
    have hP : va_P (dC, dI) qcl [(oG, .inl (cZ, 256, .inl (zB g8))), (ou, .inl (cJ, 1, .inr (.inl (fun _ => ((obI (fun r => gtO x rk wt (TH (LI r)) (TE (LI r)) (TM (LI r)) (tn (LI r)) (TH (RI r)) (TE (RI r)) (TM (RI r)) (tn (RI r))) rc)).toInt64))))] H8_2 := hP
    have hD : va_D A [(oG, .inl (cZ, 256, .inl (zB g8))), (ou, .inl (cJ, 1, .inr (.inl (fun _ => ((obI (fun r => gtO x rk wt (TH (LI r)) (TE (LI r)) (TM (LI r)) (tn (LI r)) (TH (RI r)) (TE (RI r)) (TM (RI r)) (tn (RI r))) rc)).toInt64))))] := hD
    have hF := fz_keep hF0 hFA hS
    refine lv_goto (tgt := 15) hx hb qd_L_oriented_9 (by decide) ?_
    refine lv_iconst (v := zI 0) hx hb qd_L_oriented_15 rfl ?_
    refine vx_ret ?_
    exact W.iret (v := zI 0) hx hb hr (fun t9 ht9 hW9 => ⟨⟨0, (g8, (obI (fun r => gtO x rk wt (TH (LI r)) (TE (LI r)) (TM (LI r)) (tn (LI r)) (TH (RI r)) (TE (RI r)) (TM (RI r)) (tn (RI r))) rc).toInt64), rfl, (Or.inl ⟨rfl, y1, rfl⟩), mwB_i (by rw [ht9]; exact hP) (va_K.moved hW9.alike hK) hD⟩, hS.F ht9⟩) hS.2.2 qd_L_oriented_16
set_option maxHeartbeats 4000000 in
set_option maxRecDepth 100000 in
theorem c_L_search (l : Launch) (dC : Nat → ClassId) (dI : Nat → Nat → Nat) (cI cZ cT cJ : ClassId) (ox : Nat) (o aA aR aW aV sy : Nat) (ar rk wt sv : Nat → Int) (od dH dP dE dT dz : Nat) (dt : Bool) (hd pcs : Nat → Int) (de : Nat → Nat) (dh : Nat → Int) (orr rL rR rB rc : Nat) (lf rf : Nat → Option Nat) (bd : Nat → Int) (og oG : Nat) (gr : Nat → Bool) (ta tH tP tE tn : Nat → Nat) (TH TM : Nat → Nat → Int) (TE : Nat → Nat → Nat) (TG : Nat → Int) (HT : Nat → Nat → Int) (LI RI : Nat → Nat) (pl : va_W) (tc : Nat) (xT : Nat) (tf : Nat → Option Nat) (ou : Nat) (ot : Int64) (x : Int) (zh : Nat) (hst : l.stackTraces = false) (hsy : sy ≤ 5) (har : ∀ q, q < 5 → 0 ≤ ar q ∧ ar q ≤ 3) (hrk : ∀ q, q < 5 → 0 ≤ rk q ∧ rk q ≤ 4) (hwt : ∀ q, q < 5 → 0 ≤ wt q ∧ wt q ≤ 9) (htp : ∀ t, t < tc → okT sy ar (tn t) (TH t) (TM t) (TE t) (HT t) ∧ tin pl cI (ta t) (tH t) (tP t) (tE t) (tn t) (TH t) (TM t) (TE t) (TG t)) (hlr : ∀ r, r < rc → LI r < tc ∧ RI r < tc ∧ lf r = some (ta (LI r)) ∧ rf r = some (ta (RI r)) ∧ ∀ q, q < tn (RI r) → TH (RI r) q < 0 → ∃ k, k < tn (LI r) ∧ TH (LI r) k = TH (RI r) q) (hrc : rc ≤ 8) (h32x : -2147483648 ≤ x ∧ x < 2147483648) : vx_Met l qy_L_search qw_L_search ({ frames := 8, cells := 1, slots := 6, locals := 168 }) (mxP (dC, dI) qcl (qty cI cZ cT cJ) nwL [(aR, .inl (cI, 5, .inl (zA rk))), (aV, .inl (cI, 5, .inl (zA sv))), (oG, .inl (cZ, 256, .inl (zB gr))), (ou, .inl (cJ, 1, .inr (.inl (fun _ => ot))))] ([(ox, .inr (5, [.ref o, .ref od, .ref xT, .ref orr, .ref og, .int (zI (↑tc))])), (o, .inr (0, [.ref aA, .ref aR, .ref aW, .ref aV, .int (zI (↑sy))])), (aA, .inl (cI, 5, .inl (zA ar))), (aW, .inl (cI, 5, .inl (zA wt))), (orr, .inr (4, [.ref rL, .ref rR, .ref rB, .int (zI (↑rc))])), (rL, .inl (cT, 8, .inr (.inr (.inr (.inr lf))))), (rR, .inl (cT, 8, .inr (.inr (.inr (.inr rf))))), (og, .inr (3, [.ref o, .ref oG]))] ++ pl) zh [.ref ox, .int (zI (x)), .ref ou]) (mwI (S := (Nat → Int) × (Nat → Int) × (Nat → Bool) × (Int64)) (fun r uq => (r = 0 ∧ (0 ≤ x ∧ x ≤ 1) ∧ ((uq.2.2.2 = 1 ∧ ∃ w, w < sy ^ sy ∧ (ds sy w = true ∧ (x = 1 → ∀ us, us < sy → ¬ (ar us = 0 ∧ wt us = 0) ∧ ∀ t, t < sy → ¬ (ar us = 1 ∧ wt us = 0 ∧ t ≠ us ∧ ((rkW sy w rk)) us ≤ ((rkW sy w rk)) t)) ∧ ∀ k, k < rc → gtO x ((rkW sy w rk)) wt (TH (LI k)) (TE (LI k)) (TM (LI k)) (tn (LI k)) (TH (RI k)) (TE (RI k)) (TM (RI k)) (tn (RI k))) ∧ (∀ w1, w1 < w → ¬ (ds sy w1 = true ∧ (x = 1 → ∀ us, us < sy → ¬ (ar us = 0 ∧ wt us = 0) ∧ ∀ t, t < sy → ¬ (ar us = 1 ∧ wt us = 0 ∧ t ≠ us ∧ ((rkW sy w1 rk)) us ≤ ((rkW sy w1 rk)) t)) ∧ ∀ k, k < rc → gtO x ((rkW sy w1 rk)) wt (TH (LI k)) (TE (LI k)) (TM (LI k)) (tn (LI k)) (TH (RI k)) (TE (RI k)) (TM (RI k)) (tn (RI k)))) ∧ uq.1 = rkW sy w rk) ∨ (uq.2.2.2 = 0 ∧ (∀ w, w < sy ^ sy → ¬ (ds sy w = true ∧ (x = 1 → ∀ us, us < sy → ¬ (ar us = 0 ∧ wt us = 0) ∧ ∀ t, t < sy → ¬ (ar us = 1 ∧ wt us = 0 ∧ t ≠ us ∧ ((rkW sy w rk)) us ≤ ((rkW sy w rk)) t)) ∧ ∀ k, k < rc → gtO x ((rkW sy w rk)) wt (TH (LI k)) (TE (LI k)) (TM (LI k)) (tn (LI k)) (TH (RI k)) (TE (RI k)) (TM (RI k)) (tn (RI k)))) ∧ uq.1 = rk))) ∨ (r = 1 ∧ ¬ (0 ≤ x ∧ x ≤ 1) ∧ uq.1 = rk)) (fun uq tq => mwB (dC, dI) qcl (qty cI cZ cT cJ) (va_A [(aR, .inl (cI, 5, .inl (zA rk))), (aV, .inl (cI, 5, .inl (zA sv))), (oG, .inl (cZ, 256, .inl (zB gr))), (ou, .inl (cJ, 1, .inr (.inl (fun _ => ot))))] zh) [(aR, .inl (cI, 5, .inl (zA uq.1))), (aV, .inl (cI, 5, .inl (zA uq.2.1))), (oG, .inl (cZ, 256, .inl (zB uq.2.2.1))), (ou, .inl (cJ, 1, .inr (.inl (fun _ => uq.2.2.2))))] tq) (va_A [(aR, .inl (cI, 5, .inl (zA rk))), (aV, .inl (cI, 5, .inl (zA sv))), (oG, .inl (cZ, 256, .inl (zB gr))), (ou, .inl (cJ, 1, .inr (.inl (fun _ => ot))))] zh)) (vx_X (S := Unit) (fun _ => True) (fun E uq tq => (False) ∧ mwB (dC, dI) qcl (qty cI cZ cT cJ) (va_A [(aR, .inl (cI, 5, .inl (zA rk))), (aV, .inl (cI, 5, .inl (zA sv))), (oG, .inl (cZ, 256, .inl (zB gr))), (ou, .inl (cJ, 1, .inr (.inl (fun _ => ot))))] zh) [(aR, .inl (cI, 5, .inl (zA rk))), (aV, .inl (cI, 5, .inl (zA sv))), (oG, .inl (cZ, 256, .inl (zB gr))), (ou, .inl (cJ, 1, .inr (.inl (fun _ => ot))))] tq) (va_A [(aR, .inl (cI, 5, .inl (zA rk))), (aV, .inl (cI, 5, .inl (zA sv))), (oG, .inl (cZ, 256, .inl (zB gr))), (ou, .inl (cJ, 1, .inr (.inl (fun _ => ot))))] zh)) 1 6 (va_A [(aR, .inl (cI, 5, .inl (zA rk))), (aV, .inl (cI, 5, .inl (zA sv))), (oG, .inl (cZ, 256, .inl (zB gr))), (ou, .inl (cJ, 1, .inr (.inl (fun _ => ot))))] zh) := by
  refine vx_ofWH (cc := qc_L_search) (maxL := 4) (ret := (Option.some Jvm.ClassFile.FieldType.int)) (hh := [((0 : Nat), (16 : Nat), (19 : Nat), (13 : Nat))]) (by decide) rfl ?_
  intro pg eg sg mg args below meth cg s₁ B hml hv
  obtain ⟨rfl, ⟨hsz, hP, hF0, hK, hN, hD0, hap⟩, hE⟩ := hv
  have hx := B.exec
  have hb := B.bytes
  have hr := B.returns
  have hts := atoms_spec (ws := qw_L_search) B.pre
  have hg : ∀ w ∈ gw, w.before _ sg = true := fun w h => hts w (List.mem_cons_of_mem _ h)
  have htb := vx_table (x := qy_L_search) B (hts _ List.mem_cons_self)
  have hown : sg.vm.findClass "TermOrdersLaw" = some mg.cls := findClass_of_methodNamed B.named
  have hlocks := B.notSynchronized
  have hl := lv_entry ([.ref ox, .int (zI (x)), .ref ou]) (n := 4) (Nat.le_of_ble_eq_true rfl)
  rw [lg_entry_eq]
  generalize (lg_sl ([.ref ox, .int (zI (x)), .ref ou]) ++ List.replicate (4 - (lg_sl ([.ref ox, .int (zI (x)), .ref ou])).length) Slot.unset).toArray = ls at hl ⊢
  subst hsz
  have hD := hD0.self (sz := sg.heap.size)
  have hFA := apw_A hap (fun k q hk => (hF0 k q hk).lt)
  generalize hAe : va_A [(aR, .inl (cI, 5, .inl (zA rk))), (aV, .inl (cI, 5, .inl (zA sv))), (oG, .inl (cZ, 256, .inl (zB gr))), (ou, .inl (cJ, 1, .inr (.inl (fun _ => ot))))] sg.heap.size = A at hD hFA hE ⊢
  have hA : ∀ q : Nat, sg.heap.size ≤ q → A q := fun q h => by rw [← hAe]; exact Or.inr h
  have hS : va_S A sg.heap sg.heap [] := va_S.rf
  have hF := hF0
  have hl : lv_has ls 4 [(0, .ref ox), (1, .int (zI (x))), (2, .ref ou)] := hl
  refine lv_aload_n hx hb qd_L_search_0 rfl (lv_at hl 2 rfl) ?_
  refine lv_iconst (v := zI 0) hx hb qd_L_search_1 rfl ?_
  refine lv_aload_n hx hb qd_L_search_2 rfl (lv_at hl 0 rfl) ?_
  refine lv_iload_n hx hb qd_L_search_3 rfl (lv_at hl 1 rfl) ?_
  have hPc := hP.sub (ws' := [(aR, .inl (cI, 5, .inl (zA rk))), (aV, .inl (cI, 5, .inl (zA sv))), (oG, .inl (cZ, 256, .inl (zB gr)))]) [0, 1, 2] rfl
  have hDc := hD.sub (ws' := [(aR, .inl (cI, 5, .inl (zA rk))), (aV, .inl (cI, 5, .inl (zA sv))), (oG, .inl (cZ, 256, .inl (zB gr)))]) [0, 1, 2] (by decide) rfl
  have hFr := va_free (wc := [(aR, .inl (cI, 5, .inl (zA rk))), (aV, .inl (cI, 5, .inl (zA sv))), (oG, .inl (cZ, 256, .inl (zB gr)))]) hD hS hA [0, 1, 2] rfl
  refine mx_callO (vx_runV (As := [.int (zI (x))]) (rest := [.int (zI (0)), .ref ou]) ⟨hx, hb, hml, hown, hg⟩ (c_X_search l dC dI cI cZ cT cJ ox o aA aR aW aV sy ar rk wt sv od dH dP dE dT dz dt hd pcs de dh orr rL rR rB rc lf rf bd og oG gr ta tH tP tE tn TH TM TE TG HT LI RI pl tc xT tf x sg.heap.size hst hsy har hrk hwt htp hlr hrc h32x) ⟨callB_of 1 hg (gw_ok (fun _ h => h) wd_506) rfl rfl rfl (hg _ wd_1) (hg _ wd_503) (by decide +kernel) ⟨Nat.le_of_ble_eq_true rfl, Nat.le_of_ble_eq_true rfl⟩, hg _ wd_504, hg _ wd_505⟩ (mx_preV (va_recv (q0 := 0) hK hF rfl rfl) hPc (pw_c (q := (ox, .inr (5, [.ref o, .ref od, .ref xT, .ref orr, .ref og, .int (zI (↑tc))]))) hF 0 rfl (pw_c (q := (o, .inr (0, [.ref aA, .ref aR, .ref aW, .ref aV, .int (zI (↑sy))]))) hF 1 rfl (pw_c (q := (aA, .inl (cI, 5, .inl (zA ar)))) hF 2 rfl (pw_c (q := (aW, .inl (cI, 5, .inl (zA wt)))) hF 3 rfl (pw_c (q := (orr, .inr (4, [.ref rL, .ref rR, .ref rB, .int (zI (↑rc))]))) hF 4 rfl (pw_c (q := (rL, .inl (cT, 8, .inr (.inr (.inr (.inr lf)))))) hF 5 rfl (pw_c (q := (rR, .inl (cT, 8, .inr (.inr (.inr (.inr rf)))))) hF 6 rfl (pw_c (q := (og, .inr (3, [.ref o, .ref oG]))) hF 7 rfl (pw_tail [(ox, .inr (5, [.ref o, .ref od, .ref xT, .ref orr, .ref og, .int (zI (↑tc))])), (o, .inr (0, [.ref aA, .ref aR, .ref aW, .ref aV, .int (zI (↑sy))])), (aA, .inl (cI, 5, .inl (zA ar))), (aW, .inl (cI, 5, .inl (zA wt))), (orr, .inr (4, [.ref rL, .ref rR, .ref rB, .int (zI (↑rc))])), (rL, .inl (cT, 8, .inr (.inr (.inr (.inr lf))))), (rR, .inl (cT, 8, .inr (.inr (.inr (.inr rf))))), (og, .inr (3, [.ref o, .ref oG]))] hF))))))))) hK hN hDc (apw_c (q := (ox, .inr (5, [.ref o, .ref od, .ref xT, .ref orr, .ref og, .int (zI (↑tc))]))) (apw_f hD [0, 1, 2] rfl (hFA 0 _ rfl)) (apw_c (q := (o, .inr (0, [.ref aA, .ref aR, .ref aW, .ref aV, .int (zI (↑sy))]))) (apw_f hD [0, 1, 2] rfl (hFA 1 _ rfl)) (apw_c (q := (aA, .inl (cI, 5, .inl (zA ar)))) (apw_f hD [0, 1, 2] rfl (hFA 2 _ rfl)) (apw_c (q := (aW, .inl (cI, 5, .inl (zA wt)))) (apw_f hD [0, 1, 2] rfl (hFA 3 _ rfl)) (apw_c (q := (orr, .inr (4, [.ref rL, .ref rR, .ref rB, .int (zI (↑rc))]))) (apw_f hD [0, 1, 2] rfl (hFA 4 _ rfl)) (apw_c (q := (rL, .inl (cT, 8, .inr (.inr (.inr (.inr lf)))))) (apw_f hD [0, 1, 2] rfl (hFA 5 _ rfl)) (apw_c (q := (rR, .inl (cT, 8, .inr (.inr (.inr (.inr rf)))))) (apw_f hD [0, 1, 2] rfl (hFA 6 _ rfl)) (apw_c (q := (og, .inr (3, [.ref o, .ref oG]))) (apw_f hD [0, 1, 2] rfl (hFA 7 _ rfl)) (apw_pool hD [0, 1, 2] rfl (hA_tail [(ox, .inr (5, [.ref o, .ref od, .ref xT, .ref orr, .ref og, .int (zI (↑tc))])), (o, .inr (0, [.ref aA, .ref aR, .ref aW, .ref aV, .int (zI (↑sy))])), (aA, .inl (cI, 5, .inl (zA ar))), (aW, .inl (cI, 5, .inl (zA wt))), (orr, .inr (4, [.ref rL, .ref rR, .ref rB, .int (zI (↑rc))])), (rL, .inl (cT, 8, .inr (.inr (.inr (.inr lf))))), (rR, .inl (cT, 8, .inr (.inr (.inr (.inr rf))))), (og, .inr (3, [.ref o, .ref oG]))] hFA)))))))))) (exH.narrow (exH.kept hE hS.2.1) hFr)) rfl rfl hl.1 rfl (lv_room (Nat.le_of_ble_eq_true rfl)) qd_L_search_4 ⟨Nat.le_of_ble_eq_true rfl, Nat.le_of_ble_eq_true rfl⟩) hS (fun q _ h => hFr q h) hFr (fun q _ h => hFr q h) (fun E9 ce9 q9 u9 t9 H4_1 L4_1 ht9 hv9 _ hx4 hz9 hk9 hS hc9 hcv9 hcl9 => ?_) (fun r4 u9 t9 H4_1 L4_1 ht9 hv9 hr4 hB9 hz9 hk9 hS => ?_)
  · skip
    obtain ⟨hx4, hB9⟩ := hx4
    try dsimp only at hx4 hB9
    obtain ⟨hP, hD⟩ := mw_join (wr := [(ou, .inl (cJ, 1, .inr (.inl (fun _ => ot))))]) (w1 := [(aR, .inl (cI, 5, .inl (zA rk))), (aV, .inl (cI, 5, .inl (zA sv))), (oG, .inl (cZ, 256, .inl (zB gr)))]) hP hD [0, 1, 2] [3] rfl rfl (by decide) (by decide) hk9 hFr ht9 hB9
    have hP := hP.sub (ws' := [(aR, .inl (cI, 5, .inl (zA rk))), (aV, .inl (cI, 5, .inl (zA sv))), (oG, .inl (cZ, 256, .inl (zB gr))), (ou, .inl (cJ, 1, .inr (.inl (fun _ => ot))))]) [1, 2, 3, 0] rfl
    have hD := hD.sub (ws' := [(aR, .inl (cI, 5, .inl (zA rk))), (aV, .inl (cI, 5, .inl (zA sv))), (oG, .inl (cZ, 256, .inl (zB gr))), (ou, .inl (cJ, 1, .inr (.inl (fun _ => ot))))]) [1, 2, 3, 0] (by decide) rfl
    have hF := fz_keep hF0 hFA hS
    obtain ⟨rfl, hcx⟩ := hx4
    refine zx_catch0 (tgt := 19) hown htb rfl (by decide) rfl (hg _ wd_166) (va_Nw.use (isEx_tab rfl) (hE.1 _ (List.mem_of_getElem? (i := 0) rfl))) hc9 hcv9 hcl9 ?_
    refine lv_astore_n (lv' := [(3, .ref q9), (0, .ref ox), (1, .int (zI (x))), (2, .ref ou)]) hx hb qd_L_search_19 rfl hl (by decide) rfl (fun ls hl => ?_)
    refine lv_iconst (v := zI 1) hx hb qd_L_search_20 rfl ?_
    refine vx_ret ?_
    exact W.iret (v := zI 1) hx hb hr (fun t9 ht9 hW9 => ⟨⟨1, (rk, sv, gr, ot), rfl, (Or.inr ⟨rfl, hcx, rfl⟩), mwB_i (by rw [ht9]; exact hP) (va_K.moved hW9.alike hK) hD⟩, hS.F ht9⟩) hS.2.2 qd_L_search_21
  · skip
    obtain ⟨rk8, sv8, g8⟩ := u9
    try dsimp only at hr4 hB9
    obtain ⟨hP, hD⟩ := mw_join (wr := [(ou, .inl (cJ, 1, .inr (.inl (fun _ => ot))))]) (w1 := [(aR, .inl (cI, 5, .inl (zA rk8))), (aV, .inl (cI, 5, .inl (zA sv8))), (oG, .inl (cZ, 256, .inl (zB g8)))]) hP hD [0, 1, 2] [3] rfl rfl (by decide) (by decide) hk9 hFr ht9 hB9
    have hP := hP.sub (ws' := [(aR, .inl (cI, 5, .inl (zA rk8))), (aV, .inl (cI, 5, .inl (zA sv8))), (oG, .inl (cZ, 256, .inl (zB g8))), (ou, .inl (cJ, 1, .inr (.inl (fun _ => ot))))]) [1, 2, 3, 0] rfl
    have hD := hD.sub (ws' := [(aR, .inl (cI, 5, .inl (zA rk8))), (aV, .inl (cI, 5, .inl (zA sv8))), (oG, .inl (cZ, 256, .inl (zB g8))), (ou, .inl (cJ, 1, .inr (.inl (fun _ => ot))))]) [1, 2, 3, 0] (by decide) rfl
    have hF := fz_keep hF0 hFA hS
    refine zz_ifeqB (tgt := 14) hx hb qd_L_search_7 (by decide) (fun h7 => ?_) (fun h7 => ?_)
    · skip
      refine lv_lconst (v := 0) hx hb qd_L_search_14 rfl ?_
      refine zj_last hx hb hK hP hD hS 3 rfl rfl qd_L_search_15 (fun H15_2 L15_2 hP hD hS => ?_)
      have hP : va_P (dC, dI) qcl [(aR, .inl (cI, 5, .inl (zA rk8))), (aV, .inl (cI, 5, .inl (zA sv8))), (oG, .inl (cZ, 256, .inl (zB g8))), (ou, .inl (cJ, 1, .inr (.inl (fun _ => 0))))] H15_2 := hP
      have hD : va_D A [(aR, .inl (cI, 5, .inl (zA rk8))), (aV, .inl (cI, 5, .inl (zA sv8))), (oG, .inl (cZ, 256, .inl (zB g8))), (ou, .inl (cJ, 1, .inr (.inl (fun _ => 0))))] := hD
      have hF := fz_keep hF0 hFA hS
      refine lv_goto (tgt := 22) hx hb qd_L_search_16 (by decide) ?_
      refine lv_iconst (v := zI 0) hx hb qd_L_search_22 rfl ?_
      refine vx_ret ?_
      exact W.iret (v := zI 0) hx hb hr (fun t9 ht9 hW9 => ⟨⟨0, (rk8, sv8, g8, 0), rfl, (Or.inl ⟨rfl, hr4.1, Or.inr ⟨rfl, (hr4.2.resolve_left (fun z9 => by rw [z9.1] at h7; exact Bool.noConfusion h7)).2⟩⟩), mwB_i (by rw [ht9]; exact hP) (va_K.moved hW9.alike hK) hD⟩, hS.F ht9⟩) hS.2.2 qd_L_search_23
    · skip
      refine lv_lconst (v := 1) hx hb qd_L_search_10 rfl ?_
      refine lv_goto (tgt := 15) hx hb qd_L_search_11 (by decide) ?_
      refine zj_last hx hb hK hP hD hS 3 rfl rfl qd_L_search_15 (fun H15_3 L15_3 hP hD hS => ?_)
      have hP : va_P (dC, dI) qcl [(aR, .inl (cI, 5, .inl (zA rk8))), (aV, .inl (cI, 5, .inl (zA sv8))), (oG, .inl (cZ, 256, .inl (zB g8))), (ou, .inl (cJ, 1, .inr (.inl (fun _ => 1))))] H15_3 := hP
      have hD : va_D A [(aR, .inl (cI, 5, .inl (zA rk8))), (aV, .inl (cI, 5, .inl (zA sv8))), (oG, .inl (cZ, 256, .inl (zB g8))), (ou, .inl (cJ, 1, .inr (.inl (fun _ => 1))))] := hD
      have hF := fz_keep hF0 hFA hS
      refine lv_goto (tgt := 22) hx hb qd_L_search_16 (by decide) ?_
      refine lv_iconst (v := zI 0) hx hb qd_L_search_22 rfl ?_
      refine vx_ret ?_
      exact W.iret (v := zI 0) hx hb hr (fun t9 ht9 hW9 => ⟨⟨0, (rk8, sv8, g8, 1), rfl, (Or.inl ⟨rfl, hr4.1, Or.inl ⟨rfl, (hr4.2.resolve_right (fun z9 => by rw [z9.1] at h7; exact Bool.noConfusion h7)).2⟩⟩), mwB_i (by rw [ht9]; exact hP) (va_K.moved hW9.alike hK) hD⟩, hS.F ht9⟩) hS.2.2 qd_L_search_23
set_option maxHeartbeats 4000000 in
set_option maxRecDepth 100000 in
theorem c_L_about (l : Launch) (dC : Nat → ClassId) (dI : Nat → Nat → Nat) (cI cZ cT cJ : ClassId) (ox : Nat) (o aA aR aW aV sy : Nat) (ar rk wt sv : Nat → Int) (od dH dP dE dT dz : Nat) (dt : Bool) (hd pcs : Nat → Int) (de : Nat → Nat) (dh : Nat → Int) (orr rL rR rB rc : Nat) (lf rf : Nat → Option Nat) (bd : Nat → Int) (og oG : Nat) (gr : Nat → Bool) (ta tH tP tE tn : Nat → Nat) (TH TM : Nat → Nat → Int) (TE : Nat → Nat → Nat) (TG : Nat → Int) (HT : Nat → Nat → Int) (LI RI : Nat → Nat) (pl : va_W) (tc : Nat) (xT : Nat) (tf : Nat → Option Nat) (ou : Nat) (ot : Int64) (x y : Int) (zh : Nat) (hst : l.stackTraces = false) (hsy : sy ≤ 5) (hwt : ∀ q, q < 5 → 0 ≤ wt q ∧ wt q ≤ 9) (htc : tc ≤ 160) (htf : ∀ t, t < tc → tf t = some (ta t)) (htp : ∀ t, t < tc → okT sy ar (tn t) (TH t) (TM t) (TE t) (HT t) ∧ tin pl cI (ta t) (tH t) (tP t) (tE t) (tn t) (TH t) (TM t) (TE t) (TG t)) (h32x : -2147483648 ≤ x ∧ x < 2147483648) (h32y : -2147483648 ≤ y ∧ y < 2147483648) : vx_Met l qy_L_about qw_L_about ({ frames := 8, cells := 1, slots := 6, locals := 144 }) (mxP (dC, dI) qcl (qty cI cZ cT cJ) nwL [(ou, .inl (cJ, 1, .inr (.inl (fun _ => ot))))] ([(ox, .inr (5, [.ref o, .ref od, .ref xT, .ref orr, .ref og, .int (zI (↑tc))])), (xT, .inl (cT, 160, .inr (.inr (.inr (.inr tf))))), (o, .inr (0, [.ref aA, .ref aR, .ref aW, .ref aV, .int (zI (↑sy))])), (aA, .inl (cI, 5, .inl (zA ar))), (aR, .inl (cI, 5, .inl (zA rk))), (aW, .inl (cI, 5, .inl (zA wt))), (aV, .inl (cI, 5, .inl (zA sv)))] ++ pl) zh [.ref ox, .int (zI (x)), .int (zI (y)), .ref ou]) (mwI (S := (Int64)) (fun r uq => (r = 0 ∧ (0 ≤ x ∧ x < tc ∧ 0 ≤ y ∧ y ≤ 3) ∧ uq = (zI (if y = 0 then TH x.toNat 0 else if y = 1 then TG x.toNat else if y = 2 then (tn x.toNat : Int) else wsum (TH x.toNat) wt 0 (tn x.toNat))).toInt64) ∨ (r = 1 ∧ ¬ (0 ≤ x ∧ x < tc ∧ 0 ≤ y ∧ y ≤ 3))) (fun uq tq => mwB (dC, dI) qcl (qty cI cZ cT cJ) (va_A [(ou, .inl (cJ, 1, .inr (.inl (fun _ => ot))))] zh) [(ou, .inl (cJ, 1, .inr (.inl (fun _ => uq))))] tq) (va_A [(ou, .inl (cJ, 1, .inr (.inl (fun _ => ot))))] zh)) (vx_X (S := Unit) (fun _ => True) (fun E uq tq => (False) ∧ mwB (dC, dI) qcl (qty cI cZ cT cJ) (va_A [(ou, .inl (cJ, 1, .inr (.inl (fun _ => ot))))] zh) [(ou, .inl (cJ, 1, .inr (.inl (fun _ => ot))))] tq) (va_A [(ou, .inl (cJ, 1, .inr (.inl (fun _ => ot))))] zh)) 1 6 (va_A [(ou, .inl (cJ, 1, .inr (.inl (fun _ => ot))))] zh) := by
  refine vx_ofWH (cc := qc_L_about) (maxL := 5) (ret := (Option.some Jvm.ClassFile.FieldType.int)) (hh := [((0 : Nat), (10 : Nat), (13 : Nat), (13 : Nat))]) (by decide) rfl ?_
  intro pg eg sg mg args below meth cg s₁ B hml hv
  obtain ⟨rfl, ⟨hsz, hP, hF0, hK, hN, hD0, hap⟩, hE⟩ := hv
  have hx := B.exec
  have hb := B.bytes
  have hr := B.returns
  have hts := atoms_spec (ws := qw_L_about) B.pre
  have hg : ∀ w ∈ gw, w.before _ sg = true := fun w h => hts w (List.mem_cons_of_mem _ h)
  have htb := vx_table (x := qy_L_about) B (hts _ List.mem_cons_self)
  have hown : sg.vm.findClass "TermOrdersLaw" = some mg.cls := findClass_of_methodNamed B.named
  have hlocks := B.notSynchronized
  have hl := lv_entry ([.ref ox, .int (zI (x)), .int (zI (y)), .ref ou]) (n := 5) (Nat.le_of_ble_eq_true rfl)
  rw [lg_entry_eq]
  generalize (lg_sl ([.ref ox, .int (zI (x)), .int (zI (y)), .ref ou]) ++ List.replicate (5 - (lg_sl ([.ref ox, .int (zI (x)), .int (zI (y)), .ref ou])).length) Slot.unset).toArray = ls at hl ⊢
  subst hsz
  have hD := hD0.self (sz := sg.heap.size)
  have hFA := apw_A hap (fun k q hk => (hF0 k q hk).lt)
  generalize hAe : va_A [(ou, .inl (cJ, 1, .inr (.inl (fun _ => ot))))] sg.heap.size = A at hD hFA hE ⊢
  have hA : ∀ q : Nat, sg.heap.size ≤ q → A q := fun q h => by rw [← hAe]; exact Or.inr h
  have hS : va_S A sg.heap sg.heap [] := va_S.rf
  have hF := hF0
  have hl : lv_has ls 5 [(0, .ref ox), (1, .int (zI (x))), (2, .int (zI (y))), (3, .ref ou)] := hl
  refine lv_aload_n hx hb qd_L_about_0 rfl (lv_at hl 3 rfl) ?_
  refine lv_iconst (v := zI 0) hx hb qd_L_about_1 rfl ?_
  refine lv_aload_n hx hb qd_L_about_2 rfl (lv_at hl 0 rfl) ?_
  refine lv_iload_n hx hb qd_L_about_3 rfl (lv_at hl 1 rfl) ?_
  refine lv_iload_n hx hb qd_L_about_4 rfl (lv_at hl 2 rfl) ?_
  have hPc := hP.sub (ws' := []) [] rfl
  have hDc := hD.sub (ws' := []) [] (by decide) rfl
  have hFr := va_free (wc := []) hD hS hA [] rfl
  refine mx_callI (vx_runV (As := [.int (zI (x)), .int (zI (y))]) (rest := [.int (zI (0)), .ref ou]) ⟨hx, hb, hml, hown, hg⟩ (c_X_about l dC dI cI cZ cT cJ ox o aA aR aW aV sy ar rk wt sv od dH dP dE dT dz dt hd pcs de dh orr rL rR rB rc lf rf bd og oG gr ta tH tP tE tn TH TM TE TG HT LI RI pl tc xT tf x y sg.heap.size hst hsy hwt htc htf htp h32x h32y) ⟨callB_of 2 hg (gw_ok (fun _ h => h) wd_585) rfl rfl rfl (hg _ wd_1) (hg _ wd_582) (by decide +kernel) ⟨Nat.le_of_ble_eq_true rfl, Nat.le_of_ble_eq_true rfl⟩, hg _ wd_583, hg _ wd_584⟩ (mx_preV (va_recv (q0 := 0) hK hF rfl rfl) hPc (pw_c (q := (ox, .inr (5, [.ref o, .ref od, .ref xT, .ref orr, .ref og, .int (zI (↑tc))]))) hF 0 rfl (pw_c (q := (xT, .inl (cT, 160, .inr (.inr (.inr (.inr tf)))))) hF 1 rfl (pw_c (q := (o, .inr (0, [.ref aA, .ref aR, .ref aW, .ref aV, .int (zI (↑sy))]))) hF 2 rfl (pw_c (q := (aA, .inl (cI, 5, .inl (zA ar)))) hF 3 rfl (pw_c (q := (aR, .inl (cI, 5, .inl (zA rk)))) hF 4 rfl (pw_c (q := (aW, .inl (cI, 5, .inl (zA wt)))) hF 5 rfl (pw_c (q := (aV, .inl (cI, 5, .inl (zA sv)))) hF 6 rfl (pw_tail [(ox, .inr (5, [.ref o, .ref od, .ref xT, .ref orr, .ref og, .int (zI (↑tc))])), (xT, .inl (cT, 160, .inr (.inr (.inr (.inr tf))))), (o, .inr (0, [.ref aA, .ref aR, .ref aW, .ref aV, .int (zI (↑sy))])), (aA, .inl (cI, 5, .inl (zA ar))), (aR, .inl (cI, 5, .inl (zA rk))), (aW, .inl (cI, 5, .inl (zA wt))), (aV, .inl (cI, 5, .inl (zA sv)))] hF)))))))) hK hN hDc (apw_c (q := (ox, .inr (5, [.ref o, .ref od, .ref xT, .ref orr, .ref og, .int (zI (↑tc))]))) (apw_f hD [] rfl (hFA 0 _ rfl)) (apw_c (q := (xT, .inl (cT, 160, .inr (.inr (.inr (.inr tf)))))) (apw_f hD [] rfl (hFA 1 _ rfl)) (apw_c (q := (o, .inr (0, [.ref aA, .ref aR, .ref aW, .ref aV, .int (zI (↑sy))]))) (apw_f hD [] rfl (hFA 2 _ rfl)) (apw_c (q := (aA, .inl (cI, 5, .inl (zA ar)))) (apw_f hD [] rfl (hFA 3 _ rfl)) (apw_c (q := (aR, .inl (cI, 5, .inl (zA rk)))) (apw_f hD [] rfl (hFA 4 _ rfl)) (apw_c (q := (aW, .inl (cI, 5, .inl (zA wt)))) (apw_f hD [] rfl (hFA 5 _ rfl)) (apw_c (q := (aV, .inl (cI, 5, .inl (zA sv)))) (apw_f hD [] rfl (hFA 6 _ rfl)) (apw_pool hD [] rfl (hA_tail [(ox, .inr (5, [.ref o, .ref od, .ref xT, .ref orr, .ref og, .int (zI (↑tc))])), (xT, .inl (cT, 160, .inr (.inr (.inr (.inr tf))))), (o, .inr (0, [.ref aA, .ref aR, .ref aW, .ref aV, .int (zI (↑sy))])), (aA, .inl (cI, 5, .inl (zA ar))), (aR, .inl (cI, 5, .inl (zA rk))), (aW, .inl (cI, 5, .inl (zA wt))), (aV, .inl (cI, 5, .inl (zA sv)))] hFA))))))))) (exH.narrow (exH.kept hE hS.2.1) hFr)) rfl rfl hl.1 rfl (lv_room (Nat.le_of_ble_eq_true rfl)) qd_L_about_5 ⟨Nat.le_of_ble_eq_true rfl, Nat.le_of_ble_eq_true rfl⟩) hS (fun q _ h => hFr q h) hFr (fun q _ h => hFr q h) (fun E9 ce9 q9 u9 t9 H5_1 L5_1 ht9 hv9 _ hx5 hz9 hk9 hS hc9 hcv9 hcl9 => ?_) (fun r5 u9 t9 H5_1 L5_1 ht9 hv9 hr5 hB9 hz9 hk9 hS => ?_)
  · skip
    obtain ⟨hx5, hB9⟩ := hx5
    try dsimp only at hx5 hB9
    obtain ⟨hP, hD⟩ := mw_join (wr := [(ou, .inl (cJ, 1, .inr (.inl (fun _ => ot))))]) (w1 := []) hP hD [] [0] rfl rfl (by decide) (by decide) hk9 hFr ht9 hB9
    have hP := hP.sub (ws' := [(ou, .inl (cJ, 1, .inr (.inl (fun _ => ot))))]) [0] rfl
    have hD := hD.sub (ws' := [(ou, .inl (cJ, 1, .inr (.inl (fun _ => ot))))]) [0] (by decide) rfl
    have hF := fz_keep hF0 hFA hS
    obtain ⟨rfl, hcx⟩ := hx5
    refine zx_catch0 (tgt := 13) hown htb rfl (by decide) rfl (hg _ wd_166) (va_Nw.use (isEx_tab rfl) (hE.1 _ (List.mem_of_getElem? (i := 0) rfl))) hc9 hcv9 hcl9 ?_
    refine lv_astore (lv' := [(4, .ref q9), (0, .ref ox), (1, .int (zI (x))), (2, .int (zI (y))), (3, .ref ou)]) hx hb qd_L_about_13 hl (by decide) rfl (fun ls hl => ?_)
    refine lv_iconst (v := zI 1) hx hb qd_L_about_15 rfl ?_
    refine vx_ret ?_
    exact W.iret (v := zI 1) hx hb hr (fun t9 ht9 hW9 => ⟨⟨1, ot, rfl, (Or.inr ⟨rfl, hcx⟩), mwB_i (by rw [ht9]; exact hP) (va_K.moved hW9.alike hK) hD⟩, hS.F ht9⟩) hS.2.2 qd_L_about_16
  · skip
    obtain ⟨hP, hD⟩ := mw_join (wr := [(ou, .inl (cJ, 1, .inr (.inl (fun _ => ot))))]) (w1 := []) hP hD [] [0] rfl rfl (by decide) (by decide) hk9 hFr ht9 hB9
    have hP := hP.sub (ws' := [(ou, .inl (cJ, 1, .inr (.inl (fun _ => ot))))]) [0] rfl
    have hD := hD.sub (ws' := [(ou, .inl (cJ, 1, .inr (.inl (fun _ => ot))))]) [0] (by decide) rfl
    have hF := fz_keep hF0 hFA hS
    obtain ⟨y1, e9⟩ := hr5
    subst e9
    refine lv_i2l (v := (zI ((if y = 0 then TH x.toNat 0 else if y = 1 then TG x.toNat else if y = 2 then (tn x.toNat : Int) else wsum (TH x.toNat) wt 0 (tn x.toNat)))).toInt64) hx hb qd_L_about_8 rfl ?_
    refine zj_last hx hb hK hP hD hS 0 rfl rfl qd_L_about_9 (fun H9_2 L9_2 hP hD hS => ?_)
    have hP : va_P (dC, dI) qcl [(ou, .inl (cJ, 1, .inr (.inl (fun _ => (zI ((if y = 0 then TH x.toNat 0 else if y = 1 then TG x.toNat else if y = 2 then (tn x.toNat : Int) else wsum (TH x.toNat) wt 0 (tn x.toNat)))).toInt64))))] H9_2 := hP
    have hD : va_D A [(ou, .inl (cJ, 1, .inr (.inl (fun _ => (zI ((if y = 0 then TH x.toNat 0 else if y = 1 then TG x.toNat else if y = 2 then (tn x.toNat : Int) else wsum (TH x.toNat) wt 0 (tn x.toNat)))).toInt64))))] := hD
    have hF := fz_keep hF0 hFA hS
    refine lv_goto (tgt := 17) hx hb qd_L_about_10 (by decide) ?_
    refine lv_iconst (v := zI 0) hx hb qd_L_about_17 rfl ?_
    refine vx_ret ?_
    exact W.iret (v := zI 0) hx hb hr (fun t9 ht9 hW9 => ⟨⟨0, (zI (if y = 0 then TH x.toNat 0 else if y = 1 then TG x.toNat else if y = 2 then (tn x.toNat : Int) else wsum (TH x.toNat) wt 0 (tn x.toNat))).toInt64, rfl, (Or.inl ⟨rfl, y1, rfl⟩), mwB_i (by rw [ht9]; exact hP) (va_K.moved hW9.alike hK) hD⟩, hS.F ht9⟩) hS.2.2 qd_L_about_18
set_option maxHeartbeats 4000000 in
set_option maxRecDepth 100000 in
theorem c_L_place (l : Launch) (dC : Nat → ClassId) (dI : Nat → Nat → Nat) (cI cZ cT cJ : ClassId) (ox : Nat) (o aA aR aW aV sy : Nat) (ar rk wt sv : Nat → Int) (od dH dP dE dT dz : Nat) (dt : Bool) (hd pcs : Nat → Int) (de : Nat → Nat) (dh : Nat → Int) (orr rL rR rB rc : Nat) (lf rf : Nat → Option Nat) (bd : Nat → Int) (og oG : Nat) (gr : Nat → Bool) (ta tH tP tE tn : Nat → Nat) (TH TM : Nat → Nat → Int) (TE : Nat → Nat → Nat) (TG : Nat → Int) (HT : Nat → Nat → Int) (LI RI : Nat → Nat) (pl : va_W) (tc : Nat) (xT : Nat) (tf : Nat → Option Nat) (ou : Nat) (ot : Int64) (x y : Int) (zh : Nat) (hst : l.stackTraces = false) (hsy : sy ≤ 5) (htc : tc ≤ 160) (htf : ∀ t, t < tc → tf t = some (ta t)) (htp : ∀ t, t < tc → okT sy ar (tn t) (TH t) (TM t) (TE t) (HT t) ∧ tin pl cI (ta t) (tH t) (tP t) (tE t) (tn t) (TH t) (TM t) (TE t) (TG t)) (h32x : -2147483648 ≤ x ∧ x < 2147483648) (h32y : -2147483648 ≤ y ∧ y < 2147483648) : vx_Met l qy_L_place qw_L_place ({ frames := 8, cells := 1, slots := 6, locals := 144 }) (mxP (dC, dI) qcl (qty cI cZ cT cJ) nwL [(ou, .inl (cJ, 1, .inr (.inl (fun _ => ot))))] ([(ox, .inr (5, [.ref o, .ref od, .ref xT, .ref orr, .ref og, .int (zI (↑tc))])), (xT, .inl (cT, 160, .inr (.inr (.inr (.inr tf)))))] ++ pl) zh [.ref ox, .int (zI (x)), .int (zI (y)), .ref ou]) (mwI (S := (Int64)) (fun r uq => (r = 0 ∧ (0 ≤ x ∧ x < tc) ∧ (0 ≤ y ∧ y < tn x.toNat) ∧ uq = (zI (TH x.toNat y.toNat)).toInt64) ∨ (r = 1 ∧ ¬ (0 ≤ x ∧ x < tc)) ∨ (r = 2 ∧ (0 ≤ x ∧ x < tc) ∧ ¬ (0 ≤ y ∧ y < tn x.toNat))) (fun uq tq => mwB (dC, dI) qcl (qty cI cZ cT cJ) (va_A [(ou, .inl (cJ, 1, .inr (.inl (fun _ => ot))))] zh) [(ou, .inl (cJ, 1, .inr (.inl (fun _ => uq))))] tq) (va_A [(ou, .inl (cJ, 1, .inr (.inl (fun _ => ot))))] zh)) (vx_X (S := Unit) (fun _ => True) (fun E uq tq => (False) ∧ mwB (dC, dI) qcl (qty cI cZ cT cJ) (va_A [(ou, .inl (cJ, 1, .inr (.inl (fun _ => ot))))] zh) [(ou, .inl (cJ, 1, .inr (.inl (fun _ => ot))))] tq) (va_A [(ou, .inl (cJ, 1, .inr (.inl (fun _ => ot))))] zh)) 1 6 (va_A [(ou, .inl (cJ, 1, .inr (.inl (fun _ => ot))))] zh) := by
  refine vx_ofWH (cc := qc_L_place) (maxL := 5) (ret := (Option.some Jvm.ClassFile.FieldType.int)) (hh := [((0 : Nat), (10 : Nat), (13 : Nat), (13 : Nat)), ((0 : Nat), (10 : Nat), (17 : Nat), (59 : Nat))]) (by decide) rfl ?_
  intro pg eg sg mg args below meth cg s₁ B hml hv
  obtain ⟨rfl, ⟨hsz, hP, hF0, hK, hN, hD0, hap⟩, hE⟩ := hv
  have hx := B.exec
  have hb := B.bytes
  have hr := B.returns
  have hts := atoms_spec (ws := qw_L_place) B.pre
  have hg : ∀ w ∈ gw, w.before _ sg = true := fun w h => hts w (List.mem_cons_of_mem _ h)
  have htb := vx_table (x := qy_L_place) B (hts _ List.mem_cons_self)
  have hown : sg.vm.findClass "TermOrdersLaw" = some mg.cls := findClass_of_methodNamed B.named
  have hlocks := B.notSynchronized
  have hl := lv_entry ([.ref ox, .int (zI (x)), .int (zI (y)), .ref ou]) (n := 5) (Nat.le_of_ble_eq_true rfl)
  rw [lg_entry_eq]
  generalize (lg_sl ([.ref ox, .int (zI (x)), .int (zI (y)), .ref ou]) ++ List.replicate (5 - (lg_sl ([.ref ox, .int (zI (x)), .int (zI (y)), .ref ou])).length) Slot.unset).toArray = ls at hl ⊢
  subst hsz
  have hD := hD0.self (sz := sg.heap.size)
  have hFA := apw_A hap (fun k q hk => (hF0 k q hk).lt)
  generalize hAe : va_A [(ou, .inl (cJ, 1, .inr (.inl (fun _ => ot))))] sg.heap.size = A at hD hFA hE ⊢
  have hA : ∀ q : Nat, sg.heap.size ≤ q → A q := fun q h => by rw [← hAe]; exact Or.inr h
  have hS : va_S A sg.heap sg.heap [] := va_S.rf
  have hF := hF0
  have hl : lv_has ls 5 [(0, .ref ox), (1, .int (zI (x))), (2, .int (zI (y))), (3, .ref ou)] := hl
  refine lv_aload_n hx hb qd_L_place_0 rfl (lv_at hl 3 rfl) ?_
  refine lv_iconst (v := zI 0) hx hb qd_L_place_1 rfl ?_
  refine lv_aload_n hx hb qd_L_place_2 rfl (lv_at hl 0 rfl) ?_
  refine lv_iload_n hx hb qd_L_place_3 rfl (lv_at hl 1 rfl) ?_
  refine lv_iload_n hx hb qd_L_place_4 rfl (lv_at hl 2 rfl) ?_
  have hPc := hP.sub (ws' := []) [] rfl
  have hDc := hD.sub (ws' := []) [] (by decide) rfl
  have hFr := va_free (wc := []) hD hS hA [] rfl
  refine mx_callI (vx_runV (As := [.int (zI (x)), .int (zI (y))]) (rest := [.int (zI (0)), .ref ou]) ⟨hx, hb, hml, hown, hg⟩ (c_X_place l dC dI cI cZ cT cJ ox o aA aR aW aV sy ar rk wt sv od dH dP dE dT dz dt hd pcs de dh orr rL rR rB rc lf rf bd og oG gr ta tH tP tE tn TH TM TE TG HT LI RI pl tc xT tf x y sg.heap.size hst hsy htc htf htp h32x h32y) ⟨callB_of 2 hg (gw_ok (fun _ h => h) wd_595) rfl rfl rfl (hg _ wd_1) (hg _ wd_592) (by decide +kernel) ⟨Nat.le_of_ble_eq_true rfl, Nat.le_of_ble_eq_true rfl⟩, hg _ wd_593, hg _ wd_594⟩ (mx_preV (va_recv (q0 := 0) hK hF rfl rfl) hPc (pw_c (q := (ox, .inr (5, [.ref o, .ref od, .ref xT, .ref orr, .ref og, .int (zI (↑tc))]))) hF 0 rfl (pw_c (q := (xT, .inl (cT, 160, .inr (.inr (.inr (.inr tf)))))) hF 1 rfl (pw_tail [(ox, .inr (5, [.ref o, .ref od, .ref xT, .ref orr, .ref og, .int (zI (↑tc))])), (xT, .inl (cT, 160, .inr (.inr (.inr (.inr tf)))))] hF))) hK hN hDc (apw_c (q := (ox, .inr (5, [.ref o, .ref od, .ref xT, .ref orr, .ref og, .int (zI (↑tc))]))) (apw_f hD [] rfl (hFA 0 _ rfl)) (apw_c (q := (xT, .inl (cT, 160, .inr (.inr (.inr (.inr tf)))))) (apw_f hD [] rfl (hFA 1 _ rfl)) (apw_pool hD [] rfl (hA_tail [(ox, .inr (5, [.ref o, .ref od, .ref xT, .ref orr, .ref og, .int (zI (↑tc))])), (xT, .inl (cT, 160, .inr (.inr (.inr (.inr tf)))))] hFA)))) (exH.narrow (exH.kept hE hS.2.1) hFr)) rfl rfl hl.1 rfl (lv_room (Nat.le_of_ble_eq_true rfl)) qd_L_place_5 ⟨Nat.le_of_ble_eq_true rfl, Nat.le_of_ble_eq_true rfl⟩) hS (fun q _ h => hFr q h) hFr (fun q _ h => hFr q h) (fun E9 ce9 q9 u9 t9 H5_1 L5_1 ht9 hv9 _ hx5 hz9 hk9 hS hc9 hcv9 hcl9 => ?_) (fun r5 u9 t9 H5_1 L5_1 ht9 hv9 hr5 hB9 hz9 hk9 hS => ?_)
  · skip
    obtain ⟨hx5, hB9⟩ := hx5
    try dsimp only at hx5 hB9
    obtain ⟨hP, hD⟩ := mw_join (wr := [(ou, .inl (cJ, 1, .inr (.inl (fun _ => ot))))]) (w1 := []) hP hD [] [0] rfl rfl (by decide) (by decide) hk9 hFr ht9 hB9
    have hP := hP.sub (ws' := [(ou, .inl (cJ, 1, .inr (.inl (fun _ => ot))))]) [0] rfl
    have hD := hD.sub (ws' := [(ou, .inl (cJ, 1, .inr (.inl (fun _ => ot))))]) [0] (by decide) rfl
    have hF := fz_keep hF0 hFA hS
    rcases hx5 with ⟨rfl, hcx⟩ | ⟨rfl, hcx⟩
    · skip
      refine zx_catch0 (tgt := 13) hown htb rfl (by decide) rfl (hg _ wd_166) (va_Nw.use (isEx_tab rfl) (hE.1 _ (List.mem_of_getElem? (i := 0) rfl))) hc9 hcv9 hcl9 ?_
      refine lv_astore (lv' := [(4, .ref q9), (0, .ref ox), (1, .int (zI (x))), (2, .int (zI (y))), (3, .ref ou)]) hx hb qd_L_place_13 hl (by decide) rfl (fun ls hl => ?_)
      refine lv_iconst (v := zI 1) hx hb qd_L_place_15 rfl ?_
      refine vx_ret ?_
      exact W.iret (v := zI 1) hx hb hr (fun t9 ht9 hW9 => ⟨⟨1, ot, rfl, (Or.inr (Or.inl ⟨rfl, hcx⟩)), mwB_i (by rw [ht9]; exact hP) (va_K.moved hW9.alike hK) hD⟩, hS.F ht9⟩) hS.2.2 qd_L_place_16
    · skip
      refine zx_catch1 (tgt := 17) hown htb rfl (by decide) (by decide) rfl (hg _ wd_166) (hE.2.2.2.2 _ (List.mem_of_getElem? (i := 1) rfl)) (hg _ wd_591) (va_Nw.use (isEx_tab rfl) (hE.1 _ (List.mem_of_getElem? (i := 8) rfl))) hc9 hcv9 hcl9 ?_
      refine lv_astore (lv' := [(4, .ref q9), (0, .ref ox), (1, .int (zI (x))), (2, .int (zI (y))), (3, .ref ou)]) hx hb qd_L_place_17 hl (by decide) rfl (fun ls hl => ?_)
      refine lv_iconst (v := zI 2) hx hb qd_L_place_19 rfl ?_
      refine vx_ret ?_
      exact W.iret (v := zI 2) hx hb hr (fun t9 ht9 hW9 => ⟨⟨2, ot, rfl, (Or.inr (Or.inr ⟨rfl, hcx.1, hcx.2⟩)), mwB_i (by rw [ht9]; exact hP) (va_K.moved hW9.alike hK) hD⟩, hS.F ht9⟩) hS.2.2 qd_L_place_20
  · skip
    obtain ⟨hP, hD⟩ := mw_join (wr := [(ou, .inl (cJ, 1, .inr (.inl (fun _ => ot))))]) (w1 := []) hP hD [] [0] rfl rfl (by decide) (by decide) hk9 hFr ht9 hB9
    have hP := hP.sub (ws' := [(ou, .inl (cJ, 1, .inr (.inl (fun _ => ot))))]) [0] rfl
    have hD := hD.sub (ws' := [(ou, .inl (cJ, 1, .inr (.inl (fun _ => ot))))]) [0] (by decide) rfl
    have hF := fz_keep hF0 hFA hS
    obtain ⟨y1, y2, e9⟩ := hr5
    subst e9
    refine lv_i2l (v := (zI ((TH x.toNat y.toNat))).toInt64) hx hb qd_L_place_8 rfl ?_
    refine zj_last hx hb hK hP hD hS 0 rfl rfl qd_L_place_9 (fun H9_2 L9_2 hP hD hS => ?_)
    have hP : va_P (dC, dI) qcl [(ou, .inl (cJ, 1, .inr (.inl (fun _ => (zI ((TH x.toNat y.toNat))).toInt64))))] H9_2 := hP
    have hD : va_D A [(ou, .inl (cJ, 1, .inr (.inl (fun _ => (zI ((TH x.toNat y.toNat))).toInt64))))] := hD
    have hF := fz_keep hF0 hFA hS
    refine lv_goto (tgt := 21) hx hb qd_L_place_10 (by decide) ?_
    refine lv_iconst (v := zI 0) hx hb qd_L_place_21 rfl ?_
    refine vx_ret ?_
    exact W.iret (v := zI 0) hx hb hr (fun t9 ht9 hW9 => ⟨⟨0, (zI (TH x.toNat y.toNat)).toInt64, rfl, (Or.inl ⟨rfl, y1, y2, rfl⟩), mwB_i (by rw [ht9]; exact hP) (va_K.moved hW9.alike hK) hD⟩, hS.F ht9⟩) hS.2.2 qd_L_place_22
