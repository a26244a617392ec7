abbrev eI (f : Nat → Nat) : Nat → Int := fun k => (f k : Int)
theorem zz_eald {p : Program} {l : Launch} {e : Env} {R : Room} {s : State} {m : MethodId} {args : Array Value} {below : List Frame} {meth : Method} {c : Code} {H : Heap} {locs : List Loc} {cells slots : Nat} {Q : State → Prop} {cc : ByteArray} {pc : Nat} {ls : Array Slot} {rest : List Value} {D : va_G} {cl : List vw_C} {tys : List (ClassId × FieldType)} {ws : va_W} (hx : p.tables.exec = Jvm.exec) (hb : c.code = cc) (hK : va_K D cl tys s) (hP : va_P D cl ws H) (q0 t0 : Nat) {a : Nat} {cA : ClassId} {N : Nat} {f : Nat → Nat} (ha : ws[q0]? = some (a, .inl (cA, N, .inl (zA (eI f))))) (ht : tys[t0]? = some (cA, .int)) {i : Int} (n : Nat) (hi : i = (n : Int)) (hn : n < N) (hN : N < 2147483648) (hd : decode cc pc = .ok (.iaload, 1)) (k : W p l e R s m args below meth c H locs cells slots Q (F0 m (pc + 1) ls (.int (zI ((f n : Nat) : Int)) :: rest))) : W p l e R s m args below meth c H locs cells slots Q (F0 m pc ls (.int (zI i) :: .ref a :: rest)) :=
  zz_iald hx hb hK hP q0 t0 ha ht n hi hn hN hd k
theorem eI_un (f : Nat → Nat) (n x : Nat) : uz (eI f) n (x : Int) = eI (un f n x) := by
  funext j
  simp only [uz, un, eI]
  split <;> rfl
theorem zz_east {p : Program} {l : Launch} {e : Env} {R : Room} {s : State} {m : MethodId} {args : Array Value} {below : List Frame} {meth : Method} {c : Code} {H : Heap} {locs : List Loc} {cells slots : Nat} {Q : State → Prop} {cc : ByteArray} {pc : Nat} {ls : Array Slot} {rest : List Value} {D : va_G} {cl : List vw_C} {tys : List (ClassId × FieldType)} {ws : va_W} {A : Nat → Prop} {H0 : Heap} (hx : p.tables.exec = Jvm.exec) (hb : c.code = cc) (hK : va_K D cl tys s) (hP : va_P D cl ws H) (hD : va_D A ws) (hS : va_S A H0 H locs) (q0 t0 : Nat) {a : Nat} {cA : ClassId} {N : Nat} {f : Nat → Nat} (ha : ws[q0]? = some (a, .inl (cA, N, .inl (zA (eI f))))) (ht : tys[t0]? = some (cA, .int)) {i x : Int} (n : Nat) (hi : i = (n : Int)) (hn : n < N) (hN : N < 2147483648) (y : Nat) (hy : x = (y : Int)) (hd : decode cc pc = .ok (.iastore, 1)) (kk : ∀ (H1 : Heap) (locs1 : List Loc), va_P D cl (ws.set q0 (a, .inl (cA, N, .inl (zA (eI (un f n y)))))) H1 → va_D A (ws.set q0 (a, .inl (cA, N, .inl (zA (eI (un f n y)))))) → va_S A H0 H1 locs1 → W p l e R s m args below meth c H1 locs1 cells slots Q (F0 m (pc + 1) ls rest)) : W p l e R s m args below meth c H locs cells slots Q (F0 m pc ls (.int (zI x) :: .int (zI i) :: .ref a :: rest)) := by
  subst hy
  refine zz_iast hx hb hK hP hD hS q0 t0 ha ht n hi hn hN hd ?_
  rw [eI_un]
  exact kk
abbrev qty (cI cZ cT cJ : ClassId) : List (ClassId × FieldType) := [(cI, .int), (cZ, .boolean), (cT, .object "TermOrders$Term"), (cJ, .long)]
theorem bT {P : Prop} (h : P) : (true = true ↔ P) := ⟨fun _ => h, fun _ => rfl⟩
theorem bF {P : Prop} (h : ¬ P) : (false = true ↔ P) := ⟨fun q => Bool.noConfusion q, fun q => absurd q h⟩
theorem bI_f (b : Bool) : fits .boolean (.int (zI (bI b))) = true := by cases b <;> rfl
theorem bI_n (b : Bool) : narrow .boolean (.int (zI (bI b))) = .int (zI (bI b)) := by cases b <;> rfl
set_option maxHeartbeats 4000000 in
set_option maxRecDepth 100000 in
theorem c_T_isVariable (l : Launch) (dC : Nat → ClassId) (dI : Nat → Nat → Nat) (cI cZ cT cJ : ClassId) (a aH aP aE n : Nat) (th tm : Nat → Int) (te : Nat → Nat) (tg : Int) (p : Nat) (h16 : n ≤ 16) (hh : ∀ q, q < n → -4 ≤ th q ∧ th q ≤ 4) (hp : p < n) : Met l qy_T_isVariable qw_T_isVariable ({ frames := 0, cells := 0, slots := 0, locals := 0 }) (rdP (dC, dI) qcl (qty cI cZ cT cJ) nwL [(a, .inr (1, [.ref aH, .ref aP, .ref aE, .int (zI (↑n)), .int (zI (tg))])), (aH, .inl (cI, n, .inl (zA th))), (aP, .inl (cI, n, .inl (zA tm))), (aE, .inl (cI, n, .inl (zA (eI te))))] [.ref a, .int (zI (↑p))]) (rdB (th p < 0)) 0 0 (fun _ => False) := by
  refine Met.ofW (cc := qc_T_isVariable) (maxL := 2) (ret := (Option.some Jvm.ClassFile.FieldType.boolean)) (by decide) rfl ?_
  intro pg eg sg mg args below meth cg s₁ B hml hv
  obtain ⟨rfl, hF, hK, hN⟩ := hv
  have hx := B.exec
  have hb := B.bytes
  have hr := B.returns
  have hts := atoms_spec (ws := qw_T_isVariable) B.pre
  have hg : ∀ w ∈ gw, w.before _ sg = true := fun w h => hts w (List.mem_cons_of_mem _ h)
  have hown : sg.vm.findClass "TermOrders$Term" = some mg.cls := findClass_of_methodNamed B.named
  have hlocks := B.notSynchronized
  have hl := lv_entry ([.ref a, .int (zI (↑p))]) (n := 2) (Nat.le_of_ble_eq_true rfl)
  rw [lg_entry_eq]
  generalize (lg_sl ([.ref a, .int (zI (↑p))]) ++ List.replicate (2 - (lg_sl ([.ref a, .int (zI (↑p))])).length) Slot.unset).toArray = ls at hl ⊢
  have hl : lv_has ls 2 [(0, .ref a), (1, .int (zI (↑p)))] := hl
  have hq := hh p hp
  refine lv_aload_n hx hb qd_T_isVariable_0 rfl (lv_at hl 0 rfl) ?_
  refine va_get (D := (dC, dI)) (ci := 1) (v := .ref aH) (C := "TermOrders$Term") (T := qT_T) (N := 5) hx hb hg qi_T hown hK hF 0 rfl rfl 0 (by decide) (hg _ wd_323) (fun _ h9 => h9) rfl qd_T_isVariable_1 ?_
  refine lv_iload_n hx hb qd_T_isVariable_4 rfl (lv_at hl 1 rfl) ?_
  refine zz_iald hx hb hK hF 1 0 rfl rfl p rfl (by omega) (by omega) qd_T_isVariable_5 ?_
  refine zz_if_ge (tgt := 13) hx hb qd_T_isVariable_6 (by decide) (by omega) (fun h6 => ?_) (fun h6 => ?_)
  · skip
    refine lv_iconst (v := zI 0) hx hb qd_T_isVariable_13 rfl ?_
    exact W.zret (v := zI 0) (ty := .boolean) hx hb hr rfl (fun t9 ht9 _ => ⟨false, rfl, bF (by omega), ht9⟩) t_nil qd_T_isVariable_14
  · skip
    refine lv_iconst (v := zI 1) hx hb qd_T_isVariable_9 rfl ?_
    refine lv_goto (tgt := 14) hx hb qd_T_isVariable_10 (by decide) ?_
    exact W.zret (v := zI 1) (ty := .boolean) hx hb hr rfl (fun t9 ht9 _ => ⟨true, rfl, bT (by omega), ht9⟩) t_nil qd_T_isVariable_14
set_option maxHeartbeats 4000000 in
set_option maxRecDepth 100000 in
theorem c_T_partOf (l : Launch) (dC : Nat → ClassId) (dI : Nat → Nat → Nat) (cI cZ cT cJ : ClassId) (a aH aP aE n : Nat) (th tm : Nat → Int) (te : Nat → Nat) (tg : Int) (p kk : Nat) (h16 : n ≤ 16) (we : wfE tm n te) (hp : p < n) (hk : (kk : Int) ≤ tm p) (hk3 : kk ≤ 3) : Met l qy_T_partOf qw_T_partOf ({ frames := 0, cells := 0, slots := 0, locals := 0 }) (rdP (dC, dI) qcl (qty cI cZ cT cJ) nwL [(a, .inr (1, [.ref aH, .ref aP, .ref aE, .int (zI (↑n)), .int (zI (tg))])), (aH, .inl (cI, n, .inl (zA th))), (aP, .inl (cI, n, .inl (zA tm))), (aE, .inl (cI, n, .inl (zA (eI te))))] [.ref a, .int (zI (↑p)), .int (zI (↑kk))]) (rdI (fun r => r = ↑(prt te p kk))) 0 0 (fun _ => False) := by
  refine Met.ofW (cc := qc_T_partOf) (maxL := 5) (ret := (Option.some Jvm.ClassFile.FieldType.int)) (by decide) rfl ?_
  intro pg eg sg mg args below meth cg s₁ B hml hv
  obtain ⟨rfl, hF, hK, hN⟩ := hv
  have hx := B.exec
  have hb := B.bytes
  have hr := B.returns
  have hts := atoms_spec (ws := qw_T_partOf) B.pre
  have hg : ∀ w ∈ gw, w.before _ sg = true := fun w h => hts w (List.mem_cons_of_mem _ h)
  have hown : sg.vm.findClass "TermOrders$Term" = some mg.cls := findClass_of_methodNamed B.named
  have hlocks := B.notSynchronized
  have hl := lv_entry ([.ref a, .int (zI (↑p)), .int (zI (↑kk))]) (n := 5) (Nat.le_of_ble_eq_true rfl)
  rw [lg_entry_eq]
  generalize (lg_sl ([.ref a, .int (zI (↑p)), .int (zI (↑kk))]) ++ List.replicate (5 - (lg_sl ([.ref a, .int (zI (↑p)), .int (zI (↑kk))])).length) Slot.unset).toArray = ls at hl ⊢
  have hl : lv_has ls 5 [(0, .ref a), (1, .int (zI (↑p))), (2, .int (zI (↑kk)))] := hl
  obtain ⟨w1, w2, w3, w4⟩ := we p hp
  refine lv_iload_n hx hb qd_T_partOf_0 rfl (lv_at hl 1 rfl) ?_
  refine lv_iconst (v := zI 1) hx hb qd_T_partOf_1 rfl ?_
  refine zz_iadd hx hb ((↑p) + 1) rfl qd_T_partOf_2 ?_
  refine lv_istore_n (lv' := [(3, .int (zI ((↑p) + 1))), (0, .ref a), (1, .int (zI (↑p))), (2, .int (zI (↑kk)))]) hx hb qd_T_partOf_3 rfl hl (by decide) rfl (fun ls hl => ?_)
  refine lv_iconst (v := zI 0) hx hb qd_T_partOf_4 rfl ?_
  refine lv_istore (lv' := [(4, .int (zI (0))), (3, .int (zI ((↑p) + 1))), (0, .ref a), (1, .int (zI (↑p))), (2, .int (zI (↑kk)))]) hx hb qd_T_partOf_5 hl (by decide) rfl (fun ls hl => ?_)
  have L7 : ∀ (d9 : Nat) (i : Nat), (i ≤ kk) → kk - i = d9 → ∀ ls : Array Slot, lv_has ls 5 [(4, .int (zI (↑i))), (3, .int (zI (↑(prt te p i)))), (0, .ref a), (1, .int (zI (↑p))), (2, .int (zI (↑kk)))] → W pg l eg (headSpec qw_T_partOf ({ frames := 0, cells := 0, slots := 0, locals := 0 })).room sg mg ([.ref a, .int (zI (↑p)), .int (zI (↑kk))] : List Value).toArray below meth cg sg.heap [] 0 0 (MQ below (rdI (fun r => r = ↑(prt te p kk))) ([.ref a, .int (zI (↑p)), .int (zI (↑kk))] : List Value).toArray sg 0 0 (fun _ => False)) (F0 mg 7 ls []) := by
    intro d9
    induction d9 using Nat.strongRecOn with
    | _ d9 ih7 =>
      intro i hi hd9 ls hl
      have hq := prt_in we hp i (by omega)
      refine lv_iload hx hb qd_T_partOf_7 (lv_at hl 0 rfl) ?_
      refine lv_iload_n hx hb qd_T_partOf_9 rfl (lv_at hl 4 rfl) ?_
      refine zz_icmp_ge (tgt := 34) hx hb qd_T_partOf_10 (by decide) (by omega) (by omega) (fun h10 => ?_) (fun h10 => ?_)
      · skip
        refine lv_iload_n hx hb qd_T_partOf_34 rfl (lv_at hl 1 rfl) ?_
        exact W.iret (v := zI (↑(prt te p i))) hx hb hr (fun t9 ht9 _ => ⟨↑(prt te p i), rfl, (by rw [show i = kk by omega]), ht9⟩) t_nil qd_T_partOf_35
      · skip
        refine lv_iload_n hx hb qd_T_partOf_13 rfl (lv_at hl 1 rfl) ?_
        refine lv_aload_n hx hb qd_T_partOf_14 rfl (lv_at hl 2 rfl) ?_
        refine va_get (D := (dC, dI)) (ci := 1) (v := .int (zI (↑n))) (C := "TermOrders$Term") (T := qT_T) (N := 5) hx hb hg qi_T hown hK hF 0 rfl rfl 3 (by decide) (hg _ wd_336) (fun _ h9 => h9) rfl qd_T_partOf_15 ?_
        refine zz_icmp_ge (tgt := 34) hx hb qd_T_partOf_18 (by decide) (by omega) (by omega) (fun h18 => ?_) (fun h18 => ?_)
        · skip
          exfalso
          have := prt_lt we hp (k := i) (by omega)
          omega
        · skip
          refine lv_aload_n hx hb qd_T_partOf_21 rfl (lv_at hl 2 rfl) ?_
          refine va_get (D := (dC, dI)) (ci := 1) (v := .ref aE) (C := "TermOrders$Term") (T := qT_T) (N := 5) hx hb hg qi_T hown hK hF 0 rfl rfl 2 (by decide) (hg _ wd_333) (fun _ h9 => h9) rfl qd_T_partOf_22 ?_
          refine lv_iload_n hx hb qd_T_partOf_25 rfl (lv_at hl 1 rfl) ?_
          refine zz_eald hx hb hK hF 3 0 rfl rfl (prt te p i) rfl (by omega) (by omega) qd_T_partOf_26 ?_
          refine lv_istore_n (lv' := [(3, .int (zI (↑(te (prt te p i))))), (4, .int (zI (↑i))), (0, .ref a), (1, .int (zI (↑p))), (2, .int (zI (↑kk)))]) hx hb qd_T_partOf_27 rfl hl (by decide) rfl (fun ls hl => ?_)
          refine lv_iinc (k := 1) (lv' := [(4, .int (zI (↑(i + 1)))), (3, .int (zI (↑(te (prt te p i))))), (0, .ref a), (1, .int (zI (↑p))), (2, .int (zI (↑kk)))]) hx hb qd_T_partOf_28 hl rfl (zI_inc (v := ↑(i + 1)) (by omega)) (by decide) rfl (fun ls hl => ?_)
          refine lv_goto (tgt := 7) hx hb qd_T_partOf_31 (by decide) ?_
          exact ih7 _ (by omega) (i + 1) (by omega) rfl ls hl
  exact L7 _ 0 (by omega) rfl ls hl
set_option maxHeartbeats 4000000 in
set_option maxRecDepth 100000 in
theorem c_T_isSamePlace (l : Launch) (dC : Nat → ClassId) (dI : Nat → Nat → Nat) (cI cZ cT cJ : ClassId) (a aH aP aE n : Nat) (th tm : Nat → Int) (te : Nat → Nat) (tg : Int) (a2 aH2 aP2 aE2 n2 : Nat) (th2 tm2 : Nat → Int) (te2 : Nat → Nat) (tg2 : Int) (p q : Nat) (h16 : n ≤ 16) (h162 : n2 ≤ 16) (hh : ∀ q, q < n → -4 ≤ th q ∧ th q ≤ 4) (hh2 : ∀ q, q < n2 → -4 ≤ th2 q ∧ th2 q ≤ 4) (we : wfE tm n te) (we2 : wfE tm2 n2 te2) (hp : p < n) (hq : q < n2) : Met l qy_T_isSamePlace qw_T_isSamePlace ({ frames := 0, cells := 0, slots := 0, locals := 0 }) (rdP (dC, dI) qcl (qty cI cZ cT cJ) nwL [(a, .inr (1, [.ref aH, .ref aP, .ref aE, .int (zI (↑n)), .int (zI (tg))])), (aH, .inl (cI, n, .inl (zA th))), (aP, .inl (cI, n, .inl (zA tm))), (aE, .inl (cI, n, .inl (zA (eI te)))), (a2, .inr (1, [.ref aH2, .ref aP2, .ref aE2, .int (zI (↑n2)), .int (zI (tg2))])), (aH2, .inl (cI, n2, .inl (zA th2))), (aP2, .inl (cI, n2, .inl (zA tm2))), (aE2, .inl (cI, n2, .inl (zA (eI te2))))] [.ref a, .int (zI (↑p)), .ref a2, .int (zI (↑q))]) (rdB (smP th te p th2 te2 q)) 0 0 (fun _ => False) := by
  refine Met.ofW (cc := qc_T_isSamePlace) (maxL := 6) (ret := (Option.some Jvm.ClassFile.FieldType.boolean)) (by decide) rfl ?_
  intro pg eg sg mg args below meth cg s₁ B hml hv
  obtain ⟨rfl, hF, hK, hN⟩ := hv
  have hx := B.exec
  have hb := B.bytes
  have hr := B.returns
  have hts := atoms_spec (ws := qw_T_isSamePlace) B.pre
  have hg : ∀ w ∈ gw, w.before _ sg = true := fun w h => hts w (List.mem_cons_of_mem _ h)
  have hown : sg.vm.findClass "TermOrders$Term" = some mg.cls := findClass_of_methodNamed B.named
  have hlocks := B.notSynchronized
  have hl := lv_entry ([.ref a, .int (zI (↑p)), .ref a2, .int (zI (↑q))]) (n := 6) (Nat.le_of_ble_eq_true rfl)
  rw [lg_entry_eq]
  generalize (lg_sl ([.ref a, .int (zI (↑p)), .ref a2, .int (zI (↑q))]) ++ List.replicate (6 - (lg_sl ([.ref a, .int (zI (↑p)), .ref a2, .int (zI (↑q))])).length) Slot.unset).toArray = ls at hl ⊢
  have hl : lv_has ls 6 [(0, .ref a), (1, .int (zI (↑p))), (2, .ref a2), (3, .int (zI (↑q)))] := hl
  obtain ⟨w1, w2, w3, w4⟩ := we p hp
  obtain ⟨v1, v2, v3, v4⟩ := we2 q hq
  refine lv_aload_n hx hb qd_T_isSamePlace_0 rfl (lv_at hl 0 rfl) ?_
  refine va_get (D := (dC, dI)) (ci := 1) (v := .ref aE) (C := "TermOrders$Term") (T := qT_T) (N := 5) hx hb hg qi_T hown hK hF 0 rfl rfl 2 (by decide) (hg _ wd_333) (fun _ h9 => h9) rfl qd_T_isSamePlace_1 ?_
  refine lv_iload_n hx hb qd_T_isSamePlace_4 rfl (lv_at hl 1 rfl) ?_
  refine zz_eald hx hb hK hF 3 0 rfl rfl p rfl (by omega) (by omega) qd_T_isSamePlace_5 ?_
  refine lv_iload_n hx hb qd_T_isSamePlace_6 rfl (lv_at hl 1 rfl) ?_
  refine zz_isub hx hb ((↑(te p)) - (↑p)) rfl qd_T_isSamePlace_7 ?_
  refine lv_istore (lv' := [(4, .int (zI ((↑(te p)) - (↑p)))), (0, .ref a), (1, .int (zI (↑p))), (2, .ref a2), (3, .int (zI (↑q)))]) hx hb qd_T_isSamePlace_8 hl (by decide) rfl (fun ls hl => ?_)
  refine lv_iload hx hb qd_T_isSamePlace_10 (lv_at hl 0 rfl) ?_
  refine lv_aload_n hx hb qd_T_isSamePlace_12 rfl (lv_at hl 3 rfl) ?_
  refine va_get (D := (dC, dI)) (ci := 1) (v := .ref aE2) (C := "TermOrders$Term") (T := qT_T) (N := 5) hx hb hg qi_T hown hK hF 4 rfl rfl 2 (by decide) (hg _ wd_333) (fun _ h9 => h9) rfl qd_T_isSamePlace_13 ?_
  refine lv_iload_n hx hb qd_T_isSamePlace_16 rfl (lv_at hl 4 rfl) ?_
  refine zz_eald hx hb hK hF 7 0 rfl rfl q rfl (by omega) (by omega) qd_T_isSamePlace_17 ?_
  refine lv_iload_n hx hb qd_T_isSamePlace_18 rfl (lv_at hl 4 rfl) ?_
  refine zz_isub hx hb ((↑(te2 q)) - (↑q)) rfl qd_T_isSamePlace_19 ?_
  refine zz_icmp_eq (tgt := 25) hx hb qd_T_isSamePlace_20 (by decide) (by omega) (by omega) (fun h20 => ?_) (fun h20 => ?_)
  · skip
    refine lv_iconst (v := zI 0) hx hb qd_T_isSamePlace_25 rfl ?_
    refine lv_istore (lv' := [(5, .int (zI (0))), (4, .int (zI ((↑(te p)) - (↑p)))), (0, .ref a), (1, .int (zI (↑p))), (2, .ref a2), (3, .int (zI (↑q)))]) hx hb qd_T_isSamePlace_26 hl (by decide) rfl (fun ls hl => ?_)
    have L28 : ∀ (d9 : Nat) (i : Nat), (i ≤ te p - p) → (∀ k, k < i → th (p + k) = th2 (q + k)) → te p - p - i = d9 → ∀ ls : Array Slot, lv_has ls 6 [(5, .int (zI (↑i))), (4, .int (zI ((↑(te p)) - (↑p)))), (0, .ref a), (1, .int (zI (↑p))), (2, .ref a2), (3, .int (zI (↑q)))] → W pg l eg (headSpec qw_T_isSamePlace ({ frames := 0, cells := 0, slots := 0, locals := 0 })).room sg mg ([.ref a, .int (zI (↑p)), .ref a2, .int (zI (↑q))] : List Value).toArray below meth cg sg.heap [] 0 0 (MQ below (rdB (smP th te p th2 te2 q)) ([.ref a, .int (zI (↑p)), .ref a2, .int (zI (↑q))] : List Value).toArray sg 0 0 (fun _ => False)) (F0 mg 28 ls []) := by
      intro d9
      induction d9 using Nat.strongRecOn with
      | _ d9 ih28 =>
        intro i hi hz hd9 ls hl
        refine lv_iload hx hb qd_T_isSamePlace_28 (lv_at hl 0 rfl) ?_
        refine lv_iload hx hb qd_T_isSamePlace_30 (lv_at hl 1 rfl) ?_
        refine zz_icmp_ge (tgt := 64) hx hb qd_T_isSamePlace_32 (by decide) (by omega) (by omega) (fun h32 => ?_) (fun h32 => ?_)
        · skip
          refine lv_iconst (v := zI 1) hx hb qd_T_isSamePlace_64 rfl ?_
          exact W.zret (v := zI 1) (ty := .boolean) hx hb hr rfl (fun t9 ht9 _ => ⟨true, rfl, bT (⟨by omega, fun k hk => hz k (by omega)⟩), ht9⟩) t_nil qd_T_isSamePlace_65
        · skip
          refine lv_aload_n hx hb qd_T_isSamePlace_35 rfl (lv_at hl 2 rfl) ?_
          refine va_get (D := (dC, dI)) (ci := 1) (v := .ref aH) (C := "TermOrders$Term") (T := qT_T) (N := 5) hx hb hg qi_T hown hK hF 0 rfl rfl 0 (by decide) (hg _ wd_323) (fun _ h9 => h9) rfl qd_T_isSamePlace_36 ?_
          refine lv_iload_n hx hb qd_T_isSamePlace_39 rfl (lv_at hl 3 rfl) ?_
          refine lv_iload hx hb qd_T_isSamePlace_40 (lv_at hl 0 rfl) ?_
          refine zz_iadd hx hb ((↑p) + (↑i)) rfl qd_T_isSamePlace_42 ?_
          have hq1 := hh (p + i) (by omega)
          have hq2 := hh2 (q + i) (by omega)
          refine zz_iald hx hb hK hF 1 0 rfl rfl (p + i) (by omega) (by omega) (by omega) qd_T_isSamePlace_43 ?_
          refine lv_aload_n hx hb qd_T_isSamePlace_44 rfl (lv_at hl 4 rfl) ?_
          refine va_get (D := (dC, dI)) (ci := 1) (v := .ref aH2) (C := "TermOrders$Term") (T := qT_T) (N := 5) hx hb hg qi_T hown hK hF 4 rfl rfl 0 (by decide) (hg _ wd_323) (fun _ h9 => h9) rfl qd_T_isSamePlace_45 ?_
          refine lv_iload_n hx hb qd_T_isSamePlace_48 rfl (lv_at hl 5 rfl) ?_
          refine lv_iload hx hb qd_T_isSamePlace_49 (lv_at hl 0 rfl) ?_
          refine zz_iadd hx hb ((↑q) + (↑i)) rfl qd_T_isSamePlace_51 ?_
          refine zz_iald hx hb hK hF 5 0 rfl rfl (q + i) (by omega) (by omega) (by omega) qd_T_isSamePlace_52 ?_
          refine zz_icmp_eq (tgt := 58) hx hb qd_T_isSamePlace_53 (by decide) (by omega) (by omega) (fun h53 => ?_) (fun h53 => ?_)
          · skip
            refine lv_iinc (k := 0) (lv' := [(5, .int (zI (↑(i + 1)))), (4, .int (zI ((↑(te p)) - (↑p)))), (0, .ref a), (1, .int (zI (↑p))), (2, .ref a2), (3, .int (zI (↑q)))]) hx hb qd_T_isSamePlace_58 hl rfl (zI_inc (v := ↑(i + 1)) (by omega)) (by decide) rfl (fun ls hl => ?_)
            refine lv_goto (tgt := 28) hx hb qd_T_isSamePlace_61 (by decide) ?_
            exact ih28 _ (by omega) (i + 1) (by omega) (fun k hk => if hki : k < i then hz k hki else (by rw [show k = i by omega]; exact h53)) rfl ls hl
          · skip
            refine lv_iconst (v := zI 0) hx hb qd_T_isSamePlace_56 rfl ?_
            exact W.zret (v := zI 0) (ty := .boolean) hx hb hr rfl (fun t9 ht9 _ => ⟨false, rfl, bF ((fun hs => h53 (hs.2 i (by omega)))), ht9⟩) t_nil qd_T_isSamePlace_57
    exact L28 _ 0 (by omega) (fun k hk => by omega) rfl ls hl
  · skip
    refine lv_iconst (v := zI 0) hx hb qd_T_isSamePlace_23 rfl ?_
    exact W.zret (v := zI 0) (ty := .boolean) hx hb hr rfl (fun t9 ht9 _ => ⟨false, rfl, bF ((fun hs => by have := hs.1; omega)), ht9⟩) t_nil qd_T_isSamePlace_24
set_option maxHeartbeats 4000000 in
set_option maxRecDepth 100000 in
theorem c_T_firstOtherPart (l : Launch) (dC : Nat → ClassId) (dI : Nat → Nat → Nat) (cI cZ cT cJ : ClassId) (a aH aP aE n : Nat) (th tm : Nat → Int) (te : Nat → Nat) (tg : Int) (a2 aH2 aP2 aE2 n2 : Nat) (th2 tm2 : Nat → Int) (te2 : Nat → Nat) (tg2 : Int) (p q : Nat) (h16 : n ≤ 16) (h162 : n2 ≤ 16) (hh : ∀ q, q < n → -4 ≤ th q ∧ th q ≤ 4) (hh2 : ∀ q, q < n2 → -4 ≤ th2 q ∧ th2 q ≤ 4) (we : wfE tm n te) (we2 : wfE tm2 n2 te2) (hp : p < n) (hq : q < n2) (hm : ∀ q, q < n → 0 ≤ tm q ∧ tm q ≤ 3) (hpq : tm p = tm2 q) : Met l qy_T_firstOtherPart qw_T_firstOtherPart ({ frames := 1, cells := 0, slots := 0, locals := 25 }) (rdP (dC, dI) qcl (qty cI cZ cT cJ) nwL [(a, .inr (1, [.ref aH, .ref aP, .ref aE, .int (zI (↑n)), .int (zI (tg))])), (aH, .inl (cI, n, .inl (zA th))), (aP, .inl (cI, n, .inl (zA tm))), (aE, .inl (cI, n, .inl (zA (eI te)))), (a2, .inr (1, [.ref aH2, .ref aP2, .ref aE2, .int (zI (↑n2)), .int (zI (tg2))])), (aH2, .inl (cI, n2, .inl (zA th2))), (aP2, .inl (cI, n2, .inl (zA tm2))), (aE2, .inl (cI, n2, .inl (zA (eI te2))))] [.ref a, .int (zI (↑p)), .ref a2, .int (zI (↑q))]) (rdI (fun r => (∃ k : Nat, r = ↑k ∧ (k : Int) < tm p ∧ (∀ j, j < k → smP th te (prt te p j) th2 te2 (prt te2 q j)) ∧ ¬ smP th te (prt te p k) th2 te2 (prt te2 q k)) ∨ (r = -1 ∧ ∀ j : Nat, (j : Int) < tm p → smP th te (prt te p j) th2 te2 (prt te2 q j)))) 0 0 (fun _ => False) := by
  refine Met.ofW (cc := qc_T_firstOtherPart) (maxL := 5) (ret := (Option.some Jvm.ClassFile.FieldType.int)) (by decide) rfl ?_
  intro pg eg sg mg args below meth cg s₁ B hml hv
  obtain ⟨rfl, hF, hK, hN⟩ := hv
  have hx := B.exec
  have hb := B.bytes
  have hr := B.returns
  have hts := atoms_spec (ws := qw_T_firstOtherPart) B.pre
  have hg : ∀ w ∈ gw, w.before _ sg = true := fun w h => hts w (List.mem_cons_of_mem _ h)
  have hown : sg.vm.findClass "TermOrders$Term" = some mg.cls := findClass_of_methodNamed B.named
  have hlocks := B.notSynchronized
  have hl := lv_entry ([.ref a, .int (zI (↑p)), .ref a2, .int (zI (↑q))]) (n := 5) (Nat.le_of_ble_eq_true rfl)
  rw [lg_entry_eq]
  generalize (lg_sl ([.ref a, .int (zI (↑p)), .ref a2, .int (zI (↑q))]) ++ List.replicate (5 - (lg_sl ([.ref a, .int (zI (↑p)), .ref a2, .int (zI (↑q))])).length) Slot.unset).toArray = ls at hl ⊢
  have hl : lv_has ls 5 [(0, .ref a), (1, .int (zI (↑p))), (2, .ref a2), (3, .int (zI (↑q)))] := hl
  have hmp := hm p hp
  refine lv_iconst (v := zI 0) hx hb qd_T_firstOtherPart_0 rfl ?_
  refine lv_istore (lv' := [(4, .int (zI (0))), (0, .ref a), (1, .int (zI (↑p))), (2, .ref a2), (3, .int (zI (↑q)))]) hx hb qd_T_firstOtherPart_1 hl (by decide) rfl (fun ls hl => ?_)
  have L3 : ∀ (d9 : Nat) (i : Nat), ((i : Int) ≤ tm p) → (∀ j, j < i → smP th te (prt te p j) th2 te2 (prt te2 q j)) → (tm p).toNat - i = d9 → ∀ ls : Array Slot, lv_has ls 5 [(4, .int (zI (↑i))), (0, .ref a), (1, .int (zI (↑p))), (2, .ref a2), (3, .int (zI (↑q)))] → W pg l eg (headSpec qw_T_firstOtherPart ({ frames := 1, cells := 0, slots := 0, locals := 25 })).room sg mg ([.ref a, .int (zI (↑p)), .ref a2, .int (zI (↑q))] : List Value).toArray below meth cg sg.heap [] 0 0 (MQ below (rdI (fun r => (∃ k : Nat, r = ↑k ∧ (k : Int) < tm p ∧ (∀ j, j < k → smP th te (prt te p j) th2 te2 (prt te2 q j)) ∧ ¬ smP th te (prt te p k) th2 te2 (prt te2 q k)) ∨ (r = -1 ∧ ∀ j : Nat, (j : Int) < tm p → smP th te (prt te p j) th2 te2 (prt te2 q j)))) ([.ref a, .int (zI (↑p)), .ref a2, .int (zI (↑q))] : List Value).toArray sg 0 0 (fun _ => False)) (F0 mg 3 ls []) := by
    intro d9
    induction d9 using Nat.strongRecOn with
    | _ d9 ih3 =>
      intro i hi hz hd9 ls hl
      refine lv_iload hx hb qd_T_firstOtherPart_3 (lv_at hl 0 rfl) ?_
      refine lv_aload_n hx hb qd_T_firstOtherPart_5 rfl (lv_at hl 1 rfl) ?_
      refine va_get (D := (dC, dI)) (ci := 1) (v := .ref aP) (C := "TermOrders$Term") (T := qT_T) (N := 5) hx hb hg qi_T hown hK hF 0 rfl rfl 1 (by decide) (hg _ wd_329) (fun _ h9 => h9) rfl qd_T_firstOtherPart_6 ?_
      refine lv_iload_n hx hb qd_T_firstOtherPart_9 rfl (lv_at hl 2 rfl) ?_
      refine zz_iald hx hb hK hF 2 0 rfl rfl p rfl (by omega) (by omega) qd_T_firstOtherPart_10 ?_
      refine zz_icmp_ge (tgt := 45) hx hb qd_T_firstOtherPart_11 (by decide) (by omega) (by omega) (fun h11 => ?_) (fun h11 => ?_)
      · skip
        refine lv_iconst (v := zI (-1)) hx hb qd_T_firstOtherPart_45 rfl ?_
        exact W.iret (v := zI ((-1))) hx hb hr (fun t9 ht9 _ => ⟨(-1), rfl, (Or.inr ⟨rfl, fun j hj => hz j (by omega)⟩), ht9⟩) t_nil qd_T_firstOtherPart_46
      · skip
        have hp1 := prt_lt we hp (k := i) (by omega)
        have hp2 := prt_lt we2 hq (k := i) (by omega)
        refine lv_aload_n hx hb qd_T_firstOtherPart_14 rfl (lv_at hl 1 rfl) ?_
        refine lv_aload_n hx hb qd_T_firstOtherPart_15 rfl (lv_at hl 1 rfl) ?_
        refine lv_iload_n hx hb qd_T_firstOtherPart_16 rfl (lv_at hl 2 rfl) ?_
        refine lv_iload hx hb qd_T_firstOtherPart_17 (lv_at hl 0 rfl) ?_
        refine rd_callI (W.runV (As := [.int (zI (↑p)), .int (zI (↑i))]) (rest := [.ref a]) ⟨hx, hb, hml, hown, hg⟩ (c_T_partOf l dC dI cI cZ cT cJ a aH aP aE n th tm te tg p i h16 we hp (by omega) (by omega)) ⟨callB_of 2 hg (gw_ok (fun _ h => h) wd_451) rfl rfl rfl (hg _ wd_13) (hg _ wd_466) (by decide +kernel) ⟨Nat.le_of_ble_eq_true rfl, Nat.le_of_ble_eq_true rfl⟩, hg _ wd_450, hg _ se_T_partOf⟩ (rd_preV (va_recv (q0 := 0) hK hF rfl rfl) (pw_c (q := (a, .inr (1, [.ref aH, .ref aP, .ref aE, .int (zI (↑n)), .int (zI (tg))]))) hF 0 rfl (pw_c (q := (aH, .inl (cI, n, .inl (zA th)))) hF 1 rfl (pw_c (q := (aP, .inl (cI, n, .inl (zA tm)))) hF 2 rfl (pw_c (q := (aE, .inl (cI, n, .inl (zA (eI te))))) hF 3 rfl (pw_nil))))) hK hN) rfl rfl hl.1 rfl (lv_room (Nat.le_of_ble_eq_true rfl)) qd_T_firstOtherPart_19 ⟨Nat.le_of_ble_eq_true rfl, Nat.le_of_ble_eq_true rfl⟩) (fun r19 hr19 => ?_)
        have e19 : r19 = ↑(prt te p i) := hr19
        subst e19
        refine lv_aload_n hx hb qd_T_firstOtherPart_22 rfl (lv_at hl 3 rfl) ?_
        refine lv_aload_n hx hb qd_T_firstOtherPart_23 rfl (lv_at hl 3 rfl) ?_
        refine lv_iload_n hx hb qd_T_firstOtherPart_24 rfl (lv_at hl 4 rfl) ?_
        refine lv_iload hx hb qd_T_firstOtherPart_25 (lv_at hl 0 rfl) ?_
        refine rd_callI (W.runV (As := [.int (zI (↑q)), .int (zI (↑i))]) (rest := [.ref a2, .int (zI (↑(prt te p i))), .ref a]) ⟨hx, hb, hml, hown, hg⟩ (c_T_partOf l dC dI cI cZ cT cJ a2 aH2 aP2 aE2 n2 th2 tm2 te2 tg2 q i h162 we2 hq (by omega) (by omega)) ⟨callB_of 2 hg (gw_ok (fun _ h => h) wd_451) rfl rfl rfl (hg _ wd_13) (hg _ wd_466) (by decide +kernel) ⟨Nat.le_of_ble_eq_true rfl, Nat.le_of_ble_eq_true rfl⟩, hg _ wd_450, hg _ se_T_partOf⟩ (rd_preV (va_recv (q0 := 4) hK hF rfl rfl) (pw_c (q := (a2, .inr (1, [.ref aH2, .ref aP2, .ref aE2, .int (zI (↑n2)), .int (zI (tg2))]))) hF 4 rfl (pw_c (q := (aH2, .inl (cI, n2, .inl (zA th2)))) hF 5 rfl (pw_c (q := (aP2, .inl (cI, n2, .inl (zA tm2)))) hF 6 rfl (pw_c (q := (aE2, .inl (cI, n2, .inl (zA (eI te2))))) hF 7 rfl (pw_nil))))) hK hN) rfl rfl hl.1 rfl (lv_room (Nat.le_of_ble_eq_true rfl)) qd_T_firstOtherPart_27 ⟨Nat.le_of_ble_eq_true rfl, Nat.le_of_ble_eq_true rfl⟩) (fun r27 hr27 => ?_)
        have e27 : r27 = ↑(prt te2 q i) := hr27
        subst e27
        refine rd_callB (W.runV (As := [.int (zI (↑(prt te p i))), .ref a2, .int (zI (↑(prt te2 q i)))]) (rest := []) ⟨hx, hb, hml, hown, hg⟩ (c_T_isSamePlace l dC dI cI cZ cT cJ a aH aP aE n th tm te tg a2 aH2 aP2 aE2 n2 th2 tm2 te2 tg2 (prt te p i) (prt te2 q i) h16 h162 hh hh2 we we2 (by omega) (by omega)) ⟨callB_of 3 hg (gw_ok (fun _ h => h) wd_455) rfl rfl rfl (hg _ wd_13) (hg _ wd_467) (by decide +kernel) ⟨Nat.le_of_ble_eq_true rfl, Nat.le_of_ble_eq_true rfl⟩, hg _ wd_454, hg _ se_T_isSamePlace⟩ (rd_preV (va_recv (q0 := 0) hK hF rfl rfl) (pw_c (q := (a, .inr (1, [.ref aH, .ref aP, .ref aE, .int (zI (↑n)), .int (zI (tg))]))) hF 0 rfl (pw_c (q := (aH, .inl (cI, n, .inl (zA th)))) hF 1 rfl (pw_c (q := (aP, .inl (cI, n, .inl (zA tm)))) hF 2 rfl (pw_c (q := (aE, .inl (cI, n, .inl (zA (eI te))))) hF 3 rfl (pw_c (q := (a2, .inr (1, [.ref aH2, .ref aP2, .ref aE2, .int (zI (↑n2)), .int (zI (tg2))]))) hF 4 rfl (pw_c (q := (aH2, .inl (cI, n2, .inl (zA th2)))) hF 5 rfl (pw_c (q := (aP2, .inl (cI, n2, .inl (zA tm2)))) hF 6 rfl (pw_c (q := (aE2, .inl (cI, n2, .inl (zA (eI te2))))) hF 7 rfl (pw_nil))))))))) hK hN) rfl rfl hl.1 rfl (lv_room (Nat.le_of_ble_eq_true rfl)) qd_T_firstOtherPart_30 ⟨Nat.le_of_ble_eq_true rfl, Nat.le_of_ble_eq_true rfl⟩) (fun r30 hr30 => ?_)
        refine zz_ifneB (tgt := 39) hx hb qd_T_firstOtherPart_33 (by decide) (fun h33 => ?_) (fun h33 => ?_)
        · skip
          refine lv_iinc (k := 0) (lv' := [(4, .int (zI (↑(i + 1)))), (0, .ref a), (1, .int (zI (↑p))), (2, .ref a2), (3, .int (zI (↑q)))]) hx hb qd_T_firstOtherPart_39 hl rfl (zI_inc (v := ↑(i + 1)) (by omega)) (by decide) rfl (fun ls hl => ?_)
          refine lv_goto (tgt := 3) hx hb qd_T_firstOtherPart_42 (by decide) ?_
          exact ih3 _ (by omega) (i + 1) (by omega) (fun k hk => if hki : k < i then hz k hki else (by rw [show k = i by omega]; exact hr30.mp h33)) rfl ls hl
        · skip
          refine lv_iload hx hb qd_T_firstOtherPart_36 (lv_at hl 0 rfl) ?_
          exact W.iret (v := zI (↑i)) hx hb hr (fun t9 ht9 _ => ⟨↑i, rfl, (Or.inl ⟨i, rfl, by omega, hz, fun hs => by rw [hr30.mpr hs] at h33; exact Bool.noConfusion h33⟩), ht9⟩) t_nil qd_T_firstOtherPart_38
  exact L3 _ 0 (by omega) (fun j hj => by omega) rfl ls hl
set_option maxHeartbeats 4000000 in
set_option maxRecDepth 100000 in
theorem c_T_countInPlace (l : Launch) (dC : Nat → ClassId) (dI : Nat → Nat → Nat) (cI cZ cT cJ : ClassId) (a aH aP aE n : Nat) (th tm : Nat → Int) (te : Nat → Nat) (tg : Int) (p : Nat) (hd : Int) (h16 : n ≤ 16) (hh : ∀ q, q < n → -4 ≤ th q ∧ th q ≤ 4) (we : wfE tm n te) (hp : p < n) (hc : -5 ≤ hd ∧ hd ≤ 5) : Met l qy_T_countInPlace qw_T_countInPlace ({ frames := 0, cells := 0, slots := 0, locals := 0 }) (rdP (dC, dI) qcl (qty cI cZ cT cJ) nwL [(a, .inr (1, [.ref aH, .ref aP, .ref aE, .int (zI (↑n)), .int (zI (tg))])), (aH, .inl (cI, n, .inl (zA th))), (aP, .inl (cI, n, .inl (zA tm))), (aE, .inl (cI, n, .inl (zA (eI te))))] [.ref a, .int (zI (↑p)), .int (zI (hd))]) (rdI (fun r => r = cnt th hd p (te p - p))) 0 0 (fun _ => False) := by
  refine Met.ofW (cc := qc_T_countInPlace) (maxL := 5) (ret := (Option.some Jvm.ClassFile.FieldType.int)) (by decide) rfl ?_
  intro pg eg sg mg args below meth cg s₁ B hml hv
  obtain ⟨rfl, hF, hK, hN⟩ := hv
  have hx := B.exec
  have hb := B.bytes
  have hr := B.returns
  have hts := atoms_spec (ws := qw_T_countInPlace) B.pre
  have hg : ∀ w ∈ gw, w.before _ sg = true := fun w h => hts w (List.mem_cons_of_mem _ h)
  have hown : sg.vm.findClass "TermOrders$Term" = some mg.cls := findClass_of_methodNamed B.named
  have hlocks := B.notSynchronized
  have hl := lv_entry ([.ref a, .int (zI (↑p)), .int (zI (hd))]) (n := 5) (Nat.le_of_ble_eq_true rfl)
  rw [lg_entry_eq]
  generalize (lg_sl ([.ref a, .int (zI (↑p)), .int (zI (hd))]) ++ List.replicate (5 - (lg_sl ([.ref a, .int (zI (↑p)), .int (zI (hd))])).length) Slot.unset).toArray = ls at hl ⊢
  have hl : lv_has ls 5 [(0, .ref a), (1, .int (zI (↑p))), (2, .int (zI (hd)))] := hl
  obtain ⟨w1, w2, w3, w4⟩ := we p hp
  refine lv_iconst (v := zI 0) hx hb qd_T_countInPlace_0 rfl ?_
  refine lv_istore_n (lv' := [(3, .int (zI (0))), (0, .ref a), (1, .int (zI (↑p))), (2, .int (zI (hd)))]) hx hb qd_T_countInPlace_1 rfl hl (by decide) rfl (fun ls hl => ?_)
  refine lv_iload_n hx hb qd_T_countInPlace_2 rfl (lv_at hl 2 rfl) ?_
  refine lv_istore (lv' := [(4, .int (zI (↑p))), (3, .int (zI (0))), (0, .ref a), (1, .int (zI (↑p))), (2, .int (zI (hd)))]) hx hb qd_T_countInPlace_3 hl (by decide) rfl (fun ls hl => ?_)
  have L5 : ∀ (d9 : Nat) (i : Nat), (i ≤ te p - p) → te p - p - i = d9 → ∀ ls : Array Slot, lv_has ls 5 [(4, .int (zI (↑(p + i)))), (3, .int (zI (cnt th hd p i))), (0, .ref a), (1, .int (zI (↑p))), (2, .int (zI (hd)))] → W pg l eg (headSpec qw_T_countInPlace ({ frames := 0, cells := 0, slots := 0, locals := 0 })).room sg mg ([.ref a, .int (zI (↑p)), .int (zI (hd))] : List Value).toArray below meth cg sg.heap [] 0 0 (MQ below (rdI (fun r => r = cnt th hd p (te p - p))) ([.ref a, .int (zI (↑p)), .int (zI (hd))] : List Value).toArray sg 0 0 (fun _ => False)) (F0 mg 5 ls []) := by
    intro d9
    induction d9 using Nat.strongRecOn with
    | _ d9 ih5 =>
      intro i hi hd9 ls hl
      refine lv_iload hx hb qd_T_countInPlace_5 (lv_at hl 0 rfl) ?_
      refine lv_aload_n hx hb qd_T_countInPlace_7 rfl (lv_at hl 2 rfl) ?_
      refine va_get (D := (dC, dI)) (ci := 1) (v := .ref aE) (C := "TermOrders$Term") (T := qT_T) (N := 5) hx hb hg qi_T hown hK hF 0 rfl rfl 2 (by decide) (hg _ wd_333) (fun _ h9 => h9) rfl qd_T_countInPlace_8 ?_
      refine lv_iload_n hx hb qd_T_countInPlace_11 rfl (lv_at hl 3 rfl) ?_
      refine zz_eald hx hb hK hF 3 0 rfl rfl p rfl (by omega) (by omega) qd_T_countInPlace_12 ?_
      refine zz_icmp_ge (tgt := 36) hx hb qd_T_countInPlace_13 (by decide) (by omega) (by omega) (fun h13 => ?_) (fun h13 => ?_)
      · skip
        refine lv_iload_n hx hb qd_T_countInPlace_36 rfl (lv_at hl 1 rfl) ?_
        exact W.iret (v := zI (cnt th hd p i)) hx hb hr (fun t9 ht9 _ => ⟨cnt th hd p i, rfl, (by rw [show i = te p - p by omega]), ht9⟩) t_nil qd_T_countInPlace_37
      · skip
        refine lv_aload_n hx hb qd_T_countInPlace_16 rfl (lv_at hl 2 rfl) ?_
        refine va_get (D := (dC, dI)) (ci := 1) (v := .ref aH) (C := "TermOrders$Term") (T := qT_T) (N := 5) hx hb hg qi_T hown hK hF 0 rfl rfl 0 (by decide) (hg _ wd_323) (fun _ h9 => h9) rfl qd_T_countInPlace_17 ?_
        refine lv_iload hx hb qd_T_countInPlace_20 (lv_at hl 0 rfl) ?_
        have hq1 := hh (p + i) (by omega)
        refine zz_iald hx hb hK hF 1 0 rfl rfl (p + i) rfl (by omega) (by omega) qd_T_countInPlace_22 ?_
        refine lv_iload_n hx hb qd_T_countInPlace_23 rfl (lv_at hl 4 rfl) ?_
        refine zz_icmp_ne (tgt := 30) hx hb qd_T_countInPlace_24 (by decide) (by omega) (by omega) (fun h24 => ?_) (fun h24 => ?_)
        · skip
          refine lv_iinc (k := 0) (lv' := [(4, .int (zI (↑(p + (i + 1))))), (3, .int (zI (cnt th hd p i))), (0, .ref a), (1, .int (zI (↑p))), (2, .int (zI (hd)))]) hx hb qd_T_countInPlace_30 hl rfl (zI_inc (v := ↑(p + (i + 1))) (by omega)) (by decide) rfl (fun ls hl => ?_)
          refine lv_goto (tgt := 5) hx hb qd_T_countInPlace_33 (by decide) ?_
          have q9 : cnt th hd p i = cnt th hd p (i + 1) := (by simp only [cnt]; split <;> omega)
          have hl : lv_has ls 5 [(4, .int (zI (↑(p + (i + 1))))), (3, .int (zI (cnt th hd p (i + 1)))), (0, .ref a), (1, .int (zI (↑p))), (2, .int (zI (hd)))] := by have h8 := hl; rw [q9] at h8; exact h8
          exact ih5 _ (by omega) (i + 1) (by omega) rfl ls hl
        · skip
          refine lv_iinc (k := 1) (lv' := [(3, .int (zI ((cnt th hd p i) + 1))), (4, .int (zI (↑(p + i)))), (0, .ref a), (1, .int (zI (↑p))), (2, .int (zI (hd)))]) hx hb qd_T_countInPlace_27 hl rfl (zI_inc (v := (cnt th hd p i) + 1) rfl) (by decide) rfl (fun ls hl => ?_)
          refine lv_iinc (k := 1) (lv' := [(4, .int (zI (↑(p + (i + 1))))), (3, .int (zI ((cnt th hd p i) + 1))), (0, .ref a), (1, .int (zI (↑p))), (2, .int (zI (hd)))]) hx hb qd_T_countInPlace_30 hl rfl (zI_inc (v := ↑(p + (i + 1))) (by omega)) (by decide) rfl (fun ls hl => ?_)
          refine lv_goto (tgt := 5) hx hb qd_T_countInPlace_33 (by decide) ?_
          have q9 : (cnt th hd p i) + 1 = cnt th hd p (i + 1) := (by simp only [cnt]; split <;> omega)
          have hl : lv_has ls 5 [(4, .int (zI (↑(p + (i + 1))))), (3, .int (zI (cnt th hd p (i + 1)))), (0, .ref a), (1, .int (zI (↑p))), (2, .int (zI (hd)))] := by have h8 := hl; rw [q9] at h8; exact h8
          exact ih5 _ (by omega) (i + 1) (by omega) rfl ls hl
  exact L5 _ 0 (by omega) rfl ls hl
set_option maxHeartbeats 4000000 in
set_option maxRecDepth 100000 in
theorem c_T_hasAllVariablesOf (l : Launch) (dC : Nat → ClassId) (dI : Nat → Nat → Nat) (cI cZ cT cJ : ClassId) (a aH aP aE n : Nat) (th tm : Nat → Int) (te : Nat → Nat) (tg : Int) (a2 aH2 aP2 aE2 n2 : Nat) (th2 tm2 : Nat → Int) (te2 : Nat → Nat) (tg2 : Int) (h16 : n ≤ 16) (h162 : n2 ≤ 16) (hh : ∀ q, q < n → -4 ≤ th q ∧ th q ≤ 4) (hh2 : ∀ q, q < n2 → -4 ≤ th2 q ∧ th2 q ≤ 4) (we : wfE tm n te) (hn : 0 < n) (h0 : te 0 = n) : Met l qy_T_hasAllVariablesOf qw_T_hasAllVariablesOf ({ frames := 1, cells := 0, slots := 0, locals := 24 }) (rdP (dC, dI) qcl (qty cI cZ cT cJ) nwL [(a, .inr (1, [.ref aH, .ref aP, .ref aE, .int (zI (↑n)), .int (zI (tg))])), (aH, .inl (cI, n, .inl (zA th))), (aP, .inl (cI, n, .inl (zA tm))), (aE, .inl (cI, n, .inl (zA (eI te)))), (a2, .inr (1, [.ref aH2, .ref aP2, .ref aE2, .int (zI (↑n2)), .int (zI (tg2))])), (aH2, .inl (cI, n2, .inl (zA th2))), (aP2, .inl (cI, n2, .inl (zA tm2))), (aE2, .inl (cI, n2, .inl (zA (eI te2))))] [.ref a, .ref a2]) (rdB (∀ q, q < n2 → th2 q < 0 → ∃ k, k < n ∧ th k = th2 q)) 0 0 (fun _ => False) := by
  refine Met.ofW (cc := qc_T_hasAllVariablesOf) (maxL := 3) (ret := (Option.some Jvm.ClassFile.FieldType.boolean)) (by decide) rfl ?_
  intro pg eg sg mg args below meth cg s₁ B hml hv
  obtain ⟨rfl, hF, hK, hN⟩ := hv
  have hx := B.exec
  have hb := B.bytes
  have hr := B.returns
  have hts := atoms_spec (ws := qw_T_hasAllVariablesOf) B.pre
  have hg : ∀ w ∈ gw, w.before _ sg = true := fun w h => hts w (List.mem_cons_of_mem _ h)
  have hown : sg.vm.findClass "TermOrders$Term" = some mg.cls := findClass_of_methodNamed B.named
  have hlocks := B.notSynchronized
  have hl := lv_entry ([.ref a, .ref a2]) (n := 3) (Nat.le_of_ble_eq_true rfl)
  rw [lg_entry_eq]
  generalize (lg_sl ([.ref a, .ref a2]) ++ List.replicate (3 - (lg_sl ([.ref a, .ref a2])).length) Slot.unset).toArray = ls at hl ⊢
  have hl : lv_has ls 3 [(0, .ref a), (1, .ref a2)] := hl
  refine lv_iconst (v := zI 0) hx hb qd_T_hasAllVariablesOf_0 rfl ?_
  refine lv_istore_n (lv' := [(2, .int (zI (0))), (0, .ref a), (1, .ref a2)]) hx hb qd_T_hasAllVariablesOf_1 rfl hl (by decide) rfl (fun ls hl => ?_)
  have L2 : ∀ (d9 : Nat) (i : Nat), (i ≤ n2) → (∀ q, q < i → th2 q < 0 → ∃ k, k < n ∧ th k = th2 q) → n2 - i = d9 → ∀ ls : Array Slot, lv_has ls 3 [(2, .int (zI (↑i))), (0, .ref a), (1, .ref a2)] → W pg l eg (headSpec qw_T_hasAllVariablesOf ({ frames := 1, cells := 0, slots := 0, locals := 24 })).room sg mg ([.ref a, .ref a2] : List Value).toArray below meth cg sg.heap [] 0 0 (MQ below (rdB (∀ q, q < n2 → th2 q < 0 → ∃ k, k < n ∧ th k = th2 q)) ([.ref a, .ref a2] : List Value).toArray sg 0 0 (fun _ => False)) (F0 mg 2 ls []) := by
    intro d9
    induction d9 using Nat.strongRecOn with
    | _ d9 ih2 =>
      intro i hi hz hd9 ls hl
      refine lv_iload_n hx hb qd_T_hasAllVariablesOf_2 rfl (lv_at hl 0 rfl) ?_
      refine lv_aload_n hx hb qd_T_hasAllVariablesOf_3 rfl (lv_at hl 2 rfl) ?_
      refine va_get (D := (dC, dI)) (ci := 1) (v := .int (zI (↑n2))) (C := "TermOrders$Term") (T := qT_T) (N := 5) hx hb hg qi_T hown hK hF 4 rfl rfl 3 (by decide) (hg _ wd_336) (fun _ h9 => h9) rfl qd_T_hasAllVariablesOf_4 ?_
      refine zz_icmp_ge (tgt := 40) hx hb qd_T_hasAllVariablesOf_7 (by decide) (by omega) (by omega) (fun h7 => ?_) (fun h7 => ?_)
      · skip
        refine lv_iconst (v := zI 1) hx hb qd_T_hasAllVariablesOf_40 rfl ?_
        exact W.zret (v := zI 1) (ty := .boolean) hx hb hr rfl (fun t9 ht9 _ => ⟨true, rfl, bT ((fun q hq => hz q (by omega))), ht9⟩) t_nil qd_T_hasAllVariablesOf_41
      · skip
        refine lv_aload_n hx hb qd_T_hasAllVariablesOf_10 rfl (lv_at hl 2 rfl) ?_
        refine lv_iload_n hx hb qd_T_hasAllVariablesOf_11 rfl (lv_at hl 0 rfl) ?_
        refine rd_callB (W.runV (As := [.int (zI (↑i))]) (rest := []) ⟨hx, hb, hml, hown, hg⟩ (c_T_isVariable l dC dI cI cZ cT cJ a2 aH2 aP2 aE2 n2 th2 tm2 te2 tg2 i h162 hh2 (by omega)) ⟨callB_of 1 hg (gw_ok (fun _ h => h) wd_388) rfl rfl rfl (hg _ wd_13) (hg _ wd_393) (by decide +kernel) ⟨Nat.le_of_ble_eq_true rfl, Nat.le_of_ble_eq_true rfl⟩, hg _ wd_387, hg _ se_T_isVariable⟩ (rd_preV (va_recv (q0 := 4) hK hF rfl rfl) (pw_c (q := (a2, .inr (1, [.ref aH2, .ref aP2, .ref aE2, .int (zI (↑n2)), .int (zI (tg2))]))) hF 4 rfl (pw_c (q := (aH2, .inl (cI, n2, .inl (zA th2)))) hF 5 rfl (pw_c (q := (aP2, .inl (cI, n2, .inl (zA tm2)))) hF 6 rfl (pw_c (q := (aE2, .inl (cI, n2, .inl (zA (eI te2))))) hF 7 rfl (pw_nil))))) hK hN) rfl rfl hl.1 rfl (lv_room (Nat.le_of_ble_eq_true rfl)) qd_T_hasAllVariablesOf_12 ⟨Nat.le_of_ble_eq_true rfl, Nat.le_of_ble_eq_true rfl⟩) (fun r12 hr12 => ?_)
        refine zz_ifeqB (tgt := 34) hx hb qd_T_hasAllVariablesOf_15 (by decide) (fun h15 => ?_) (fun h15 => ?_)
        · skip
          have hn9 : th2 i < 0 → ∃ k, k < n ∧ th k = th2 i := fun hv => by rw [hr12.mpr hv] at h15; exact Bool.noConfusion h15
          refine lv_iinc (k := 0) (lv' := [(2, .int (zI (↑(i + 1)))), (0, .ref a), (1, .ref a2)]) hx hb qd_T_hasAllVariablesOf_34 hl rfl (zI_inc (v := ↑(i + 1)) (by omega)) (by decide) rfl (fun ls hl => ?_)
          refine lv_goto (tgt := 2) hx hb qd_T_hasAllVariablesOf_37 (by decide) ?_
          exact ih2 _ (by omega) (i + 1) (by omega) (fun q hq hv => if hqi : q < i then hz q hqi hv else (by rw [show q = i by omega] at hv ⊢; exact hn9 hv)) rfl ls hl
        · skip
          have hq1 := hh2 i (by omega)
          have hv9 := hr12.mp h15
          refine lv_aload_n hx hb qd_T_hasAllVariablesOf_18 rfl (lv_at hl 1 rfl) ?_
          refine lv_iconst (v := zI 0) hx hb qd_T_hasAllVariablesOf_19 rfl ?_
          refine lv_aload_n hx hb qd_T_hasAllVariablesOf_20 rfl (lv_at hl 2 rfl) ?_
          refine va_get (D := (dC, dI)) (ci := 1) (v := .ref aH2) (C := "TermOrders$Term") (T := qT_T) (N := 5) hx hb hg qi_T hown hK hF 4 rfl rfl 0 (by decide) (hg _ wd_323) (fun _ h9 => h9) rfl qd_T_hasAllVariablesOf_21 ?_
          refine lv_iload_n hx hb qd_T_hasAllVariablesOf_24 rfl (lv_at hl 0 rfl) ?_
          refine zz_iald hx hb hK hF 5 0 rfl rfl i rfl (by omega) (by omega) qd_T_hasAllVariablesOf_25 ?_
          refine rd_callI (W.runV (As := [.int (zI (↑0)), .int (zI ((th2 i)))]) (rest := []) ⟨hx, hb, hml, hown, hg⟩ (c_T_countInPlace l dC dI cI cZ cT cJ a aH aP aE n th tm te tg 0 (th2 i) h16 hh we hn (by omega)) ⟨callB_of 2 hg (gw_ok (fun _ h => h) wd_397) rfl rfl rfl (hg _ wd_13) (hg _ wd_394) (by decide +kernel) ⟨Nat.le_of_ble_eq_true rfl, Nat.le_of_ble_eq_true rfl⟩, hg _ wd_396, hg _ se_T_countInPlace⟩ (rd_preV (va_recv (q0 := 0) hK hF rfl rfl) (pw_c (q := (a, .inr (1, [.ref aH, .ref aP, .ref aE, .int (zI (↑n)), .int (zI (tg))]))) hF 0 rfl (pw_c (q := (aH, .inl (cI, n, .inl (zA th)))) hF 1 rfl (pw_c (q := (aP, .inl (cI, n, .inl (zA tm)))) hF 2 rfl (pw_c (q := (aE, .inl (cI, n, .inl (zA (eI te))))) hF 3 rfl (pw_nil))))) hK hN) rfl rfl hl.1 rfl (lv_room (Nat.le_of_ble_eq_true rfl)) qd_T_hasAllVariablesOf_26 ⟨Nat.le_of_ble_eq_true rfl, Nat.le_of_ble_eq_true rfl⟩) (fun r26 hr26 => ?_)
          have e26 : r26 = cnt th (th2 i) 0 (te 0 - 0) := hr26
          subst e26
          refine zz_if_ne (tgt := 34) hx hb qd_T_hasAllVariablesOf_29 (by decide) (by have := cnt_b (h := th) (c := th2 i) (a := 0) (te 0 - 0); omega) (fun h29 => ?_) (fun h29 => ?_)
          · skip
            have hn9 : th2 i < 0 → ∃ k, k < n ∧ th k = th2 i := fun _ => Classical.byContradiction (fun hc => h29 ((cnt_0 _).mpr (fun k hk he => hc ⟨k, by omega, by rw [Nat.zero_add] at he; exact he⟩)))
            refine lv_iinc (k := 0) (lv' := [(2, .int (zI (↑(i + 1)))), (0, .ref a), (1, .ref a2)]) hx hb qd_T_hasAllVariablesOf_34 hl rfl (zI_inc (v := ↑(i + 1)) (by omega)) (by decide) rfl (fun ls hl => ?_)
            refine lv_goto (tgt := 2) hx hb qd_T_hasAllVariablesOf_37 (by decide) ?_
            exact ih2 _ (by omega) (i + 1) (by omega) (fun q hq hv => if hqi : q < i then hz q hqi hv else (by rw [show q = i by omega] at hv ⊢; exact hn9 hv)) rfl ls hl
          · skip
            refine lv_iconst (v := zI 0) hx hb qd_T_hasAllVariablesOf_32 rfl ?_
            exact W.zret (v := zI 0) (ty := .boolean) hx hb hr rfl (fun t9 ht9 _ => ⟨false, rfl, bF ((fun hs => by obtain ⟨k, hk1, hk2⟩ := hs i (by omega) hv9; exact (cnt_0 _).mp h29 k (by omega) (by rw [Nat.zero_add]; exact hk2))), ht9⟩) t_nil qd_T_hasAllVariablesOf_33
  exact L2 _ 0 (by omega) (fun q hq => by omega) rfl ls hl
set_option maxHeartbeats 4000000 in
set_option maxRecDepth 100000 in
theorem c_T_hasEachVariableAsOften (l : Launch) (dC : Nat → ClassId) (dI : Nat → Nat → Nat) (cI cZ cT cJ : ClassId) (a aH aP aE n : Nat) (th tm : Nat → Int) (te : Nat → Nat) (tg : Int) (a2 aH2 aP2 aE2 n2 : Nat) (th2 tm2 : Nat → Int) (te2 : Nat → Nat) (tg2 : Int) (p q : Nat) (h16 : n ≤ 16) (h162 : n2 ≤ 16) (hh : ∀ q, q < n → -4 ≤ th q ∧ th q ≤ 4) (hh2 : ∀ q, q < n2 → -4 ≤ th2 q ∧ th2 q ≤ 4) (we : wfE tm n te) (we2 : wfE tm2 n2 te2) (hp : p < n) (hq : q < n2) : Met l qy_T_hasEachVariableAsOften qw_T_hasEachVariableAsOften ({ frames := 1, cells := 0, slots := 0, locals := 24 }) (rdP (dC, dI) qcl (qty cI cZ cT cJ) nwL [(a, .inr (1, [.ref aH, .ref aP, .ref aE, .int (zI (↑n)), .int (zI (tg))])), (aH, .inl (cI, n, .inl (zA th))), (aP, .inl (cI, n, .inl (zA tm))), (aE, .inl (cI, n, .inl (zA (eI te)))), (a2, .inr (1, [.ref aH2, .ref aP2, .ref aE2, .int (zI (↑n2)), .int (zI (tg2))])), (aH2, .inl (cI, n2, .inl (zA th2))), (aP2, .inl (cI, n2, .inl (zA tm2))), (aE2, .inl (cI, n2, .inl (zA (eI te2))))] [.ref a, .int (zI (↑p)), .ref a2, .int (zI (↑q))]) (rdB (∀ v : Nat, v < 4 → cnt th2 (-1 - v) q (te2 q - q) ≤ cnt th (-1 - v) p (te p - p))) 0 0 (fun _ => False) := by
  refine Met.ofW (cc := qc_T_hasEachVariableAsOften) (maxL := 5) (ret := (Option.some Jvm.ClassFile.FieldType.boolean)) (by decide) rfl ?_
  intro pg eg sg mg args below meth cg s₁ B hml hv
  obtain ⟨rfl, hF, hK, hN⟩ := hv
  have hx := B.exec
  have hb := B.bytes
  have hr := B.returns
  have hts := atoms_spec (ws := qw_T_hasEachVariableAsOften) B.pre
  have hg : ∀ w ∈ gw, w.before _ sg = true := fun w h => hts w (List.mem_cons_of_mem _ h)
  have hown : sg.vm.findClass "TermOrders$Term" = some mg.cls := findClass_of_methodNamed B.named
  have hlocks := B.notSynchronized
  have hl := lv_entry ([.ref a, .int (zI (↑p)), .ref a2, .int (zI (↑q))]) (n := 5) (Nat.le_of_ble_eq_true rfl)
  rw [lg_entry_eq]
  generalize (lg_sl ([.ref a, .int (zI (↑p)), .ref a2, .int (zI (↑q))]) ++ List.replicate (5 - (lg_sl ([.ref a, .int (zI (↑p)), .ref a2, .int (zI (↑q))])).length) Slot.unset).toArray = ls at hl ⊢
  have hl : lv_has ls 5 [(0, .ref a), (1, .int (zI (↑p))), (2, .ref a2), (3, .int (zI (↑q)))] := hl
  refine lv_iconst (v := zI 0) hx hb qd_T_hasEachVariableAsOften_0 rfl ?_
  refine lv_istore (lv' := [(4, .int (zI (0))), (0, .ref a), (1, .int (zI (↑p))), (2, .ref a2), (3, .int (zI (↑q)))]) hx hb qd_T_hasEachVariableAsOften_1 hl (by decide) rfl (fun ls hl => ?_)
  have L3 : ∀ (d9 : Nat) (i : Nat), (i ≤ 4) → (∀ v : Nat, v < i → cnt th2 (-1 - v) q (te2 q - q) ≤ cnt th (-1 - v) p (te p - p)) → 4 - i = d9 → ∀ ls : Array Slot, lv_has ls 5 [(4, .int (zI (↑i))), (0, .ref a), (1, .int (zI (↑p))), (2, .ref a2), (3, .int (zI (↑q)))] → W pg l eg (headSpec qw_T_hasEachVariableAsOften ({ frames := 1, cells := 0, slots := 0, locals := 24 })).room sg mg ([.ref a, .int (zI (↑p)), .ref a2, .int (zI (↑q))] : List Value).toArray below meth cg sg.heap [] 0 0 (MQ below (rdB (∀ v : Nat, v < 4 → cnt th2 (-1 - v) q (te2 q - q) ≤ cnt th (-1 - v) p (te p - p))) ([.ref a, .int (zI (↑p)), .ref a2, .int (zI (↑q))] : List Value).toArray sg 0 0 (fun _ => False)) (F0 mg 3 ls []) := by
    intro d9
    induction d9 using Nat.strongRecOn with
    | _ d9 ih3 =>
      intro i hi hz hd9 ls hl
      refine lv_iload hx hb qd_T_hasEachVariableAsOften_3 (lv_at hl 0 rfl) ?_
      refine lv_iconst (v := zI 4) hx hb qd_T_hasEachVariableAsOften_5 rfl ?_
      refine zz_icmp_ge (tgt := 38) hx hb qd_T_hasEachVariableAsOften_6 (by decide) (by omega) (by omega) (fun h6 => ?_) (fun h6 => ?_)
      · skip
        refine lv_iconst (v := zI 1) hx hb qd_T_hasEachVariableAsOften_38 rfl ?_
        exact W.zret (v := zI 1) (ty := .boolean) hx hb hr rfl (fun t9 ht9 _ => ⟨true, rfl, bT ((fun v hv => hz v (by omega))), ht9⟩) t_nil qd_T_hasEachVariableAsOften_39
      · skip
        refine lv_aload_n hx hb qd_T_hasEachVariableAsOften_9 rfl (lv_at hl 1 rfl) ?_
        refine lv_iload_n hx hb qd_T_hasEachVariableAsOften_10 rfl (lv_at hl 2 rfl) ?_
        refine lv_iconst (v := zI (-1)) hx hb qd_T_hasEachVariableAsOften_11 rfl ?_
        refine lv_iload hx hb qd_T_hasEachVariableAsOften_12 (lv_at hl 0 rfl) ?_
        refine zz_isub hx hb ((-1) - ↑i) (by omega) qd_T_hasEachVariableAsOften_14 ?_
        refine rd_callI (W.runV (As := [.int (zI (↑p)), .int (zI (((-1) - ↑i)))]) (rest := []) ⟨hx, hb, hml, hown, hg⟩ (c_T_countInPlace l dC dI cI cZ cT cJ a aH aP aE n th tm te tg p ((-1) - ↑i) h16 hh we hp (by omega)) ⟨callB_of 2 hg (gw_ok (fun _ h => h) wd_397) rfl rfl rfl (hg _ wd_13) (hg _ wd_394) (by decide +kernel) ⟨Nat.le_of_ble_eq_true rfl, Nat.le_of_ble_eq_true rfl⟩, hg _ wd_396, hg _ se_T_countInPlace⟩ (rd_preV (va_recv (q0 := 0) hK hF rfl rfl) (pw_c (q := (a, .inr (1, [.ref aH, .ref aP, .ref aE, .int (zI (↑n)), .int (zI (tg))]))) hF 0 rfl (pw_c (q := (aH, .inl (cI, n, .inl (zA th)))) hF 1 rfl (pw_c (q := (aP, .inl (cI, n, .inl (zA tm)))) hF 2 rfl (pw_c (q := (aE, .inl (cI, n, .inl (zA (eI te))))) hF 3 rfl (pw_nil))))) hK hN) rfl rfl hl.1 rfl (lv_room (Nat.le_of_ble_eq_true rfl)) qd_T_hasEachVariableAsOften_15 ⟨Nat.le_of_ble_eq_true rfl, Nat.le_of_ble_eq_true rfl⟩) (fun r15 hr15 => ?_)
        have e15 : r15 = cnt th ((-1) - ↑i) p (te p - p) := hr15
        subst e15
        refine lv_aload_n hx hb qd_T_hasEachVariableAsOften_18 rfl (lv_at hl 3 rfl) ?_
        refine lv_iload_n hx hb qd_T_hasEachVariableAsOften_19 rfl (lv_at hl 4 rfl) ?_
        refine lv_iconst (v := zI (-1)) hx hb qd_T_hasEachVariableAsOften_20 rfl ?_
        refine lv_iload hx hb qd_T_hasEachVariableAsOften_21 (lv_at hl 0 rfl) ?_
        refine zz_isub hx hb ((-1) - ↑i) (by omega) qd_T_hasEachVariableAsOften_23 ?_
        refine rd_callI (W.runV (As := [.int (zI (↑q)), .int (zI (((-1) - ↑i)))]) (rest := [.int (zI (cnt th ((-1) - ↑i) p (te p - p)))]) ⟨hx, hb, hml, hown, hg⟩ (c_T_countInPlace l dC dI cI cZ cT cJ a2 aH2 aP2 aE2 n2 th2 tm2 te2 tg2 q ((-1) - ↑i) h162 hh2 we2 hq (by omega)) ⟨callB_of 2 hg (gw_ok (fun _ h => h) wd_397) rfl rfl rfl (hg _ wd_13) (hg _ wd_394) (by decide +kernel) ⟨Nat.le_of_ble_eq_true rfl, Nat.le_of_ble_eq_true rfl⟩, hg _ wd_396, hg _ se_T_countInPlace⟩ (rd_preV (va_recv (q0 := 4) hK hF rfl rfl) (pw_c (q := (a2, .inr (1, [.ref aH2, .ref aP2, .ref aE2, .int (zI (↑n2)), .int (zI (tg2))]))) hF 4 rfl (pw_c (q := (aH2, .inl (cI, n2, .inl (zA th2)))) hF 5 rfl (pw_c (q := (aP2, .inl (cI, n2, .inl (zA tm2)))) hF 6 rfl (pw_c (q := (aE2, .inl (cI, n2, .inl (zA (eI te2))))) hF 7 rfl (pw_nil))))) hK hN) rfl rfl hl.1 rfl (lv_room (Nat.le_of_ble_eq_true rfl)) qd_T_hasEachVariableAsOften_24 ⟨Nat.le_of_ble_eq_true rfl, Nat.le_of_ble_eq_true rfl⟩) (fun r24 hr24 => ?_)
        have e24 : r24 = cnt th2 ((-1) - ↑i) q (te2 q - q) := hr24
        subst e24
        have hb1 := cnt_b (h := th) (c := (-1) - ↑i) (a := p) (te p - p)
        have hb2 := cnt_b (h := th2) (c := (-1) - ↑i) (a := q) (te2 q - q)
        have hb3 := (we p hp).2.1
        have hb4 := (we2 q hq).2.1
        refine zz_icmp_ge (tgt := 32) hx hb qd_T_hasEachVariableAsOften_27 (by decide) (by omega) (by omega) (fun h27 => ?_) (fun h27 => ?_)
        · skip
          refine lv_iinc (k := 0) (lv' := [(4, .int (zI (↑(i + 1)))), (0, .ref a), (1, .int (zI (↑p))), (2, .ref a2), (3, .int (zI (↑q)))]) hx hb qd_T_hasEachVariableAsOften_32 hl rfl (zI_inc (v := ↑(i + 1)) (by omega)) (by decide) rfl (fun ls hl => ?_)
          refine lv_goto (tgt := 3) hx hb qd_T_hasEachVariableAsOften_35 (by decide) ?_
          exact ih3 _ (by omega) (i + 1) (by omega) (fun v hv => if hvi : v < i then hz v hvi else (by rw [show v = i by omega]; exact h27)) rfl ls hl
        · skip
          refine lv_iconst (v := zI 0) hx hb qd_T_hasEachVariableAsOften_30 rfl ?_
          exact W.zret (v := zI 0) (ty := .boolean) hx hb hr rfl (fun t9 ht9 _ => ⟨false, rfl, bF ((fun hs => h27 (hs i (by omega)))), ht9⟩) t_nil qd_T_hasEachVariableAsOften_31
  exact L3 _ 0 (by omega) (fun v hv => by omega) rfl ls hl
set_option maxHeartbeats 4000000 in
set_option maxRecDepth 100000 in
theorem c_T_isVariableWithin (l : Launch) (dC : Nat → ClassId) (dI : Nat → Nat → Nat) (cI cZ cT cJ : ClassId) (a aH aP aE n : Nat) (th tm : Nat → Int) (te : Nat → Nat) (tg : Int) (p : Nat) (vr : Int) (h16 : n ≤ 16) (hh : ∀ q, q < n → -4 ≤ th q ∧ th q ≤ 4) (hm : ∀ q, q < n → 0 ≤ tm q ∧ tm q ≤ 3) (we : wfE tm n te) (hp : p < n) (hc : -5 ≤ vr ∧ vr ≤ 5) (hsm : ∀ q r, q < n → r < n → th q = th r → tm q = tm r) : Met l qy_T_isVariableWithin qw_T_isVariableWithin ({ frames := 0, cells := 0, slots := 0, locals := 0 }) (rdP (dC, dI) qcl (qty cI cZ cT cJ) nwL [(a, .inr (1, [.ref aH, .ref aP, .ref aE, .int (zI (↑n)), .int (zI (tg))])), (aH, .inl (cI, n, .inl (zA th))), (aP, .inl (cI, n, .inl (zA tm))), (aE, .inl (cI, n, .inl (zA (eI te))))] [.ref a, .int (zI (↑p)), .int (zI (vr))]) (rdB (rdV th te tm p vr)) 0 0 (fun _ => False) := by
  refine Met.ofW (cc := qc_T_isVariableWithin) (maxL := 5) (ret := (Option.some Jvm.ClassFile.FieldType.boolean)) (by decide) rfl ?_
  intro pg eg sg mg args below meth cg s₁ B hml hv
  obtain ⟨rfl, hF, hK, hN⟩ := hv
  have hx := B.exec
  have hb := B.bytes
  have hr := B.returns
  have hts := atoms_spec (ws := qw_T_isVariableWithin) B.pre
  have hg : ∀ w ∈ gw, w.before _ sg = true := fun w h => hts w (List.mem_cons_of_mem _ h)
  have hown : sg.vm.findClass "TermOrders$Term" = some mg.cls := findClass_of_methodNamed B.named
  have hlocks := B.notSynchronized
  have hl := lv_entry ([.ref a, .int (zI (↑p)), .int (zI (vr))]) (n := 5) (Nat.le_of_ble_eq_true rfl)
  rw [lg_entry_eq]
  generalize (lg_sl ([.ref a, .int (zI (↑p)), .int (zI (vr))]) ++ List.replicate (5 - (lg_sl ([.ref a, .int (zI (↑p)), .int (zI (vr))])).length) Slot.unset).toArray = ls at hl ⊢
  have hl : lv_has ls 5 [(0, .ref a), (1, .int (zI (↑p))), (2, .int (zI (vr)))] := hl
  obtain ⟨w1, w2, w3, w4⟩ := we p hp
  refine lv_aload_n hx hb qd_T_isVariableWithin_0 rfl (lv_at hl 0 rfl) ?_
  refine va_get (D := (dC, dI)) (ci := 1) (v := .ref aE) (C := "TermOrders$Term") (T := qT_T) (N := 5) hx hb hg qi_T hown hK hF 0 rfl rfl 2 (by decide) (hg _ wd_333) (fun _ h9 => h9) rfl qd_T_isVariableWithin_1 ?_
  refine lv_iload_n hx hb qd_T_isVariableWithin_4 rfl (lv_at hl 1 rfl) ?_
  refine zz_eald hx hb hK hF 3 0 rfl rfl p rfl (by omega) (by omega) qd_T_isVariableWithin_5 ?_
  refine lv_iconst (v := zI 1) hx hb qd_T_isVariableWithin_6 rfl ?_
  refine zz_isub hx hb (↑(te p - 1)) (by omega) qd_T_isVariableWithin_7 ?_
  refine lv_istore_n (lv' := [(3, .int (zI (↑(te p - 1)))), (0, .ref a), (1, .int (zI (↑p))), (2, .int (zI (vr)))]) hx hb qd_T_isVariableWithin_8 rfl hl (by decide) rfl (fun ls hl => ?_)
  refine lv_iload_n hx hb qd_T_isVariableWithin_9 rfl (lv_at hl 0 rfl) ?_
  refine lv_iload_n hx hb qd_T_isVariableWithin_10 rfl (lv_at hl 2 rfl) ?_
  refine zz_icmp_eq (tgt := 24) hx hb qd_T_isVariableWithin_11 (by decide) (by omega) (by omega) (fun h11 => ?_) (fun h11 => ?_)
  · skip
    have hno : ¬ rdV th te tm p vr := fun hs => by have := hs.1; omega
    refine lv_iconst (v := zI 0) hx hb qd_T_isVariableWithin_24 rfl ?_
    exact W.zret (v := zI 0) (ty := .boolean) hx hb hr rfl (fun t9 ht9 _ => ⟨false, rfl, bF (hno), ht9⟩) t_nil qd_T_isVariableWithin_25
  · skip
    refine lv_aload_n hx hb qd_T_isVariableWithin_14 rfl (lv_at hl 1 rfl) ?_
    refine va_get (D := (dC, dI)) (ci := 1) (v := .ref aH) (C := "TermOrders$Term") (T := qT_T) (N := 5) hx hb hg qi_T hown hK hF 0 rfl rfl 0 (by decide) (hg _ wd_323) (fun _ h9 => h9) rfl qd_T_isVariableWithin_15 ?_
    refine lv_iload_n hx hb qd_T_isVariableWithin_18 rfl (lv_at hl 0 rfl) ?_
    have hq1 := hh (te p - 1) (by omega)
    refine zz_iald hx hb hK hF 1 0 rfl rfl (te p - 1) rfl (by omega) (by omega) qd_T_isVariableWithin_19 ?_
    refine lv_iload_n hx hb qd_T_isVariableWithin_20 rfl (lv_at hl 3 rfl) ?_
    refine zz_icmp_eq (tgt := 26) hx hb qd_T_isVariableWithin_21 (by decide) (by omega) (by omega) (fun h21 => ?_) (fun h21 => ?_)
    · skip
      refine lv_iload_n hx hb qd_T_isVariableWithin_26 rfl (lv_at hl 2 rfl) ?_
      refine lv_istore (lv' := [(4, .int (zI (↑p))), (3, .int (zI (↑(te p - 1)))), (0, .ref a), (1, .int (zI (↑p))), (2, .int (zI (vr)))]) hx hb qd_T_isVariableWithin_27 hl (by decide) rfl (fun ls hl => ?_)
      have L29 : ∀ (d9 : Nat) (i : Nat), (p + i ≤ te p - 1) → (∀ k, p ≤ k → k < p + i → tm k = 1 ∧ th k = th p) → te p - 1 - (p + i) = d9 → ∀ ls : Array Slot, lv_has ls 5 [(4, .int (zI (↑(p + i)))), (3, .int (zI (↑(te p - 1)))), (0, .ref a), (1, .int (zI (↑p))), (2, .int (zI (vr)))] → W pg l eg (headSpec qw_T_isVariableWithin ({ frames := 0, cells := 0, slots := 0, locals := 0 })).room sg mg ([.ref a, .int (zI (↑p)), .int (zI (vr))] : List Value).toArray below meth cg sg.heap [] 0 0 (MQ below (rdB (rdV th te tm p vr)) ([.ref a, .int (zI (↑p)), .int (zI (vr))] : List Value).toArray sg 0 0 (fun _ => False)) (F0 mg 29 ls []) := by
        intro d9
        induction d9 using Nat.strongRecOn with
        | _ d9 ih29 =>
          intro i hi hz hd9 ls hl
          refine lv_iload hx hb qd_T_isVariableWithin_29 (lv_at hl 0 rfl) ?_
          refine lv_iload_n hx hb qd_T_isVariableWithin_31 rfl (lv_at hl 1 rfl) ?_
          refine zz_icmp_ge (tgt := 70) hx hb qd_T_isVariableWithin_32 (by decide) (by omega) (by omega) (fun h32 => ?_) (fun h32 => ?_)
          · skip
            refine lv_iconst (v := zI 1) hx hb qd_T_isVariableWithin_70 rfl ?_
            exact W.zret (v := zI 1) (ty := .boolean) hx hb hr rfl (fun t9 ht9 _ => ⟨true, rfl, bT (⟨by omega, h21, (hz p (by omega) (by omega)).1, fun k h1 h2 => (hz k h1 (by omega)).2⟩), ht9⟩) t_nil qd_T_isVariableWithin_71
          · skip
            refine lv_aload_n hx hb qd_T_isVariableWithin_35 rfl (lv_at hl 2 rfl) ?_
            refine va_get (D := (dC, dI)) (ci := 1) (v := .ref aP) (C := "TermOrders$Term") (T := qT_T) (N := 5) hx hb hg qi_T hown hK hF 0 rfl rfl 1 (by decide) (hg _ wd_329) (fun _ h9 => h9) rfl qd_T_isVariableWithin_36 ?_
            refine lv_iload hx hb qd_T_isVariableWithin_39 (lv_at hl 0 rfl) ?_
            have hq2 := hm (p + i) (by omega)
            refine zz_iald hx hb hK hF 2 0 rfl rfl (p + i) rfl (by omega) (by omega) qd_T_isVariableWithin_41 ?_
            refine lv_iconst (v := zI 1) hx hb qd_T_isVariableWithin_42 rfl ?_
            refine zz_icmp_ne (tgt := 62) hx hb qd_T_isVariableWithin_43 (by decide) (by omega) (by omega) (fun h43 => ?_) (fun h43 => ?_)
            · skip
              have hno : ¬ rdV th te tm p vr := fun hs => h43 (by rw [hsm (p + i) p (by omega) hp (hs.2.2.2 (p + i) (by omega) (by omega))]; exact hs.2.2.1)
              refine lv_iconst (v := zI 0) hx hb qd_T_isVariableWithin_62 rfl ?_
              exact W.zret (v := zI 0) (ty := .boolean) hx hb hr rfl (fun t9 ht9 _ => ⟨false, rfl, bF (hno), ht9⟩) t_nil qd_T_isVariableWithin_63
            · skip
              refine lv_aload_n hx hb qd_T_isVariableWithin_46 rfl (lv_at hl 2 rfl) ?_
              refine va_get (D := (dC, dI)) (ci := 1) (v := .ref aH) (C := "TermOrders$Term") (T := qT_T) (N := 5) hx hb hg qi_T hown hK hF 0 rfl rfl 0 (by decide) (hg _ wd_323) (fun _ h9 => h9) rfl qd_T_isVariableWithin_47 ?_
              refine lv_iload hx hb qd_T_isVariableWithin_50 (lv_at hl 0 rfl) ?_
              have hq3 := hh (p + i) (by omega)
              have hq4 := hh p hp
              refine zz_iald hx hb hK hF 1 0 rfl rfl (p + i) rfl (by omega) (by omega) qd_T_isVariableWithin_52 ?_
              refine lv_aload_n hx hb qd_T_isVariableWithin_53 rfl (lv_at hl 2 rfl) ?_
              refine va_get (D := (dC, dI)) (ci := 1) (v := .ref aH) (C := "TermOrders$Term") (T := qT_T) (N := 5) hx hb hg qi_T hown hK hF 0 rfl rfl 0 (by decide) (hg _ wd_323) (fun _ h9 => h9) rfl qd_T_isVariableWithin_54 ?_
              refine lv_iload_n hx hb qd_T_isVariableWithin_57 rfl (lv_at hl 3 rfl) ?_
              refine zz_iald hx hb hK hF 1 0 rfl rfl p rfl (by omega) (by omega) qd_T_isVariableWithin_58 ?_
              refine zz_icmp_eq (tgt := 64) hx hb qd_T_isVariableWithin_59 (by decide) (by omega) (by omega) (fun h59 => ?_) (fun h59 => ?_)
              · skip
                refine lv_iinc (k := 0) (lv' := [(4, .int (zI (↑(p + (i + 1))))), (3, .int (zI (↑(te p - 1)))), (0, .ref a), (1, .int (zI (↑p))), (2, .int (zI (vr)))]) hx hb qd_T_isVariableWithin_64 hl rfl (zI_inc (v := ↑(p + (i + 1))) (by omega)) (by decide) rfl (fun ls hl => ?_)
                refine lv_goto (tgt := 29) hx hb qd_T_isVariableWithin_67 (by decide) ?_
                exact ih29 _ (by omega) (i + 1) (by omega) (fun k h1 h2 => if hki : k < p + i then hz k h1 hki else (by rw [show k = p + i by omega]; exact ⟨h43, h59⟩)) rfl ls hl
              · skip
                have hno : ¬ rdV th te tm p vr := fun hs => h59 (hs.2.2.2 (p + i) (by omega) (by omega))
                refine lv_iconst (v := zI 0) hx hb qd_T_isVariableWithin_62 rfl ?_
                exact W.zret (v := zI 0) (ty := .boolean) hx hb hr rfl (fun t9 ht9 _ => ⟨false, rfl, bF (hno), ht9⟩) t_nil qd_T_isVariableWithin_63
      exact L29 _ 0 (by omega) (fun k h1 h2 => by omega) rfl ls hl
    · skip
      have hno : ¬ rdV th te tm p vr := fun hs => h21 hs.2.1
      refine lv_iconst (v := zI 0) hx hb qd_T_isVariableWithin_24 rfl ?_
      exact W.zret (v := zI 0) (ty := .boolean) hx hb hr rfl (fun t9 ht9 _ => ⟨false, rfl, bF (hno), ht9⟩) t_nil qd_T_isVariableWithin_25
