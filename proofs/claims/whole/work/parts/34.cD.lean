/-- a draft holds the first sixteen places of a row, and whether there were more -/
def drf (ar : Nat → Int) (l : List Int) (hd pcs : Nat → Int) (dz : Nat) (dt : Bool) : Prop := dz = min l.length 16 ∧ (dt = true ↔ 16 < l.length) ∧ ∀ k, k < dz → hd k = rw_ l k ∧ pcs k = mny ar (rw_ l k)
theorem drf_16 {ar : Nat → Int} {l : List Int} {hd pcs : Nat → Int} {dz : Nat} {dt : Bool} (h : drf ar l hd pcs dz dt) : dz ≤ 16 := by have := h.1; omega
theorem drf_0 (ar hd pcs : Nat → Int) : drf ar [] hd pcs 0 false := ⟨rfl, by simp, fun k hk => by omega⟩
theorem rw_app {l : List Int} {h : Int} {k : Nat} (hk : k < l.length) : rw_ (l ++ [h]) k = rw_ l k := by
  simp [rw_, List.getElem?_append_left hk]
theorem rw_last {l : List Int} {h : Int} : rw_ (l ++ [h]) l.length = h := by
  simp [rw_]
theorem drf_full {ar : Nat → Int} {l : List Int} {hd pcs : Nat → Int} {dz : Nat} {dt : Bool} (hr : drf ar l hd pcs dz dt) (hz : dz = 16) (h : Int) : drf ar (l ++ [h]) hd pcs dz true := by
  obtain ⟨a1, a2, a3⟩ := hr
  have hl : (l ++ [h]).length = l.length + 1 := by simp
  refine ⟨by rw [hl]; omega, ⟨fun _ => by rw [hl]; omega, fun _ => rfl⟩, fun k hk => ?_⟩
  rw [rw_app (by omega)]
  exact a3 k hk
theorem drf_app {ar : Nat → Int} {l : List Int} {hd pcs : Nat → Int} {dz : Nat} {dt : Bool} {h c : Int} (hr : drf ar l hd pcs dz dt) (hz : dz ≠ 16) (hc : c = mny ar h) : drf ar (l ++ [h]) (uz hd dz h) (uz pcs dz c) (dz + 1) dt := by
  obtain ⟨a1, a2, a3⟩ := hr
  have hl : (l ++ [h]).length = l.length + 1 := by simp
  have hll : dz = l.length := by omega
  refine ⟨by rw [hl]; omega, ⟨fun q => by have := a2.mp q; omega, fun q => by rw [hl] at q; omega⟩, fun k hk => ?_⟩
  by_cases e : k = dz
  · subst e
    rw [uz_s, uz_s, hll, rw_last]
    exact ⟨rfl, hc⟩
  · rw [uz_n _ _ e, uz_n _ _ e, rw_app (by omega)]
    exact a3 k (by omega)
theorem zz_mmax {p : Program} {l : Launch} {e : Env} {R : Room} {s : State} {m : MethodId} {args : Array Value} {below : List Frame} {meth : Method} {c : Code} {H : Heap} {locs : List Loc} {cells slots : Nat} {Q : State → Prop} {cc : ByteArray} {pc : Nat} {ls : Array Slot} {rest : List Value} (hx : p.tables.exec = Jvm.exec) (hb : c.code = cc) (hml : c.maxLocals = ls.size) {own : String} {index : Nat} (hown : s.vm.findClass own = some m.cls) (hlink : (Cond.methodLink own index Lib.Math.max.name).before args s = true) (hstat : (Cond.static Lib.Math.max.name).before args s = true) (hini : (Cond.initialized "java/lang/Math").before args s = true) (hcode : (Cond.code Lib.Math.max.name Lib.Math.max.code 2 (some .int)).before args s = true) (hframes : 1 ≤ R.frames) (hlocals : (rest.map fun v => v.category).sum + 13 ≤ R.locals) (hc : cells ≤ R.cells) (hs : slots ≤ R.slots) {a b : Int} (ha : -2147483648 ≤ a ∧ a < 2147483648) (hb9 : -2147483648 ≤ b ∧ b < 2147483648) (hd : decode cc pc = .ok (.invokestatic index, 3)) (k : W p l e R s m args below meth c H locs cells slots Q (F0 m (pc + 3) ls (.int (zI (mx a b)) :: rest))) : W p l e R s m args below meth c H locs cells slots Q (F0 m pc ls (.int (zI b) :: .int (zI a) :: rest)) := by
  refine va_mmax hx hb hml hown hlink hstat hini hcode hframes hlocals hc hs hd ?_
  have e1 : (if zI a < zI b then zI b else zI a) = zI (mx a b) := by
    unfold mx
    by_cases h : a < b
    · rw [if_pos h, if_pos ((zI_lt ha hb9).mpr h)]
    · rw [if_neg h, if_neg (fun q => h ((zI_lt ha hb9).mp q))]
  rw [e1]
  exact k
set_option maxHeartbeats 4000000 in
set_option maxRecDepth 100000 in
theorem c_D_clear (l : Launch) (dC : Nat → ClassId) (dI : Nat → Nat → Nat) (cI cZ cT cJ : ClassId) (o : Nat) (od dH dP dE dT dz : Nat) (dt : Bool) (hd pcs : Nat → Int) (de : Nat → Nat) (dh : Nat → Int) (zh : Nat)  : Met l qy_D_clear qw_D_clear ({ frames := 0, cells := 0, slots := 0, locals := 0 }) (mwP (dC, dI) qcl (qty cI cZ cT cJ) nwL [(od, .inr (2, [.ref o, .ref dH, .ref dP, .ref dE, .ref dT, .int (zI (↑dz)), .int (zI (bI (dt)))]))] [] zh [.ref od]) (va_Qv (S := Unit) (fun uq => True) (fun uq tq => mwB (dC, dI) qcl (qty cI cZ cT cJ) (va_A [(od, .inr (2, [.ref o, .ref dH, .ref dP, .ref dE, .ref dT, .int (zI (↑dz)), .int (zI (bI (dt)))]))] zh) [(od, .inr (2, [.ref o, .ref dH, .ref dP, .ref dE, .ref dT, .int (zI (0)), .int (zI (bI (false)))]))] tq) (va_A [(od, .inr (2, [.ref o, .ref dH, .ref dP, .ref dE, .ref dT, .int (zI (↑dz)), .int (zI (bI (dt)))]))] zh)) 0 0 (va_A [(od, .inr (2, [.ref o, .ref dH, .ref dP, .ref dE, .ref dT, .int (zI (↑dz)), .int (zI (bI (dt)))]))] zh) := by
  refine Met.ofW (cc := qc_D_clear) (maxL := 1) (ret := (Option.none : Option Jvm.ClassFile.FieldType)) (by decide) rfl ?_
  intro pg eg sg mg args below meth cg s₁ B hml hv
  obtain ⟨rfl, hsz, hP, hF0, hK, hN, hD0, hap⟩ := hv
  have hx := B.exec
  have hb := B.bytes
  have hr := B.returns
  have hts := atoms_spec (ws := qw_D_clear) B.pre
  have hg : ∀ w ∈ gw, w.before _ sg = true := fun w h => hts w (List.mem_cons_of_mem _ h)
  have hown : sg.vm.findClass "TermOrders$Draft" = some mg.cls := findClass_of_methodNamed B.named
  have hlocks := B.notSynchronized
  have hl := lv_entry ([.ref od]) (n := 1) (Nat.le_of_ble_eq_true rfl)
  rw [lg_entry_eq]
  generalize (lg_sl ([.ref od]) ++ List.replicate (1 - (lg_sl ([.ref od])).length) Slot.unset).toArray = ls at hl ⊢
  subst hsz
  have hD := hD0.self (sz := sg.heap.size)
  have hFA := apw_A hap (fun k q hk => (hF0 k q hk).lt)
  generalize hAe : va_A [(od, .inr (2, [.ref o, .ref dH, .ref dP, .ref dE, .ref dT, .int (zI (↑dz)), .int (zI (bI (dt)))]))] sg.heap.size = A at hD hFA ⊢
  have hA : ∀ q : Nat, sg.heap.size ≤ q → A q := fun q h => by rw [← hAe]; exact Or.inr h
  have hS : va_S A sg.heap sg.heap [] := va_S.rf
  have hF := hF0
  have hl : lv_has ls 1 [(0, .ref od)] := hl
  refine lv_aload_n hx hb qd_D_clear_0 rfl (lv_at hl 0 rfl) ?_
  refine lv_iconst (v := zI 0) hx hb qd_D_clear_1 rfl ?_
  refine va_put (D := (dC, dI)) (ci := 2) (v := .int (zI (0))) (ty := .int) (C := "TermOrders$Draft") (T := qT_D) (N := 7) hx hb hg qi_D qt_D qo_D qn_D hown hK hP hD hS 0 rfl rfl 5 (by decide) (hg _ wd_64) (fun _ h9 => h9) rfl (by decide +kernel) rfl rfl (Nat.le_of_ble_eq_true rfl) qd_D_clear_2 (fun H2_1 L2_1 hP hD hS => ?_)
  have hP : va_P (dC, dI) qcl [(od, .inr (2, [.ref o, .ref dH, .ref dP, .ref dE, .ref dT, .int (zI (0)), .int (zI (bI (dt)))]))] H2_1 := hP
  have hD : va_D A [(od, .inr (2, [.ref o, .ref dH, .ref dP, .ref dE, .ref dT, .int (zI (0)), .int (zI (bI (dt)))]))] := hD
  refine lv_aload_n hx hb qd_D_clear_5 rfl (lv_at hl 0 rfl) ?_
  refine lv_iconst (v := zI 0) hx hb qd_D_clear_6 rfl ?_
  refine zz_0 ?_
  refine va_put (D := (dC, dI)) (ci := 2) (v := .int (zI (bI (false)))) (ty := .boolean) (C := "TermOrders$Draft") (T := qT_D) (N := 7) hx hb hg qi_D qt_D qo_D qn_D hown hK hP hD hS 0 rfl rfl 6 (by decide) (hg _ wd_65) (fun _ h9 => h9) rfl (by decide +kernel) (bI_n _) (bI_f _) (Nat.le_of_ble_eq_true rfl) qd_D_clear_7 (fun H7_2 L7_2 hP hD hS => ?_)
  have hP : va_P (dC, dI) qcl [(od, .inr (2, [.ref o, .ref dH, .ref dP, .ref dE, .ref dT, .int (zI (0)), .int (zI (bI (false)))]))] H7_2 := hP
  have hD : va_D A [(od, .inr (2, [.ref o, .ref dH, .ref dP, .ref dE, .ref dT, .int (zI (0)), .int (zI (bI (false)))]))] := hD
  exact W.vret hx hb hr (fun t9 ht9 hW9 => ⟨⟨(), rfl, trivial, mwB_i (by rw [ht9]; exact hP) (va_K.moved hW9.alike hK) hD⟩, hS.F ht9⟩) hS.2.2 qd_D_clear_10
set_option maxHeartbeats 4000000 in
set_option maxRecDepth 100000 in
theorem c_D_write (l : Launch) (dC : Nat → ClassId) (dI : Nat → Nat → Nat) (cI cZ cT cJ : ClassId) (o : Nat) (ar : Nat → Int) (od dH dP dE dT dz : Nat) (dt : Bool) (hd pcs : Nat → Int) (de : Nat → Nat) (dh : Nat → Int) (l0 : List Int) (h c : Int) (zh : Nat) (hdr : drf ar l0 hd pcs dz dt) (hc : c = mny ar h) : Met l qy_D_write qw_D_write ({ frames := 0, cells := 0, slots := 0, locals := 0 }) (mwP (dC, dI) qcl (qty cI cZ cT cJ) nwL [(od, .inr (2, [.ref o, .ref dH, .ref dP, .ref dE, .ref dT, .int (zI (↑dz)), .int (zI (bI (dt)))])), (dH, .inl (cI, 16, .inl (zA hd))), (dP, .inl (cI, 16, .inl (zA pcs)))] [] zh [.ref od, .int (zI (h)), .int (zI (c))]) (va_Qv (S := (Nat → Int) × (Nat → Int) × (Nat) × (Bool)) (fun uq => drf ar (l0 ++ [h]) uq.1 uq.2.1 uq.2.2.1 uq.2.2.2) (fun uq tq => mwB (dC, dI) qcl (qty cI cZ cT cJ) (va_A [(od, .inr (2, [.ref o, .ref dH, .ref dP, .ref dE, .ref dT, .int (zI (↑dz)), .int (zI (bI (dt)))])), (dH, .inl (cI, 16, .inl (zA hd))), (dP, .inl (cI, 16, .inl (zA pcs)))] zh) [(od, .inr (2, [.ref o, .ref dH, .ref dP, .ref dE, .ref dT, .int (zI (↑uq.2.2.1)), .int (zI (bI (uq.2.2.2)))])), (dH, .inl (cI, 16, .inl (zA uq.1))), (dP, .inl (cI, 16, .inl (zA uq.2.1)))] tq) (va_A [(od, .inr (2, [.ref o, .ref dH, .ref dP, .ref dE, .ref dT, .int (zI (↑dz)), .int (zI (bI (dt)))])), (dH, .inl (cI, 16, .inl (zA hd))), (dP, .inl (cI, 16, .inl (zA pcs)))] zh)) 0 0 (va_A [(od, .inr (2, [.ref o, .ref dH, .ref dP, .ref dE, .ref dT, .int (zI (↑dz)), .int (zI (bI (dt)))])), (dH, .inl (cI, 16, .inl (zA hd))), (dP, .inl (cI, 16, .inl (zA pcs)))] zh) := by
  refine Met.ofW (cc := qc_D_write) (maxL := 3) (ret := (Option.none : Option Jvm.ClassFile.FieldType)) (by decide) rfl ?_
  intro pg eg sg mg args below meth cg s₁ B hml hv
  obtain ⟨rfl, hsz, hP, hF0, hK, hN, hD0, hap⟩ := hv
  have hx := B.exec
  have hb := B.bytes
  have hr := B.returns
  have hts := atoms_spec (ws := qw_D_write) B.pre
  have hg : ∀ w ∈ gw, w.before _ sg = true := fun w h => hts w (List.mem_cons_of_mem _ h)
  have hown : sg.vm.findClass "TermOrders$Draft" = some mg.cls := findClass_of_methodNamed B.named
  have hlocks := B.notSynchronized
  have hl := lv_entry ([.ref od, .int (zI (h)), .int (zI (c))]) (n := 3) (Nat.le_of_ble_eq_true rfl)
  rw [lg_entry_eq]
  generalize (lg_sl ([.ref od, .int (zI (h)), .int (zI (c))]) ++ List.replicate (3 - (lg_sl ([.ref od, .int (zI (h)), .int (zI (c))])).length) Slot.unset).toArray = ls at hl ⊢
  subst hsz
  have hD := hD0.self (sz := sg.heap.size)
  have hFA := apw_A hap (fun k q hk => (hF0 k q hk).lt)
  generalize hAe : va_A [(od, .inr (2, [.ref o, .ref dH, .ref dP, .ref dE, .ref dT, .int (zI (↑dz)), .int (zI (bI (dt)))])), (dH, .inl (cI, 16, .inl (zA hd))), (dP, .inl (cI, 16, .inl (zA pcs)))] sg.heap.size = A at hD hFA ⊢
  have hA : ∀ q : Nat, sg.heap.size ≤ q → A q := fun q h => by rw [← hAe]; exact Or.inr h
  have hS : va_S A sg.heap sg.heap [] := va_S.rf
  have hF := hF0
  have hl : lv_has ls 3 [(0, .ref od), (1, .int (zI (h))), (2, .int (zI (c)))] := hl
  have hz16 := drf_16 hdr
  refine lv_aload_n hx hb qd_D_write_0 rfl (lv_at hl 0 rfl) ?_
  refine va_get (D := (dC, dI)) (ci := 2) (v := .int (zI (↑dz))) (C := "TermOrders$Draft") (T := qT_D) (N := 7) hx hb hg qi_D hown hK hP 0 rfl rfl 5 (by decide) (hg _ wd_64) (fun _ h9 => h9) rfl qd_D_write_1 ?_
  refine lv_bipush (v := zI 16) hx hb qd_D_write_4 (by decide) ?_
  refine zz_icmp_ne (tgt := 15) hx hb qd_D_write_6 (by decide) (by omega) (by omega) (fun h6 => ?_) (fun h6 => ?_)
  · skip
    refine lv_aload_n hx hb qd_D_write_15 rfl (lv_at hl 0 rfl) ?_
    refine va_get (D := (dC, dI)) (ci := 2) (v := .ref dH) (C := "TermOrders$Draft") (T := qT_D) (N := 7) hx hb hg qi_D hown hK hP 0 rfl rfl 1 (by decide) (hg _ wd_60) (fun _ h9 => h9) rfl qd_D_write_16 ?_
    refine lv_aload_n hx hb qd_D_write_19 rfl (lv_at hl 0 rfl) ?_
    refine va_get (D := (dC, dI)) (ci := 2) (v := .int (zI (↑dz))) (C := "TermOrders$Draft") (T := qT_D) (N := 7) hx hb hg qi_D hown hK hP 0 rfl rfl 5 (by decide) (hg _ wd_64) (fun _ h9 => h9) rfl qd_D_write_20 ?_
    refine lv_iload_n hx hb qd_D_write_23 rfl (lv_at hl 1 rfl) ?_
    refine zz_iast hx hb hK hP hD hS 1 0 rfl rfl dz rfl (by omega) (by omega) qd_D_write_24 (fun H24_1 L24_1 hP hD hS => ?_)
    have hP : va_P (dC, dI) qcl [(od, .inr (2, [.ref o, .ref dH, .ref dP, .ref dE, .ref dT, .int (zI (↑dz)), .int (zI (bI (dt)))])), (dH, .inl (cI, 16, .inl (zA (uz hd dz h)))), (dP, .inl (cI, 16, .inl (zA pcs)))] H24_1 := hP
    have hD : va_D A [(od, .inr (2, [.ref o, .ref dH, .ref dP, .ref dE, .ref dT, .int (zI (↑dz)), .int (zI (bI (dt)))])), (dH, .inl (cI, 16, .inl (zA (uz hd dz h)))), (dP, .inl (cI, 16, .inl (zA pcs)))] := hD
    refine lv_aload_n hx hb qd_D_write_25 rfl (lv_at hl 0 rfl) ?_
    refine va_get (D := (dC, dI)) (ci := 2) (v := .ref dP) (C := "TermOrders$Draft") (T := qT_D) (N := 7) hx hb hg qi_D hown hK hP 0 rfl rfl 2 (by decide) (hg _ wd_61) (fun _ h9 => h9) rfl qd_D_write_26 ?_
    refine lv_aload_n hx hb qd_D_write_29 rfl (lv_at hl 0 rfl) ?_
    refine va_get (D := (dC, dI)) (ci := 2) (v := .int (zI (↑dz))) (C := "TermOrders$Draft") (T := qT_D) (N := 7) hx hb hg qi_D hown hK hP 0 rfl rfl 5 (by decide) (hg _ wd_64) (fun _ h9 => h9) rfl qd_D_write_30 ?_
    refine lv_iload_n hx hb qd_D_write_33 rfl (lv_at hl 2 rfl) ?_
    refine zz_iast hx hb hK hP hD hS 2 0 rfl rfl dz rfl (by omega) (by omega) qd_D_write_34 (fun H34_2 L34_2 hP hD hS => ?_)
    have hP : va_P (dC, dI) qcl [(od, .inr (2, [.ref o, .ref dH, .ref dP, .ref dE, .ref dT, .int (zI (↑dz)), .int (zI (bI (dt)))])), (dH, .inl (cI, 16, .inl (zA (uz hd dz h)))), (dP, .inl (cI, 16, .inl (zA (uz pcs dz c))))] H34_2 := hP
    have hD : va_D A [(od, .inr (2, [.ref o, .ref dH, .ref dP, .ref dE, .ref dT, .int (zI (↑dz)), .int (zI (bI (dt)))])), (dH, .inl (cI, 16, .inl (zA (uz hd dz h)))), (dP, .inl (cI, 16, .inl (zA (uz pcs dz c))))] := hD
    refine lv_aload_n hx hb qd_D_write_35 rfl (lv_at hl 0 rfl) ?_
    refine lv_dup hx hb qd_D_write_36 rfl ?_
    refine va_get (D := (dC, dI)) (ci := 2) (v := .int (zI (↑dz))) (C := "TermOrders$Draft") (T := qT_D) (N := 7) hx hb hg qi_D hown hK hP 0 rfl rfl 5 (by decide) (hg _ wd_64) (fun _ h9 => h9) rfl qd_D_write_37 ?_
    refine lv_iconst (v := zI 1) hx hb qd_D_write_40 rfl ?_
    refine zz_iadd hx hb (↑(dz + 1)) (by omega) qd_D_write_41 ?_
    refine va_put (D := (dC, dI)) (ci := 2) (v := .int (zI (↑(dz + 1)))) (ty := .int) (C := "TermOrders$Draft") (T := qT_D) (N := 7) hx hb hg qi_D qt_D qo_D qn_D hown hK hP hD hS 0 rfl rfl 5 (by decide) (hg _ wd_64) (fun _ h9 => h9) rfl (by decide +kernel) rfl rfl (Nat.le_of_ble_eq_true rfl) qd_D_write_42 (fun H42_3 L42_3 hP hD hS => ?_)
    have hP : va_P (dC, dI) qcl [(od, .inr (2, [.ref o, .ref dH, .ref dP, .ref dE, .ref dT, .int (zI (↑(dz + 1))), .int (zI (bI (dt)))])), (dH, .inl (cI, 16, .inl (zA (uz hd dz h)))), (dP, .inl (cI, 16, .inl (zA (uz pcs dz c))))] H42_3 := hP
    have hD : va_D A [(od, .inr (2, [.ref o, .ref dH, .ref dP, .ref dE, .ref dT, .int (zI (↑(dz + 1))), .int (zI (bI (dt)))])), (dH, .inl (cI, 16, .inl (zA (uz hd dz h)))), (dP, .inl (cI, 16, .inl (zA (uz pcs dz c))))] := hD
    exact W.vret hx hb hr (fun t9 ht9 hW9 => ⟨⟨(uz hd dz h, uz pcs dz c, dz + 1, dt), rfl, (drf_app hdr (by omega) hc), mwB_i (by rw [ht9]; exact hP) (va_K.moved hW9.alike hK) hD⟩, hS.F ht9⟩) hS.2.2 qd_D_write_45
  · skip
    refine lv_aload_n hx hb qd_D_write_9 rfl (lv_at hl 0 rfl) ?_
    refine lv_iconst (v := zI 1) hx hb qd_D_write_10 rfl ?_
    refine zz_1 ?_
    refine va_put (D := (dC, dI)) (ci := 2) (v := .int (zI (bI (true)))) (ty := .boolean) (C := "TermOrders$Draft") (T := qT_D) (N := 7) hx hb hg qi_D qt_D qo_D qn_D hown hK hP hD hS 0 rfl rfl 6 (by decide) (hg _ wd_65) (fun _ h9 => h9) rfl (by decide +kernel) (bI_n _) (bI_f _) (Nat.le_of_ble_eq_true rfl) qd_D_write_11 (fun H11_4 L11_4 hP hD hS => ?_)
    have hP : va_P (dC, dI) qcl [(od, .inr (2, [.ref o, .ref dH, .ref dP, .ref dE, .ref dT, .int (zI (↑dz)), .int (zI (bI (true)))])), (dH, .inl (cI, 16, .inl (zA hd))), (dP, .inl (cI, 16, .inl (zA pcs)))] H11_4 := hP
    have hD : va_D A [(od, .inr (2, [.ref o, .ref dH, .ref dP, .ref dE, .ref dT, .int (zI (↑dz)), .int (zI (bI (true)))])), (dH, .inl (cI, 16, .inl (zA hd))), (dP, .inl (cI, 16, .inl (zA pcs)))] := hD
    exact W.vret hx hb hr (fun t9 ht9 hW9 => ⟨⟨(hd, pcs, dz, true), rfl, (drf_full hdr (by omega) h), mwB_i (by rw [ht9]; exact hP) (va_K.moved hW9.alike hK) hD⟩, hS.F ht9⟩) hS.2.2 qd_D_write_14
set_option maxHeartbeats 4000000 in
set_option maxRecDepth 100000 in
theorem c_D_writeVariable (l : Launch) (dC : Nat → ClassId) (dI : Nat → Nat → Nat) (cI cZ cT cJ : ClassId) (o : Nat) (ar : Nat → Int) (od dH dP dE dT dz : Nat) (dt : Bool) (hd pcs : Nat → Int) (de : Nat → Nat) (dh : Nat → Int) (l0 : List Int) (v : Int) (zh : Nat) (hdr : drf ar l0 hd pcs dz dt) (hv : 0 ≤ v ∧ v ≤ 3) : Met l qy_D_writeVariable qw_D_writeVariable ({ frames := 1, cells := 0, slots := 0, locals := 22 }) (mwP (dC, dI) qcl (qty cI cZ cT cJ) nwL [(od, .inr (2, [.ref o, .ref dH, .ref dP, .ref dE, .ref dT, .int (zI (↑dz)), .int (zI (bI (dt)))])), (dH, .inl (cI, 16, .inl (zA hd))), (dP, .inl (cI, 16, .inl (zA pcs)))] [] zh [.ref od, .int (zI (v))]) (va_Qv (S := (Nat → Int) × (Nat → Int) × (Nat) × (Bool)) (fun uq => drf ar (l0 ++ [-1 - v]) uq.1 uq.2.1 uq.2.2.1 uq.2.2.2) (fun uq tq => mwB (dC, dI) qcl (qty cI cZ cT cJ) (va_A [(od, .inr (2, [.ref o, .ref dH, .ref dP, .ref dE, .ref dT, .int (zI (↑dz)), .int (zI (bI (dt)))])), (dH, .inl (cI, 16, .inl (zA hd))), (dP, .inl (cI, 16, .inl (zA pcs)))] zh) [(od, .inr (2, [.ref o, .ref dH, .ref dP, .ref dE, .ref dT, .int (zI (↑uq.2.2.1)), .int (zI (bI (uq.2.2.2)))])), (dH, .inl (cI, 16, .inl (zA uq.1))), (dP, .inl (cI, 16, .inl (zA uq.2.1)))] tq) (va_A [(od, .inr (2, [.ref o, .ref dH, .ref dP, .ref dE, .ref dT, .int (zI (↑dz)), .int (zI (bI (dt)))])), (dH, .inl (cI, 16, .inl (zA hd))), (dP, .inl (cI, 16, .inl (zA pcs)))] zh)) 0 0 (va_A [(od, .inr (2, [.ref o, .ref dH, .ref dP, .ref dE, .ref dT, .int (zI (↑dz)), .int (zI (bI (dt)))])), (dH, .inl (cI, 16, .inl (zA hd))), (dP, .inl (cI, 16, .inl (zA pcs)))] zh) := by
  refine Met.ofW (cc := qc_D_writeVariable) (maxL := 2) (ret := (Option.none : Option Jvm.ClassFile.FieldType)) (by decide) rfl ?_
  intro pg eg sg mg args below meth cg s₁ B hml hv
  obtain ⟨rfl, hsz, hP, hF0, hK, hN, hD0, hap⟩ := hv
  have hx := B.exec
  have hb := B.bytes
  have hr := B.returns
  have hts := atoms_spec (ws := qw_D_writeVariable) B.pre
  have hg : ∀ w ∈ gw, w.before _ sg = true := fun w h => hts w (List.mem_cons_of_mem _ h)
  have hown : sg.vm.findClass "TermOrders$Draft" = some mg.cls := findClass_of_methodNamed B.named
  have hlocks := B.notSynchronized
  have hl := lv_entry ([.ref od, .int (zI (v))]) (n := 2) (Nat.le_of_ble_eq_true rfl)
  rw [lg_entry_eq]
  generalize (lg_sl ([.ref od, .int (zI (v))]) ++ List.replicate (2 - (lg_sl ([.ref od, .int (zI (v))])).length) Slot.unset).toArray = ls at hl ⊢
  subst hsz
  have hD := hD0.self (sz := sg.heap.size)
  have hFA := apw_A hap (fun k q hk => (hF0 k q hk).lt)
  generalize hAe : va_A [(od, .inr (2, [.ref o, .ref dH, .ref dP, .ref dE, .ref dT, .int (zI (↑dz)), .int (zI (bI (dt)))])), (dH, .inl (cI, 16, .inl (zA hd))), (dP, .inl (cI, 16, .inl (zA pcs)))] sg.heap.size = A at hD hFA ⊢
  have hA : ∀ q : Nat, sg.heap.size ≤ q → A q := fun q h => by rw [← hAe]; exact Or.inr h
  have hS : va_S A sg.heap sg.heap [] := va_S.rf
  have hF := hF0
  have hl : lv_has ls 2 [(0, .ref od), (1, .int (zI (v)))] := hl
  refine lv_aload_n hx hb qd_D_writeVariable_0 rfl (lv_at hl 0 rfl) ?_
  refine lv_iconst (v := zI (-1)) hx hb qd_D_writeVariable_1 rfl ?_
  refine lv_iload_n hx hb qd_D_writeVariable_2 rfl (lv_at hl 1 rfl) ?_
  refine zz_isub hx hb (((-1)) - v) rfl qd_D_writeVariable_3 ?_
  refine lv_iconst (v := zI 0) hx hb qd_D_writeVariable_4 rfl ?_
  have hPc := hP.sub (ws' := [(od, .inr (2, [.ref o, .ref dH, .ref dP, .ref dE, .ref dT, .int (zI (↑dz)), .int (zI (bI (dt)))])), (dH, .inl (cI, 16, .inl (zA hd))), (dP, .inl (cI, 16, .inl (zA pcs)))]) [0, 1, 2] rfl
  have hDc := hD.sub (ws' := [(od, .inr (2, [.ref o, .ref dH, .ref dP, .ref dE, .ref dT, .int (zI (↑dz)), .int (zI (bI (dt)))])), (dH, .inl (cI, 16, .inl (zA hd))), (dP, .inl (cI, 16, .inl (zA pcs)))]) [0, 1, 2] (by decide) rfl
  have hFr := va_free (wc := [(od, .inr (2, [.ref o, .ref dH, .ref dP, .ref dE, .ref dT, .int (zI (↑dz)), .int (zI (bI (dt)))])), (dH, .inl (cI, 16, .inl (zA hd))), (dP, .inl (cI, 16, .inl (zA pcs)))]) hD hS hA [0, 1, 2] rfl
  refine va_callv (va_runV (As := [.int (zI (((-1) - v))), .int (zI (0))]) (rest := []) ⟨hx, hb, hml, hown, hg⟩ (c_D_write l dC dI cI cZ cT cJ o ar od dH dP dE dT dz dt hd pcs de dh l0 ((-1) - v) 0 sg.heap.size hdr (by unfold mny; rw [if_pos (by omega)])) ⟨callB_of 2 hg (gw_ok (fun _ h => h) wd_279) rfl rfl rfl (hg _ wd_3) (hg _ wd_276) (by decide +kernel) ⟨Nat.le_of_ble_eq_true rfl, Nat.le_of_ble_eq_true rfl⟩, hg _ wd_278, hg _ se_D_write⟩ (mw_preV (va_recv (q0 := 0) hK hP rfl rfl) hPc (pw_nil) hK hN hDc (apw_nil)) rfl rfl hl.1 rfl (lv_room (Nat.le_of_ble_eq_true rfl)) qd_D_writeVariable_5 ⟨Nat.le_of_ble_eq_true rfl, Nat.le_of_ble_eq_true rfl⟩) hS (fun q _ h => hFr q h) hFr (fun u9 t9 H5_1 L5_1 ht9 hv9 hr5 hB9 hz9 hk9 hS => ?_)
  obtain ⟨hd3, pcs3, dz3, dt3⟩ := u9
  try dsimp only at hr5 hB9
  obtain ⟨hP, hD⟩ := mw_join (wr := []) (w1 := [(od, .inr (2, [.ref o, .ref dH, .ref dP, .ref dE, .ref dT, .int (zI (↑dz3)), .int (zI (bI (dt3)))])), (dH, .inl (cI, 16, .inl (zA hd3))), (dP, .inl (cI, 16, .inl (zA pcs3)))]) hP hD [0, 1, 2] [] rfl rfl (by decide) (by decide) hk9 hFr ht9 hB9
  have hP := hP.sub (ws' := [(od, .inr (2, [.ref o, .ref dH, .ref dP, .ref dE, .ref dT, .int (zI (↑dz3)), .int (zI (bI (dt3)))])), (dH, .inl (cI, 16, .inl (zA hd3))), (dP, .inl (cI, 16, .inl (zA pcs3)))]) [0, 1, 2] rfl
  have hD := hD.sub (ws' := [(od, .inr (2, [.ref o, .ref dH, .ref dP, .ref dE, .ref dT, .int (zI (↑dz3)), .int (zI (bI (dt3)))])), (dH, .inl (cI, 16, .inl (zA hd3))), (dP, .inl (cI, 16, .inl (zA pcs3)))]) [0, 1, 2] (by decide) rfl
  exact W.vret hx hb hr (fun t9 ht9 hW9 => ⟨⟨(hd3, pcs3, dz3, dt3), rfl, hr5, mwB_i (by rw [ht9]; exact hP) (va_K.moved hW9.alike hK) hD⟩, hS.F ht9⟩) hS.2.2 qd_D_writeVariable_8
set_option maxHeartbeats 4000000 in
set_option maxRecDepth 100000 in
theorem c_D_writeSymbol (l : Launch) (dC : Nat → ClassId) (dI : Nat → Nat → Nat) (cI cZ cT cJ : ClassId) (o : Nat) (ar : Nat → Int) (od dH dP dE dT dz : Nat) (dt : Bool) (hd pcs : Nat → Int) (de : Nat → Nat) (dh : Nat → Int) (l0 : List Int) (aA aR aW aV sy x : Nat) (zh : Nat) (hdr : drf ar l0 hd pcs dz dt) (hx5 : x < 5) : Met l qy_D_writeSymbol qw_D_writeSymbol ({ frames := 1, cells := 0, slots := 0, locals := 22 }) (mwP (dC, dI) qcl (qty cI cZ cT cJ) nwL [(od, .inr (2, [.ref o, .ref dH, .ref dP, .ref dE, .ref dT, .int (zI (↑dz)), .int (zI (bI (dt)))])), (dH, .inl (cI, 16, .inl (zA hd))), (dP, .inl (cI, 16, .inl (zA pcs)))] [(o, .inr (0, [.ref aA, .ref aR, .ref aW, .ref aV, .int (zI (↑sy))])), (aA, .inl (cI, 5, .inl (zA ar)))] zh [.ref od, .int (zI (↑x))]) (va_Qv (S := (Nat → Int) × (Nat → Int) × (Nat) × (Bool)) (fun uq => drf ar (l0 ++ [(↑x : Int)]) uq.1 uq.2.1 uq.2.2.1 uq.2.2.2) (fun uq tq => mwB (dC, dI) qcl (qty cI cZ cT cJ) (va_A [(od, .inr (2, [.ref o, .ref dH, .ref dP, .ref dE, .ref dT, .int (zI (↑dz)), .int (zI (bI (dt)))])), (dH, .inl (cI, 16, .inl (zA hd))), (dP, .inl (cI, 16, .inl (zA pcs)))] zh) [(od, .inr (2, [.ref o, .ref dH, .ref dP, .ref dE, .ref dT, .int (zI (↑uq.2.2.1)), .int (zI (bI (uq.2.2.2)))])), (dH, .inl (cI, 16, .inl (zA uq.1))), (dP, .inl (cI, 16, .inl (zA uq.2.1)))] tq) (va_A [(od, .inr (2, [.ref o, .ref dH, .ref dP, .ref dE, .ref dT, .int (zI (↑dz)), .int (zI (bI (dt)))])), (dH, .inl (cI, 16, .inl (zA hd))), (dP, .inl (cI, 16, .inl (zA pcs)))] zh)) 0 0 (va_A [(od, .inr (2, [.ref o, .ref dH, .ref dP, .ref dE, .ref dT, .int (zI (↑dz)), .int (zI (bI (dt)))])), (dH, .inl (cI, 16, .inl (zA hd))), (dP, .inl (cI, 16, .inl (zA pcs)))] zh) := by
  refine Met.ofW (cc := qc_D_writeSymbol) (maxL := 2) (ret := (Option.none : Option Jvm.ClassFile.FieldType)) (by decide) rfl ?_
  intro pg eg sg mg args below meth cg s₁ B hml hv
  obtain ⟨rfl, hsz, hP, hF0, hK, hN, hD0, hap⟩ := hv
  have hx := B.exec
  have hb := B.bytes
  have hr := B.returns
  have hts := atoms_spec (ws := qw_D_writeSymbol) B.pre
  have hg : ∀ w ∈ gw, w.before _ sg = true := fun w h => hts w (List.mem_cons_of_mem _ h)
  have hown : sg.vm.findClass "TermOrders$Draft" = some mg.cls := findClass_of_methodNamed B.named
  have hlocks := B.notSynchronized
  have hl := lv_entry ([.ref od, .int (zI (↑x))]) (n := 2) (Nat.le_of_ble_eq_true rfl)
  rw [lg_entry_eq]
  generalize (lg_sl ([.ref od, .int (zI (↑x))]) ++ List.replicate (2 - (lg_sl ([.ref od, .int (zI (↑x))])).length) Slot.unset).toArray = ls at hl ⊢
  subst hsz
  have hD := hD0.self (sz := sg.heap.size)
  have hFA := apw_A hap (fun k q hk => (hF0 k q hk).lt)
  generalize hAe : va_A [(od, .inr (2, [.ref o, .ref dH, .ref dP, .ref dE, .ref dT, .int (zI (↑dz)), .int (zI (bI (dt)))])), (dH, .inl (cI, 16, .inl (zA hd))), (dP, .inl (cI, 16, .inl (zA pcs)))] sg.heap.size = A at hD hFA ⊢
  have hA : ∀ q : Nat, sg.heap.size ≤ q → A q := fun q h => by rw [← hAe]; exact Or.inr h
  have hS : va_S A sg.heap sg.heap [] := va_S.rf
  have hF := hF0
  have hl : lv_has ls 2 [(0, .ref od), (1, .int (zI (↑x)))] := hl
  refine lv_aload_n hx hb qd_D_writeSymbol_0 rfl (lv_at hl 0 rfl) ?_
  refine lv_iload_n hx hb qd_D_writeSymbol_1 rfl (lv_at hl 1 rfl) ?_
  refine lv_aload_n hx hb qd_D_writeSymbol_2 rfl (lv_at hl 0 rfl) ?_
  refine va_get (D := (dC, dI)) (ci := 2) (v := .ref o) (C := "TermOrders$Draft") (T := qT_D) (N := 7) hx hb hg qi_D hown hK hP 0 rfl rfl 0 (by decide) (hg _ wd_59) (fun _ h9 => h9) rfl qd_D_writeSymbol_3 ?_
  refine va_getN (D := (dC, dI)) (ci := 0) (v := .ref aA) (C := "TermOrders$Symbols") (T := qT_S) (N := 5) hx hb hg qi_S hown hK hF 0 rfl rfl 0 (by decide) (va_Nw.use rfl (hN.use nw_32)) (fun _ h9 => h9) rfl qd_D_writeSymbol_6 ?_
  refine lv_iload_n hx hb qd_D_writeSymbol_9 rfl (lv_at hl 1 rfl) ?_
  refine zz_iald hx hb hK hF 1 0 rfl rfl x rfl (by omega) (by omega) qd_D_writeSymbol_10 ?_
  have hPc := hP.sub (ws' := [(od, .inr (2, [.ref o, .ref dH, .ref dP, .ref dE, .ref dT, .int (zI (↑dz)), .int (zI (bI (dt)))])), (dH, .inl (cI, 16, .inl (zA hd))), (dP, .inl (cI, 16, .inl (zA pcs)))]) [0, 1, 2] rfl
  have hDc := hD.sub (ws' := [(od, .inr (2, [.ref o, .ref dH, .ref dP, .ref dE, .ref dT, .int (zI (↑dz)), .int (zI (bI (dt)))])), (dH, .inl (cI, 16, .inl (zA hd))), (dP, .inl (cI, 16, .inl (zA pcs)))]) [0, 1, 2] (by decide) rfl
  have hFr := va_free (wc := [(od, .inr (2, [.ref o, .ref dH, .ref dP, .ref dE, .ref dT, .int (zI (↑dz)), .int (zI (bI (dt)))])), (dH, .inl (cI, 16, .inl (zA hd))), (dP, .inl (cI, 16, .inl (zA pcs)))]) hD hS hA [0, 1, 2] rfl
  refine va_callv (va_runV (As := [.int (zI ((↑x))), .int (zI ((ar x)))]) (rest := []) ⟨hx, hb, hml, hown, hg⟩ (c_D_write l dC dI cI cZ cT cJ o ar od dH dP dE dT dz dt hd pcs de dh l0 (↑x) (ar x) sg.heap.size hdr (by unfold mny; rw [if_neg (by omega)]; rfl)) ⟨callB_of 2 hg (gw_ok (fun _ h => h) wd_279) rfl rfl rfl (hg _ wd_3) (hg _ wd_276) (by decide +kernel) ⟨Nat.le_of_ble_eq_true rfl, Nat.le_of_ble_eq_true rfl⟩, hg _ wd_278, hg _ se_D_write⟩ (mw_preV (va_recv (q0 := 0) hK hP rfl rfl) hPc (pw_nil) hK hN hDc (apw_nil)) rfl rfl hl.1 rfl (lv_room (Nat.le_of_ble_eq_true rfl)) qd_D_writeSymbol_11 ⟨Nat.le_of_ble_eq_true rfl, Nat.le_of_ble_eq_true rfl⟩) hS (fun q _ h => hFr q h) hFr (fun u9 t9 H11_1 L11_1 ht9 hv9 hr11 hB9 hz9 hk9 hS => ?_)
  obtain ⟨hd3, pcs3, dz3, dt3⟩ := u9
  try dsimp only at hr11 hB9
  obtain ⟨hP, hD⟩ := mw_join (wr := []) (w1 := [(od, .inr (2, [.ref o, .ref dH, .ref dP, .ref dE, .ref dT, .int (zI (↑dz3)), .int (zI (bI (dt3)))])), (dH, .inl (cI, 16, .inl (zA hd3))), (dP, .inl (cI, 16, .inl (zA pcs3)))]) hP hD [0, 1, 2] [] rfl rfl (by decide) (by decide) hk9 hFr ht9 hB9
  have hP := hP.sub (ws' := [(od, .inr (2, [.ref o, .ref dH, .ref dP, .ref dE, .ref dT, .int (zI (↑dz3)), .int (zI (bI (dt3)))])), (dH, .inl (cI, 16, .inl (zA hd3))), (dP, .inl (cI, 16, .inl (zA pcs3)))]) [0, 1, 2] rfl
  have hD := hD.sub (ws' := [(od, .inr (2, [.ref o, .ref dH, .ref dP, .ref dE, .ref dT, .int (zI (↑dz3)), .int (zI (bI (dt3)))])), (dH, .inl (cI, 16, .inl (zA hd3))), (dP, .inl (cI, 16, .inl (zA pcs3)))]) [0, 1, 2] (by decide) rfl
  have hF := fz_keep hF0 hFA hS
  exact W.vret hx hb hr (fun t9 ht9 hW9 => ⟨⟨(hd3, pcs3, dz3, dt3), rfl, hr11, mwB_i (by rw [ht9]; exact hP) (va_K.moved hW9.alike hK) hD⟩, hS.F ht9⟩) hS.2.2 qd_D_writeSymbol_14
set_option maxHeartbeats 4000000 in
set_option maxRecDepth 100000 in
theorem c_D_copyPlaces (l : Launch) (dC : Nat → ClassId) (dI : Nat → Nat → Nat) (cI cZ cT cJ : ClassId) (o : Nat) (ar : Nat → Int) (od dH dP dE dT dz : Nat) (dt : Bool) (hd pcs : Nat → Int) (de : Nat → Nat) (dh : Nat → Int) (l0 : List Int) (a aH aP aE n : Nat) (th tm : Nat → Int) (te : Nat → Nat) (tg : Int) (f g : Nat) (zh : Nat) (hdr : drf ar l0 hd pcs dz dt) (h16 : n ≤ 16) (htm : ∀ q, q < n → tm q = mny ar (th q)) (hfg : f ≤ g) (hgn : g ≤ n) : Met l qy_D_copyPlaces qw_D_copyPlaces ({ frames := 1, cells := 0, slots := 0, locals := 22 }) (mwP (dC, dI) qcl (qty cI cZ cT cJ) nwL [(od, .inr (2, [.ref o, .ref dH, .ref dP, .ref dE, .ref dT, .int (zI (↑dz)), .int (zI (bI (dt)))])), (dH, .inl (cI, 16, .inl (zA hd))), (dP, .inl (cI, 16, .inl (zA pcs)))] [(a, .inr (1, [.ref aH, .ref aP, .ref aE, .int (zI (↑n)), .int (zI (tg))])), (aH, .inl (cI, n, .inl (zA th))), (aP, .inl (cI, n, .inl (zA tm))), (aE, .inl (cI, n, .inl (zA (eI te))))] zh [.ref od, .ref a, .int (zI (↑f)), .int (zI (↑g))]) (va_Qv (S := (Nat → Int) × (Nat → Int) × (Nat) × (Bool)) (fun uq => drf ar (l0 ++ seg th f g) uq.1 uq.2.1 uq.2.2.1 uq.2.2.2) (fun uq tq => mwB (dC, dI) qcl (qty cI cZ cT cJ) (va_A [(od, .inr (2, [.ref o, .ref dH, .ref dP, .ref dE, .ref dT, .int (zI (↑dz)), .int (zI (bI (dt)))])), (dH, .inl (cI, 16, .inl (zA hd))), (dP, .inl (cI, 16, .inl (zA pcs)))] zh) [(od, .inr (2, [.ref o, .ref dH, .ref dP, .ref dE, .ref dT, .int (zI (↑uq.2.2.1)), .int (zI (bI (uq.2.2.2)))])), (dH, .inl (cI, 16, .inl (zA uq.1))), (dP, .inl (cI, 16, .inl (zA uq.2.1)))] tq) (va_A [(od, .inr (2, [.ref o, .ref dH, .ref dP, .ref dE, .ref dT, .int (zI (↑dz)), .int (zI (bI (dt)))])), (dH, .inl (cI, 16, .inl (zA hd))), (dP, .inl (cI, 16, .inl (zA pcs)))] zh)) 0 0 (va_A [(od, .inr (2, [.ref o, .ref dH, .ref dP, .ref dE, .ref dT, .int (zI (↑dz)), .int (zI (bI (dt)))])), (dH, .inl (cI, 16, .inl (zA hd))), (dP, .inl (cI, 16, .inl (zA pcs)))] zh) := by
  refine Met.ofW (cc := qc_D_copyPlaces) (maxL := 5) (ret := (Option.none : Option Jvm.ClassFile.FieldType)) (by decide) rfl ?_
  intro pg eg sg mg args below meth cg s₁ B hml hv
  obtain ⟨rfl, hsz, hP, hF0, hK, hN, hD0, hap⟩ := hv
  have hx := B.exec
  have hb := B.bytes
  have hr := B.returns
  have hts := atoms_spec (ws := qw_D_copyPlaces) B.pre
  have hg : ∀ w ∈ gw, w.before _ sg = true := fun w h => hts w (List.mem_cons_of_mem _ h)
  have hown : sg.vm.findClass "TermOrders$Draft" = some mg.cls := findClass_of_methodNamed B.named
  have hlocks := B.notSynchronized
  have hl := lv_entry ([.ref od, .ref a, .int (zI (↑f)), .int (zI (↑g))]) (n := 5) (Nat.le_of_ble_eq_true rfl)
  rw [lg_entry_eq]
  generalize (lg_sl ([.ref od, .ref a, .int (zI (↑f)), .int (zI (↑g))]) ++ List.replicate (5 - (lg_sl ([.ref od, .ref a, .int (zI (↑f)), .int (zI (↑g))])).length) Slot.unset).toArray = ls at hl ⊢
  subst hsz
  have hD := hD0.self (sz := sg.heap.size)
  have hFA := apw_A hap (fun k q hk => (hF0 k q hk).lt)
  generalize hAe : va_A [(od, .inr (2, [.ref o, .ref dH, .ref dP, .ref dE, .ref dT, .int (zI (↑dz)), .int (zI (bI (dt)))])), (dH, .inl (cI, 16, .inl (zA hd))), (dP, .inl (cI, 16, .inl (zA pcs)))] sg.heap.size = A at hD hFA ⊢
  have hA : ∀ q : Nat, sg.heap.size ≤ q → A q := fun q h => by rw [← hAe]; exact Or.inr h
  have hS : va_S A sg.heap sg.heap [] := va_S.rf
  have hF := hF0
  have hl : lv_has ls 5 [(0, .ref od), (1, .ref a), (2, .int (zI (↑f))), (3, .int (zI (↑g)))] := hl
  refine lv_iload_n hx hb qd_D_copyPlaces_0 rfl (lv_at hl 2 rfl) ?_
  refine lv_istore (lv' := [(4, .int (zI (↑f))), (0, .ref od), (1, .ref a), (2, .int (zI (↑f))), (3, .int (zI (↑g)))]) hx hb qd_D_copyPlaces_1 hl (by decide) rfl (fun ls hl => ?_)
  have L3 : ∀ (d9 : Nat) (i : Nat) (hz : Nat → Int) (pz : Nat → Int) (zz : Nat) (zt : Bool), (f + i ≤ g) → (drf ar (l0 ++ seg th f (f + i)) hz pz zz zt) → g - (f + i) = d9 → ∀ (H3_1 : Heap) (L3_1 : List Loc), va_P (dC, dI) qcl [(od, .inr (2, [.ref o, .ref dH, .ref dP, .ref dE, .ref dT, .int (zI (↑zz)), .int (zI (bI (zt)))])), (dH, .inl (cI, 16, .inl (zA hz))), (dP, .inl (cI, 16, .inl (zA pz)))] H3_1 → va_D A [(od, .inr (2, [.ref o, .ref dH, .ref dP, .ref dE, .ref dT, .int (zI (↑zz)), .int (zI (bI (zt)))])), (dH, .inl (cI, 16, .inl (zA hz))), (dP, .inl (cI, 16, .inl (zA pz)))] → va_S A sg.heap H3_1 L3_1 → ∀ ls : Array Slot, lv_has ls 5 [(4, .int (zI (↑(f + i)))), (0, .ref od), (1, .ref a), (2, .int (zI (↑f))), (3, .int (zI (↑g)))] → W pg l eg (headSpec qw_D_copyPlaces ({ frames := 1, cells := 0, slots := 0, locals := 22 })).room sg mg ([.ref od, .ref a, .int (zI (↑f)), .int (zI (↑g))] : List Value).toArray below meth cg H3_1 L3_1 0 0 (MQ below (va_Qv (S := (Nat → Int) × (Nat → Int) × (Nat) × (Bool)) (fun uq => drf ar (l0 ++ seg th f g) uq.1 uq.2.1 uq.2.2.1 uq.2.2.2) (fun uq tq => mwB (dC, dI) qcl (qty cI cZ cT cJ) A [(od, .inr (2, [.ref o, .ref dH, .ref dP, .ref dE, .ref dT, .int (zI (↑uq.2.2.1)), .int (zI (bI (uq.2.2.2)))])), (dH, .inl (cI, 16, .inl (zA uq.1))), (dP, .inl (cI, 16, .inl (zA uq.2.1)))] tq) A) ([.ref od, .ref a, .int (zI (↑f)), .int (zI (↑g))] : List Value).toArray sg 0 0 A) (F0 mg 3 ls []) := by
    intro d9
    induction d9 using Nat.strongRecOn with
    | _ d9 ih3 =>
      intro i hz pz zz zt hi hdz hd9 H3_1 L3_1 hP hD hS ls hl
      have hF := fz_keep hF0 hFA hS
      refine lv_iload hx hb qd_D_copyPlaces_3 (lv_at hl 0 rfl) ?_
      refine lv_iload_n hx hb qd_D_copyPlaces_5 rfl (lv_at hl 4 rfl) ?_
      refine zz_icmp_ge (tgt := 33) hx hb qd_D_copyPlaces_6 (by decide) (by omega) (by omega) (fun h6 => ?_) (fun h6 => ?_)
      · skip
        exact W.vret hx hb hr (fun t9 ht9 hW9 => ⟨⟨(hz, pz, zz, zt), rfl, (by rw [show g = f + i by omega]; exact hdz), mwB_i (by rw [ht9]; exact hP) (va_K.moved hW9.alike hK) hD⟩, hS.F ht9⟩) hS.2.2 qd_D_copyPlaces_33
      · skip
        refine lv_aload_n hx hb qd_D_copyPlaces_9 rfl (lv_at hl 1 rfl) ?_
        refine lv_aload_n hx hb qd_D_copyPlaces_10 rfl (lv_at hl 2 rfl) ?_
        refine va_getN (D := (dC, dI)) (ci := 1) (v := .ref aH) (C := "TermOrders$Term") (T := qT_T) (N := 5) hx hb hg qi_T hown hK hF 0 rfl rfl 0 (by decide) (va_Nw.use rfl (hN.use nw_326)) (fun _ h9 => h9) rfl qd_D_copyPlaces_11 ?_
        refine lv_iload hx hb qd_D_copyPlaces_14 (lv_at hl 0 rfl) ?_
        refine zz_iald hx hb hK hF 1 0 rfl rfl (f + i) rfl (by omega) (by omega) qd_D_copyPlaces_16 ?_
        refine lv_aload_n hx hb qd_D_copyPlaces_17 rfl (lv_at hl 2 rfl) ?_
        refine va_getN (D := (dC, dI)) (ci := 1) (v := .ref aP) (C := "TermOrders$Term") (T := qT_T) (N := 5) hx hb hg qi_T hown hK hF 0 rfl rfl 1 (by decide) (va_Nw.use rfl (hN.use nw_331)) (fun _ h9 => h9) rfl qd_D_copyPlaces_18 ?_
        refine lv_iload hx hb qd_D_copyPlaces_21 (lv_at hl 0 rfl) ?_
        refine zz_iald hx hb hK hF 2 0 rfl rfl (f + i) rfl (by omega) (by omega) qd_D_copyPlaces_23 ?_
        have hPc := hP.sub (ws' := [(od, .inr (2, [.ref o, .ref dH, .ref dP, .ref dE, .ref dT, .int (zI (↑zz)), .int (zI (bI (zt)))])), (dH, .inl (cI, 16, .inl (zA hz))), (dP, .inl (cI, 16, .inl (zA pz)))]) [0, 1, 2] rfl
        have hDc := hD.sub (ws' := [(od, .inr (2, [.ref o, .ref dH, .ref dP, .ref dE, .ref dT, .int (zI (↑zz)), .int (zI (bI (zt)))])), (dH, .inl (cI, 16, .inl (zA hz))), (dP, .inl (cI, 16, .inl (zA pz)))]) [0, 1, 2] (by decide) rfl
        have hFr := va_free (wc := [(od, .inr (2, [.ref o, .ref dH, .ref dP, .ref dE, .ref dT, .int (zI (↑zz)), .int (zI (bI (zt)))])), (dH, .inl (cI, 16, .inl (zA hz))), (dP, .inl (cI, 16, .inl (zA pz)))]) hD hS hA [0, 1, 2] rfl
        refine va_callv (va_runV (As := [.int (zI ((th (f + i)))), .int (zI ((tm (f + i))))]) (rest := []) ⟨hx, hb, hml, hown, hg⟩ (c_D_write l dC dI cI cZ cT cJ o ar od dH dP dE dT zz zt hz pz de dh (l0 ++ seg th f (f + i)) (th (f + i)) (tm (f + i)) H3_1.size hdz (htm _ (by omega))) ⟨callB_of 2 hg (gw_ok (fun _ h => h) wd_279) rfl rfl rfl (hg _ wd_3) (hg _ wd_276) (by decide +kernel) ⟨Nat.le_of_ble_eq_true rfl, Nat.le_of_ble_eq_true rfl⟩, hg _ wd_278, hg _ se_D_write⟩ (mw_preV (va_recv (q0 := 0) hK hP rfl rfl) hPc (pw_nil) hK hN hDc (apw_nil)) rfl rfl hl.1 rfl (lv_room (Nat.le_of_ble_eq_true rfl)) qd_D_copyPlaces_24 ⟨Nat.le_of_ble_eq_true rfl, Nat.le_of_ble_eq_true rfl⟩) hS (fun q _ h => hFr q h) hFr (fun u9 t9 H24_2 L24_2 ht9 hv9 hr24 hB9 hz9 hk9 hS => ?_)
        obtain ⟨hd3, pcs3, dz3, dt3⟩ := u9
        try dsimp only at hr24 hB9
        obtain ⟨hP, hD⟩ := mw_join (wr := []) (w1 := [(od, .inr (2, [.ref o, .ref dH, .ref dP, .ref dE, .ref dT, .int (zI (↑dz3)), .int (zI (bI (dt3)))])), (dH, .inl (cI, 16, .inl (zA hd3))), (dP, .inl (cI, 16, .inl (zA pcs3)))]) hP hD [0, 1, 2] [] rfl rfl (by decide) (by decide) hk9 hFr ht9 hB9
        have hP := hP.sub (ws' := [(od, .inr (2, [.ref o, .ref dH, .ref dP, .ref dE, .ref dT, .int (zI (↑dz3)), .int (zI (bI (dt3)))])), (dH, .inl (cI, 16, .inl (zA hd3))), (dP, .inl (cI, 16, .inl (zA pcs3)))]) [0, 1, 2] rfl
        have hD := hD.sub (ws' := [(od, .inr (2, [.ref o, .ref dH, .ref dP, .ref dE, .ref dT, .int (zI (↑dz3)), .int (zI (bI (dt3)))])), (dH, .inl (cI, 16, .inl (zA hd3))), (dP, .inl (cI, 16, .inl (zA pcs3)))]) [0, 1, 2] (by decide) rfl
        have hF := fz_keep hF0 hFA hS
        refine lv_iinc (k := 0) (lv' := [(4, .int (zI (↑(f + (i + 1))))), (0, .ref od), (1, .ref a), (2, .int (zI (↑f))), (3, .int (zI (↑g)))]) hx hb qd_D_copyPlaces_27 hl rfl (zI_inc (v := ↑(f + (i + 1))) (by omega)) (by decide) rfl (fun ls hl => ?_)
        refine lv_goto (tgt := 3) hx hb qd_D_copyPlaces_30 (by decide) ?_
        exact ih3 _ (by omega) (i + 1) hd3 pcs3 dz3 dt3 (by omega) (by rw [← Nat.add_assoc, seg_s th (by omega), ← List.append_assoc]; exact hr24) rfl H24_2 L24_2 hP hD hS ls hl
  exact L3 _ 0 hd pcs dz dt (by omega) (by rw [Nat.add_zero, seg_nil, List.append_nil]; exact hdr) rfl sg.heap [] hP hD hS ls hl
set_option maxHeartbeats 4000000 in
set_option maxRecDepth 100000 in
theorem c_D_measure (l : Launch) (dC : Nat → ClassId) (dI : Nat → Nat → Nat) (cI cZ cT cJ : ClassId) (o : Nat) (od dH dP dE dT dz : Nat) (dt : Bool) (hd pcs : Nat → Int) (de : Nat → Nat) (dh : Nat → Int) (e : Nat → Nat) (t : Nat → Int) (p : Nat) (zh : Nat) (hz16 : dz ≤ 16) (hpc : ∀ q, q < dz → 0 ≤ pcs q ∧ pcs q ≤ 3) (we : wfE pcs dz e) (hge : hgE pcs dz e t) (hp : p < dz) (hde : ∀ q, p < q → q < dz → de q = e q ∧ dh q = t q) : Met l qy_D_measure qw_D_measure ({ frames := 1, cells := 0, slots := 0, locals := 40 }) (mwP (dC, dI) qcl (qty cI cZ cT cJ) nwL [(dE, .inl (cI, 16, .inl (zA (eI de)))), (dT, .inl (cI, 16, .inl (zA dh)))] [(od, .inr (2, [.ref o, .ref dH, .ref dP, .ref dE, .ref dT, .int (zI (↑dz)), .int (zI (bI (dt)))])), (dP, .inl (cI, 16, .inl (zA pcs)))] zh [.ref od, .int (zI (↑p))]) (va_Qv (S := Unit) (fun uq => True) (fun uq tq => mwB (dC, dI) qcl (qty cI cZ cT cJ) (va_A [(dE, .inl (cI, 16, .inl (zA (eI de)))), (dT, .inl (cI, 16, .inl (zA dh)))] zh) [(dE, .inl (cI, 16, .inl (zA (eI (un de p (e p)))))), (dT, .inl (cI, 16, .inl (zA (uz dh p (t p)))))] tq) (va_A [(dE, .inl (cI, 16, .inl (zA (eI de)))), (dT, .inl (cI, 16, .inl (zA dh)))] zh)) 0 0 (va_A [(dE, .inl (cI, 16, .inl (zA (eI de)))), (dT, .inl (cI, 16, .inl (zA dh)))] zh) := by
  refine Met.ofW (cc := qc_D_measure) (maxL := 5) (ret := (Option.none : Option Jvm.ClassFile.FieldType)) (by decide) rfl ?_
  intro pg eg sg mg args below meth cg s₁ B hml hv
  obtain ⟨rfl, hsz, hP, hF0, hK, hN, hD0, hap⟩ := hv
  have hx := B.exec
  have hb := B.bytes
  have hr := B.returns
  have hts := atoms_spec (ws := qw_D_measure) B.pre
  have hg : ∀ w ∈ gw, w.before _ sg = true := fun w h => hts w (List.mem_cons_of_mem _ h)
  have hown : sg.vm.findClass "TermOrders$Draft" = some mg.cls := findClass_of_methodNamed B.named
  have hlocks := B.notSynchronized
  have hl := lv_entry ([.ref od, .int (zI (↑p))]) (n := 5) (Nat.le_of_ble_eq_true rfl)
  rw [lg_entry_eq]
  generalize (lg_sl ([.ref od, .int (zI (↑p))]) ++ List.replicate (5 - (lg_sl ([.ref od, .int (zI (↑p))])).length) Slot.unset).toArray = ls at hl ⊢
  subst hsz
  have hD := hD0.self (sz := sg.heap.size)
  have hFA := apw_A hap (fun k q hk => (hF0 k q hk).lt)
  generalize hAe : va_A [(dE, .inl (cI, 16, .inl (zA (eI de)))), (dT, .inl (cI, 16, .inl (zA dh)))] sg.heap.size = A at hD hFA ⊢
  have hA : ∀ q : Nat, sg.heap.size ≤ q → A q := fun q h => by rw [← hAe]; exact Or.inr h
  have hS : va_S A sg.heap sg.heap [] := va_S.rf
  have hF := hF0
  have hl : lv_has ls 5 [(0, .ref od), (1, .int (zI (↑p)))] := hl
  have hmp := hpc p hp
  obtain ⟨w1, w2, w3, w4⟩ := we p hp
  have hth := hge p hp
  refine lv_iload_n hx hb qd_D_measure_0 rfl (lv_at hl 1 rfl) ?_
  refine lv_iconst (v := zI 1) hx hb qd_D_measure_1 rfl ?_
  refine zz_iadd hx hb (↑(prt e p 0)) rfl qd_D_measure_2 ?_
  refine lv_istore_n (lv' := [(2, .int (zI (↑(prt e p 0)))), (0, .ref od), (1, .int (zI (↑p)))]) hx hb qd_D_measure_3 rfl hl (by decide) rfl (fun ls hl => ?_)
  refine lv_iconst (v := zI 0) hx hb qd_D_measure_4 rfl ?_
  refine lv_istore_n (lv' := [(3, .int (zI (0))), (2, .int (zI (↑(prt e p 0)))), (0, .ref od), (1, .int (zI (↑p)))]) hx hb qd_D_measure_5 rfl hl (by decide) rfl (fun ls hl => ?_)
  refine lv_iconst (v := zI 0) hx hb qd_D_measure_6 rfl ?_
  refine lv_istore (lv' := [(4, .int (zI (0))), (3, .int (zI (0))), (2, .int (zI (↑(prt e p 0)))), (0, .ref od), (1, .int (zI (↑p)))]) hx hb qd_D_measure_7 hl (by decide) rfl (fun ls hl => ?_)
  have L9 : ∀ (d9 : Nat) (k : Nat), ((k : Int) ≤ pcs p) → (pcs p).toNat - k = d9 → ∀ ls : Array Slot, lv_has ls 5 [(4, .int (zI (↑k))), (3, .int (zI (mxh e t p k))), (2, .int (zI (↑(prt e p k)))), (0, .ref od), (1, .int (zI (↑p)))] → W pg l eg (headSpec qw_D_measure ({ frames := 1, cells := 0, slots := 0, locals := 40 })).room sg mg ([.ref od, .int (zI (↑p))] : List Value).toArray below meth cg sg.heap [] 0 0 (MQ below (va_Qv (S := Unit) (fun uq => True) (fun uq tq => mwB (dC, dI) qcl (qty cI cZ cT cJ) A [(dE, .inl (cI, 16, .inl (zA (eI (un de p (e p)))))), (dT, .inl (cI, 16, .inl (zA (uz dh p (t p)))))] tq) A) ([.ref od, .int (zI (↑p))] : List Value).toArray sg 0 0 A) (F0 mg 9 ls []) := by
    intro d9
    induction d9 using Nat.strongRecOn with
    | _ d9 ih9 =>
      intro k hk hd9 ls hl
      have hpi := prt_in we hp k (by omega)
      refine lv_iload hx hb qd_D_measure_9 (lv_at hl 0 rfl) ?_
      refine lv_aload_n hx hb qd_D_measure_11 rfl (lv_at hl 3 rfl) ?_
      refine va_get (D := (dC, dI)) (ci := 2) (v := .ref dP) (C := "TermOrders$Draft") (T := qT_D) (N := 7) hx hb hg qi_D hown hK hF 0 rfl rfl 2 (by decide) (hg _ wd_61) (fun _ h9 => h9) rfl qd_D_measure_12 ?_
      refine lv_iload_n hx hb qd_D_measure_15 rfl (lv_at hl 4 rfl) ?_
      refine zz_iald hx hb hK hF 1 0 rfl rfl p rfl (by omega) (by omega) qd_D_measure_16 ?_
      refine zz_icmp_ge (tgt := 54) hx hb qd_D_measure_17 (by decide) (by omega) (by omega) (fun h17 => ?_) (fun h17 => ?_)
      · skip
        have e8 : (k : Int) = pcs p := by omega
        have e9 : prt e p k = e p := prt_end we hp e8
        have e7 : mxh e t p k = t p := by rw [hth]; congr 1; omega
        refine lv_aload_n hx hb qd_D_measure_54 rfl (lv_at hl 3 rfl) ?_
        refine va_get (D := (dC, dI)) (ci := 2) (v := .ref dT) (C := "TermOrders$Draft") (T := qT_D) (N := 7) hx hb hg qi_D hown hK hF 0 rfl rfl 4 (by decide) (hg _ wd_63) (fun _ h9 => h9) rfl qd_D_measure_55 ?_
        refine lv_iload_n hx hb qd_D_measure_58 rfl (lv_at hl 4 rfl) ?_
        refine lv_iload_n hx hb qd_D_measure_59 rfl (lv_at hl 1 rfl) ?_
        refine zz_top (b := t p) e7 ?_
        refine zz_iast hx hb hK hP hD hS 1 0 rfl rfl p rfl (by omega) (by omega) qd_D_measure_60 (fun H60_1 L60_1 hP hD hS => ?_)
        have hP : va_P (dC, dI) qcl [(dE, .inl (cI, 16, .inl (zA (eI de)))), (dT, .inl (cI, 16, .inl (zA (uz dh p (t p)))))] H60_1 := hP
        have hD : va_D A [(dE, .inl (cI, 16, .inl (zA (eI de)))), (dT, .inl (cI, 16, .inl (zA (uz dh p (t p)))))] := hD
        have hF := fz_keep hF0 hFA hS
        refine lv_aload_n hx hb qd_D_measure_61 rfl (lv_at hl 3 rfl) ?_
        refine va_get (D := (dC, dI)) (ci := 2) (v := .ref dE) (C := "TermOrders$Draft") (T := qT_D) (N := 7) hx hb hg qi_D hown hK hF 0 rfl rfl 3 (by decide) (hg _ wd_62) (fun _ h9 => h9) rfl qd_D_measure_62 ?_
        refine lv_iload_n hx hb qd_D_measure_65 rfl (lv_at hl 4 rfl) ?_
        refine lv_iload_n hx hb qd_D_measure_66 rfl (lv_at hl 2 rfl) ?_
        refine zz_top (b := ↑(e p)) (by rw [e9]) ?_
        refine zz_east hx hb hK hP hD hS 0 0 rfl rfl p rfl (by omega) (by omega) (e p) rfl qd_D_measure_67 (fun H67_2 L67_2 hP hD hS => ?_)
        have hP : va_P (dC, dI) qcl [(dE, .inl (cI, 16, .inl (zA (eI (un de p (e p)))))), (dT, .inl (cI, 16, .inl (zA (uz dh p (t p)))))] H67_2 := hP
        have hD : va_D A [(dE, .inl (cI, 16, .inl (zA (eI (un de p (e p)))))), (dT, .inl (cI, 16, .inl (zA (uz dh p (t p)))))] := hD
        have hF := fz_keep hF0 hFA hS
        exact W.vret hx hb hr (fun t9 ht9 hW9 => ⟨⟨(), rfl, trivial, mwB_i (by rw [ht9]; exact hP) (va_K.moved hW9.alike hK) hD⟩, hS.F ht9⟩) hS.2.2 qd_D_measure_68
      · skip
        have hp1 := prt_lt we hp (k := k) (by omega)
        have hd1 := hde (prt e p k) (by omega) (by omega)
        have hb1 := hg_b we hge (prt e p k) (by omega)
        have hb2 : 0 ≤ mxh e t p k ∧ mxh e t p k ≤ 16 := ⟨mxh_0 _, mxh_le (by omega) _ (fun j hj => by have z1 := prt_lt we hp (k := j) (by omega); have z2 := hg_b we hge (prt e p j) (by omega); omega)⟩
        refine lv_iload_n hx hb qd_D_measure_20 rfl (lv_at hl 2 rfl) ?_
        refine lv_aload_n hx hb qd_D_measure_21 rfl (lv_at hl 3 rfl) ?_
        refine va_get (D := (dC, dI)) (ci := 2) (v := .int (zI (↑dz))) (C := "TermOrders$Draft") (T := qT_D) (N := 7) hx hb hg qi_D hown hK hF 0 rfl rfl 5 (by decide) (hg _ wd_64) (fun _ h9 => h9) rfl qd_D_measure_22 ?_
        refine zz_icmp_ge (tgt := 54) hx hb qd_D_measure_25 (by decide) (by omega) (by omega) (fun h25 => ?_) (fun h25 => ?_)
        · skip
          exfalso
          omega
        · skip
          refine lv_iload_n hx hb qd_D_measure_28 rfl (lv_at hl 1 rfl) ?_
          refine lv_aload_n hx hb qd_D_measure_29 rfl (lv_at hl 3 rfl) ?_
          refine va_get (D := (dC, dI)) (ci := 2) (v := .ref dT) (C := "TermOrders$Draft") (T := qT_D) (N := 7) hx hb hg qi_D hown hK hF 0 rfl rfl 4 (by decide) (hg _ wd_63) (fun _ h9 => h9) rfl qd_D_measure_30 ?_
          refine lv_iload_n hx hb qd_D_measure_33 rfl (lv_at hl 2 rfl) ?_
          refine zz_iald hx hb hK hP 1 0 rfl rfl (prt e p k) rfl (by omega) (by omega) qd_D_measure_34 ?_
          refine zz_top (b := t (prt e p k)) hd1.2 ?_
          refine lv_iconst (v := zI 1) hx hb qd_D_measure_35 rfl ?_
          refine zz_iadd hx hb ((t (prt e p k)) + 1) rfl qd_D_measure_36 ?_
          refine zz_mmax hx hb (hml.trans hl.1.symm) hown (hg _ wd_292) (hg _ wd_293) (hg _ wd_12) (hg _ wd_294) (Nat.le_of_ble_eq_true rfl) (Nat.le_of_ble_eq_true rfl) (Nat.le_of_ble_eq_true rfl) (Nat.le_of_ble_eq_true rfl) (by omega) (by omega) qd_D_measure_37 ?_
          refine lv_istore_n (lv' := [(3, .int (zI (mxh e t p (k + 1)))), (4, .int (zI (↑k))), (2, .int (zI (↑(prt e p k)))), (0, .ref od), (1, .int (zI (↑p)))]) hx hb qd_D_measure_40 rfl hl (by decide) rfl (fun ls hl => ?_)
          refine lv_aload_n hx hb qd_D_measure_41 rfl (lv_at hl 3 rfl) ?_
          refine va_get (D := (dC, dI)) (ci := 2) (v := .ref dE) (C := "TermOrders$Draft") (T := qT_D) (N := 7) hx hb hg qi_D hown hK hF 0 rfl rfl 3 (by decide) (hg _ wd_62) (fun _ h9 => h9) rfl qd_D_measure_42 ?_
          refine lv_iload_n hx hb qd_D_measure_45 rfl (lv_at hl 2 rfl) ?_
          refine zz_eald hx hb hK hP 0 0 rfl rfl (prt e p k) rfl (by omega) (by omega) qd_D_measure_46 ?_
          refine zz_top (b := ↑(prt e p (k + 1))) (by rw [hd1.1]; rfl) ?_
          refine lv_istore_n (lv' := [(2, .int (zI (↑(prt e p (k + 1))))), (3, .int (zI (mxh e t p (k + 1)))), (4, .int (zI (↑k))), (0, .ref od), (1, .int (zI (↑p)))]) hx hb qd_D_measure_47 rfl hl (by decide) rfl (fun ls hl => ?_)
          refine lv_iinc (k := 2) (lv' := [(4, .int (zI (↑(k + 1)))), (2, .int (zI (↑(prt e p (k + 1))))), (3, .int (zI (mxh e t p (k + 1)))), (0, .ref od), (1, .int (zI (↑p)))]) hx hb qd_D_measure_48 hl rfl (zI_inc (v := ↑(k + 1)) (by omega)) (by decide) rfl (fun ls hl => ?_)
          refine lv_goto (tgt := 9) hx hb qd_D_measure_51 (by decide) ?_
          have hl := lv_sub (l' := [(4, .int (zI (↑(k + 1)))), (3, .int (zI (mxh e t p (k + 1)))), (2, .int (zI (↑(prt e p (k + 1))))), (0, .ref od), (1, .int (zI (↑p)))]) hl [0, 2, 1, 3, 4] rfl
          exact ih9 _ (by omega) (k + 1) (by omega) rfl ls hl
  exact L9 _ 0 (by omega) rfl ls hl
set_option maxHeartbeats 4000000 in
set_option maxRecDepth 100000 in
theorem c_D_isWithinLimits (l : Launch) (dC : Nat → ClassId) (dI : Nat → Nat → Nat) (cI cZ cT cJ : ClassId) (o : Nat) (od dH dP dE dT dz : Nat) (dt : Bool) (hd pcs : Nat → Int) (de : Nat → Nat) (dh : Nat → Int) (e : Nat → Nat) (t : Nat → Int) (zh : Nat) (hz16 : dz ≤ 16) (hrow : dt = false → 0 < dz ∧ (∀ q, q < dz → 0 ≤ pcs q ∧ pcs q ≤ 3) ∧ wfE pcs dz e ∧ hgE pcs dz e t) : Met l qy_D_isWithinLimits qw_D_isWithinLimits ({ frames := 2, cells := 0, slots := 0, locals := 64 }) (mwP (dC, dI) qcl (qty cI cZ cT cJ) nwL [(dE, .inl (cI, 16, .inl (zA (eI de)))), (dT, .inl (cI, 16, .inl (zA dh)))] [(od, .inr (2, [.ref o, .ref dH, .ref dP, .ref dE, .ref dT, .int (zI (↑dz)), .int (zI (bI (dt)))])), (dP, .inl (cI, 16, .inl (zA pcs)))] zh [.ref od]) (mwO (S := (Nat → Nat) × (Nat → Int)) (fun r uq => (r = true → dt = false ∧ t 0 ≤ 4 ∧ ∀ q, q < dz → uq.1 q = e q ∧ uq.2 q = t q) ∧ (r = false → dt = true ∨ 4 < t 0)) (fun uq tq => mwB (dC, dI) qcl (qty cI cZ cT cJ) (va_A [(dE, .inl (cI, 16, .inl (zA (eI de)))), (dT, .inl (cI, 16, .inl (zA dh)))] zh) [(dE, .inl (cI, 16, .inl (zA (eI uq.1)))), (dT, .inl (cI, 16, .inl (zA uq.2)))] tq) (va_A [(dE, .inl (cI, 16, .inl (zA (eI de)))), (dT, .inl (cI, 16, .inl (zA dh)))] zh)) 0 0 (va_A [(dE, .inl (cI, 16, .inl (zA (eI de)))), (dT, .inl (cI, 16, .inl (zA dh)))] zh) := by
  refine Met.ofW (cc := qc_D_isWithinLimits) (maxL := 2) (ret := (Option.some Jvm.ClassFile.FieldType.boolean)) (by decide) rfl ?_
  intro pg eg sg mg args below meth cg s₁ B hml hv
  obtain ⟨rfl, hsz, hP, hF0, hK, hN, hD0, hap⟩ := hv
  have hx := B.exec
  have hb := B.bytes
  have hr := B.returns
  have hts := atoms_spec (ws := qw_D_isWithinLimits) B.pre
  have hg : ∀ w ∈ gw, w.before _ sg = true := fun w h => hts w (List.mem_cons_of_mem _ h)
  have hown : sg.vm.findClass "TermOrders$Draft" = some mg.cls := findClass_of_methodNamed B.named
  have hlocks := B.notSynchronized
  have hl := lv_entry ([.ref od]) (n := 2) (Nat.le_of_ble_eq_true rfl)
  rw [lg_entry_eq]
  generalize (lg_sl ([.ref od]) ++ List.replicate (2 - (lg_sl ([.ref od])).length) Slot.unset).toArray = ls at hl ⊢
  subst hsz
  have hD := hD0.self (sz := sg.heap.size)
  have hFA := apw_A hap (fun k q hk => (hF0 k q hk).lt)
  generalize hAe : va_A [(dE, .inl (cI, 16, .inl (zA (eI de)))), (dT, .inl (cI, 16, .inl (zA dh)))] sg.heap.size = A at hD hFA ⊢
  have hA : ∀ q : Nat, sg.heap.size ≤ q → A q := fun q h => by rw [← hAe]; exact Or.inr h
  have hS : va_S A sg.heap sg.heap [] := va_S.rf
  have hF := hF0
  have hl : lv_has ls 2 [(0, .ref od)] := hl
  refine lv_aload_n hx hb qd_D_isWithinLimits_0 rfl (lv_at hl 0 rfl) ?_
  refine va_get (D := (dC, dI)) (ci := 2) (v := .int (zI (bI (dt)))) (C := "TermOrders$Draft") (T := qT_D) (N := 7) hx hb hg qi_D hown hK hF 0 rfl rfl 6 (by decide) (hg _ wd_65) (fun _ h9 => h9) rfl qd_D_isWithinLimits_1 ?_
  refine zz_ifeqB (tgt := 9) hx hb qd_D_isWithinLimits_4 (by decide) (fun h4 => ?_) (fun h4 => ?_)
  · skip
    obtain ⟨hz0, hpc, we, hge⟩ := hrow h4
    refine lv_aload_n hx hb qd_D_isWithinLimits_9 rfl (lv_at hl 0 rfl) ?_
    refine va_get (D := (dC, dI)) (ci := 2) (v := .int (zI (↑dz))) (C := "TermOrders$Draft") (T := qT_D) (N := 7) hx hb hg qi_D hown hK hF 0 rfl rfl 5 (by decide) (hg _ wd_64) (fun _ h9 => h9) rfl qd_D_isWithinLimits_10 ?_
    refine lv_iconst (v := zI 1) hx hb qd_D_isWithinLimits_13 rfl ?_
    refine zz_isub hx hb ((↑dz) - 1) rfl qd_D_isWithinLimits_14 ?_
    refine lv_istore_n (lv' := [(1, .int (zI ((↑dz) - 1))), (0, .ref od)]) hx hb qd_D_isWithinLimits_15 rfl hl (by decide) rfl (fun ls hl => ?_)
    have L16 : ∀ (d9 : Nat) (j : Int) (ez : Nat → Nat) (tz : Nat → Int), (-1 ≤ j ∧ j < dz) → (∀ q : Nat, j < q → q < dz → ez q = e q ∧ tz q = t q) → (j + 1).toNat = d9 → ∀ (H16_1 : Heap) (L16_1 : List Loc), va_P (dC, dI) qcl [(dE, .inl (cI, 16, .inl (zA (eI ez)))), (dT, .inl (cI, 16, .inl (zA tz)))] H16_1 → va_D A [(dE, .inl (cI, 16, .inl (zA (eI ez)))), (dT, .inl (cI, 16, .inl (zA tz)))] → va_S A sg.heap H16_1 L16_1 → ∀ ls : Array Slot, lv_has ls 2 [(1, .int (zI (j))), (0, .ref od)] → W pg l eg (headSpec qw_D_isWithinLimits ({ frames := 2, cells := 0, slots := 0, locals := 64 })).room sg mg ([.ref od] : List Value).toArray below meth cg H16_1 L16_1 0 0 (MQ below (mwO (S := (Nat → Nat) × (Nat → Int)) (fun r uq => (r = true → dt = false ∧ t 0 ≤ 4 ∧ ∀ q, q < dz → uq.1 q = e q ∧ uq.2 q = t q) ∧ (r = false → dt = true ∨ 4 < t 0)) (fun uq tq => mwB (dC, dI) qcl (qty cI cZ cT cJ) A [(dE, .inl (cI, 16, .inl (zA (eI uq.1)))), (dT, .inl (cI, 16, .inl (zA uq.2)))] tq) A) ([.ref od] : List Value).toArray sg 0 0 A) (F0 mg 16 ls []) := by
      intro d9
      induction d9 using Nat.strongRecOn with
      | _ d9 ih16 =>
        intro j ez tz hj hde hd9 H16_1 L16_1 hP hD hS ls hl
        have hF := fz_keep hF0 hFA hS
        refine lv_iload_n hx hb qd_D_isWithinLimits_16 rfl (lv_at hl 0 rfl) ?_
        refine zz_if_lt (tgt := 31) hx hb qd_D_isWithinLimits_17 (by decide) (by omega) (fun h17 => ?_) (fun h17 => ?_)
        · skip
          have h00 := hde 0 (by omega) hz0
          have hb0 := hg_b we hge 0 hz0
          refine lv_aload_n hx hb qd_D_isWithinLimits_31 rfl (lv_at hl 1 rfl) ?_
          refine va_get (D := (dC, dI)) (ci := 2) (v := .ref dT) (C := "TermOrders$Draft") (T := qT_D) (N := 7) hx hb hg qi_D hown hK hF 0 rfl rfl 4 (by decide) (hg _ wd_63) (fun _ h9 => h9) rfl qd_D_isWithinLimits_32 ?_
          refine lv_iconst (v := zI 0) hx hb qd_D_isWithinLimits_35 rfl ?_
          refine zz_iald hx hb hK hP 1 0 rfl rfl 0 (by omega) (by omega) (by omega) qd_D_isWithinLimits_36 ?_
          refine zz_top (b := t 0) h00.2 ?_
          refine lv_iconst (v := zI 4) hx hb qd_D_isWithinLimits_37 rfl ?_
          refine zz_icmp_gt (tgt := 45) hx hb qd_D_isWithinLimits_38 (by decide) (by omega) (by omega) (fun h38 => ?_) (fun h38 => ?_)
          · skip
            refine lv_iconst (v := zI 0) hx hb qd_D_isWithinLimits_45 rfl ?_
            exact W.zret (v := zI (bI false)) (ty := .boolean) hx hb hr (bI_n _) (fun t9 ht9 hW9 => ⟨⟨false, (ez, tz), rfl, ⟨fun q => Bool.noConfusion q, fun _ => Or.inr (by omega)⟩, mwB_i (by rw [ht9]; exact hP) (va_K.moved hW9.alike hK) hD⟩, hS.F ht9⟩) hS.2.2 qd_D_isWithinLimits_46
          · skip
            refine lv_iconst (v := zI 1) hx hb qd_D_isWithinLimits_41 rfl ?_
            refine lv_goto (tgt := 46) hx hb qd_D_isWithinLimits_42 (by decide) ?_
            exact W.zret (v := zI (bI true)) (ty := .boolean) hx hb hr (bI_n _) (fun t9 ht9 hW9 => ⟨⟨true, (ez, tz), rfl, ⟨fun _ => ⟨h4, by omega, fun q hq => hde q (by omega) hq⟩, fun q => Bool.noConfusion q⟩, mwB_i (by rw [ht9]; exact hP) (va_K.moved hW9.alike hK) hD⟩, hS.F ht9⟩) hS.2.2 qd_D_isWithinLimits_46
        · skip
          obtain ⟨p, rfl⟩ : ∃ p : Nat, j = ↑p := ⟨j.toNat, by omega⟩
          refine lv_aload_n hx hb qd_D_isWithinLimits_20 rfl (lv_at hl 1 rfl) ?_
          refine lv_iload_n hx hb qd_D_isWithinLimits_21 rfl (lv_at hl 0 rfl) ?_
          have hPc := hP.sub (ws' := [(dE, .inl (cI, 16, .inl (zA (eI ez)))), (dT, .inl (cI, 16, .inl (zA tz)))]) [0, 1] rfl
          have hDc := hD.sub (ws' := [(dE, .inl (cI, 16, .inl (zA (eI ez)))), (dT, .inl (cI, 16, .inl (zA tz)))]) [0, 1] (by decide) rfl
          have hFr := va_free (wc := [(dE, .inl (cI, 16, .inl (zA (eI ez)))), (dT, .inl (cI, 16, .inl (zA tz)))]) hD hS hA [0, 1] rfl
          refine va_callv (va_runV (As := [.int (zI (↑p))]) (rest := []) ⟨hx, hb, hml, hown, hg⟩ (c_D_measure l dC dI cI cZ cT cJ o od dH dP dE dT dz dt hd pcs ez tz e t p H16_1.size hz16 hpc we hge (by omega) (fun q h1 h2 => hde q (by omega) h2)) ⟨callB_of 1 hg (gw_ok (fun _ h => h) wd_291) rfl rfl rfl (hg _ wd_3) (hg _ wd_288) (by decide +kernel) ⟨Nat.le_of_ble_eq_true rfl, Nat.le_of_ble_eq_true rfl⟩, hg _ wd_290, hg _ se_D_measure⟩ (mw_preV (va_recv (q0 := 0) hK hF rfl rfl) hPc (pw_c (q := (od, .inr (2, [.ref o, .ref dH, .ref dP, .ref dE, .ref dT, .int (zI (↑dz)), .int (zI (bI (dt)))]))) hF 0 rfl (pw_c (q := (dP, .inl (cI, 16, .inl (zA pcs)))) hF 1 rfl (pw_nil))) hK hN hDc (apw_c (q := (od, .inr (2, [.ref o, .ref dH, .ref dP, .ref dE, .ref dT, .int (zI (↑dz)), .int (zI (bI (dt)))]))) (apw_f hD [0, 1] rfl (hFA 0 _ rfl)) (apw_c (q := (dP, .inl (cI, 16, .inl (zA pcs)))) (apw_f hD [0, 1] rfl (hFA 1 _ rfl)) (apw_nil)))) rfl rfl hl.1 rfl (lv_room (Nat.le_of_ble_eq_true rfl)) qd_D_isWithinLimits_22 ⟨Nat.le_of_ble_eq_true rfl, Nat.le_of_ble_eq_true rfl⟩) hS (fun q _ h => hFr q h) hFr (fun u9 t9 H22_2 L22_2 ht9 hv9 hr22 hB9 hz9 hk9 hS => ?_)
          obtain ⟨hP, hD⟩ := mw_join (wr := []) (w1 := [(dE, .inl (cI, 16, .inl (zA (eI (un ez p (e p)))))), (dT, .inl (cI, 16, .inl (zA (uz tz p (t p)))))]) hP hD [0, 1] [] rfl rfl (by decide) (by decide) hk9 hFr ht9 hB9
          have hP := hP.sub (ws' := [(dE, .inl (cI, 16, .inl (zA (eI (un ez p (e p)))))), (dT, .inl (cI, 16, .inl (zA (uz tz p (t p)))))]) [0, 1] rfl
          have hD := hD.sub (ws' := [(dE, .inl (cI, 16, .inl (zA (eI (un ez p (e p)))))), (dT, .inl (cI, 16, .inl (zA (uz tz p (t p)))))]) [0, 1] (by decide) rfl
          have hF := fz_keep hF0 hFA hS
          refine lv_iinc (k := 0) (lv' := [(1, .int (zI (↑p - 1))), (0, .ref od)]) hx hb qd_D_isWithinLimits_25 hl rfl (zI_inc (v := ↑p - 1) (by omega)) (by decide) rfl (fun ls hl => ?_)
          refine lv_goto (tgt := 16) hx hb qd_D_isWithinLimits_28 (by decide) ?_
          exact ih16 _ (by omega) (↑p - 1) (un ez p (e p)) (uz tz p (t p)) (by omega) (fun q h1 h2 => if h8 : q = p then (by rw [h8, un_s, uz_s]; exact ⟨rfl, rfl⟩) else (by rw [un_n _ _ h8, uz_n _ _ h8]; exact hde q (by omega) h2)) rfl H22_2 L22_2 hP hD hS ls hl
    exact L16 _ (↑dz - 1) de dh (by omega) (fun q h1 h2 => by omega) rfl sg.heap [] hP hD hS ls hl
  · skip
    refine lv_iconst (v := zI 0) hx hb qd_D_isWithinLimits_7 rfl ?_
    exact W.zret (v := zI (bI false)) (ty := .boolean) hx hb hr (bI_n _) (fun t9 ht9 hW9 => ⟨⟨false, (de, dh), rfl, ⟨fun q => Bool.noConfusion q, fun _ => Or.inl h4⟩, mwB_i (by rw [ht9]; exact hP) (va_K.moved hW9.alike hK) hD⟩, hS.F ht9⟩) hS.2.2 qd_D_isWithinLimits_8
