theorem zI_nn {n : Nat} (h : n < 2147483647) : ¬ zI (n : Int) < 0 := fun z => zI_in (n := n) (N := n + 1) (by omega) (by omega) (Or.inl z)
set_option maxHeartbeats 4000000 in
set_option maxRecDepth 100000 in
theorem c_M_init (l : Launch) (dC : Nat → ClassId) (dI : Nat → Nat → Nat) (cI cZ cT cJ : ClassId) (o : Nat) (zh : Nat)  : Met l qy_M_init qw_M_init ({ frames := 1, cells := 13, slots := 3147, locals := 60 }) (mwP (dC, dI) qcl (qty cI cZ cT cJ) nwL [(o, .inr (6, [.int (zI (0)), .null, .null, .null, .int (zI (0)), .null, .null, .int (zI (0)), .null, .null, .null, .null, .null, .null, .null, .null, .int (zI (0))]))] [] zh [.ref o]) (va_Qv (S := (Nat) × (Nat) × (Nat) × (Nat) × (Nat) × (Nat) × (Nat) × (Nat) × (Nat) × (Nat) × (Nat) × (Nat) × (Nat)) (fun uq => True) (fun uq tq => mwB (dC, dI) qcl (qty cI cZ cT cJ) (va_A [(o, .inr (6, [.int (zI (0)), .null, .null, .null, .int (zI (0)), .null, .null, .int (zI (0)), .null, .null, .null, .null, .null, .null, .null, .null, .int (zI (0))]))] zh) [(o, .inr (6, [.int (zI (0)), .ref (uq.1), .ref (uq.2.1), .ref (uq.2.2.1), .int (zI (0)), .ref (uq.2.2.2.1), .ref (uq.2.2.2.2.1), .int (zI (0)), .ref (uq.2.2.2.2.2.1), .ref (uq.2.2.2.2.2.2.1), .ref (uq.2.2.2.2.2.2.2.1), .ref (uq.2.2.2.2.2.2.2.2.1), .ref (uq.2.2.2.2.2.2.2.2.2.1), .ref (uq.2.2.2.2.2.2.2.2.2.2.1), .ref (uq.2.2.2.2.2.2.2.2.2.2.2.1), .ref (uq.2.2.2.2.2.2.2.2.2.2.2.2), .int (zI (0))])), (uq.1, .inl (cI, 5, .inl (zA (fun _ => 0)))), (uq.2.1, .inl (cI, 5, .inl (zA (fun _ => 0)))), (uq.2.2.1, .inl (cI, 5, .inl (zA (fun _ => 0)))), (uq.2.2.2.1, .inl (cI, 2608, .inl (zA (fun _ => 0)))), (uq.2.2.2.2.1, .inl (cI, 163, .inl (zA (eI (fun _ => 0))))), (uq.2.2.2.2.2.1, .inl (cI, 8, .inl (zA (eI (fun _ => 0))))), (uq.2.2.2.2.2.2.1, .inl (cI, 8, .inl (zA (eI (fun _ => 0))))), (uq.2.2.2.2.2.2.2.1, .inl (cI, 16, .inl (zA (fun _ => 0)))), (uq.2.2.2.2.2.2.2.2.1, .inl (cI, 32, .inl (zA (fun _ => 0)))), (uq.2.2.2.2.2.2.2.2.2.1, .inl (cI, 32, .inl (zA (eI (fun _ => 0))))), (uq.2.2.2.2.2.2.2.2.2.2.1, .inl (cZ, 256, .inl (zB (fun _ => false)))), (uq.2.2.2.2.2.2.2.2.2.2.2.1, .inl (cI, 4, .inl (zA (fun _ => 0)))), (uq.2.2.2.2.2.2.2.2.2.2.2.2, .inl (cI, 5, .inl (zA (fun _ => 0))))] tq) (va_A [(o, .inr (6, [.int (zI (0)), .null, .null, .null, .int (zI (0)), .null, .null, .int (zI (0)), .null, .null, .null, .null, .null, .null, .null, .null, .int (zI (0))]))] zh)) 13 3147 (va_A [(o, .inr (6, [.int (zI (0)), .null, .null, .null, .int (zI (0)), .null, .null, .int (zI (0)), .null, .null, .null, .null, .null, .null, .null, .null, .int (zI (0))]))] zh) := by
  refine Met.ofW (cc := qc_M_init) (maxL := 1) (ret := (Option.none : Option Jvm.ClassFile.FieldType)) (by decide) rfl ?_
  intro pg eg sg mg args below meth cg s₁ B hml hv
  obtain ⟨rfl, hsz, hP, hF0, hK, hN, hD0, hap⟩ := hv
  have hx := B.exec
  have hb := B.bytes
  have hr := B.returns
  have hts := atoms_spec (ws := qw_M_init) B.pre
  have hg : ∀ w ∈ gw, w.before _ sg = true := fun w h => hts w (List.mem_cons_of_mem _ h)
  have hown : sg.vm.findClass "TermOrdersModel" = some mg.cls := findClass_of_methodNamed B.named
  have hlocks := B.notSynchronized
  have hl := lv_entry ([.ref o]) (n := 1) (Nat.le_of_ble_eq_true rfl)
  rw [lg_entry_eq]
  generalize (lg_sl ([.ref o]) ++ List.replicate (1 - (lg_sl ([.ref o])).length) Slot.unset).toArray = ls at hl ⊢
  have hin : meth.name = "<init>" := (name_of_methodNamed B.named B.method).1
  subst hsz
  have hD := hD0.self (sz := sg.heap.size)
  have hFA := apw_A hap (fun k q hk => (hF0 k q hk).lt)
  generalize hAe : va_A [(o, .inr (6, [.int (zI (0)), .null, .null, .null, .int (zI (0)), .null, .null, .int (zI (0)), .null, .null, .null, .null, .null, .null, .null, .null, .int (zI (0))]))] sg.heap.size = A at hD hFA ⊢
  have hA : ∀ q : Nat, sg.heap.size ≤ q → A q := fun q h => by rw [← hAe]; exact Or.inr h
  have hS : va_S A sg.heap sg.heap [] := va_S.rf
  have hF := hF0
  have hl : lv_has ls 1 [(0, .ref o)] := hl
  refine lv_aload_n hx hb qd_M_init_0 rfl (lv_at hl 0 rfl) ?_
  refine W.objInit hx hb hown (hg _ wd_617) (hg _ wd_23) (hg _ wd_24) rfl (by rw [hml]; exact hl.1) rfl qd_M_init_1 (Nat.le_of_ble_eq_true rfl) (Nat.le_of_ble_eq_true rfl) ?_
  refine W.eq (g2 := F0 mg 4 ls []) rfl ?_
  refine lv_aload_n hx hb qd_M_init_4 rfl (lv_at hl 0 rfl) ?_
  refine lv_iconst (v := zI 5) hx hb qd_M_init_5 rfl ?_
  refine va_newa (atype := .int) (ty := .int) (n := zI 5) (N' := 5) (a0 := (5, .inl (zA (fun _ => 0)))) hx hb (hg _ wd_52) rfl hK hP hD hS hA (fun _ => rfl) (by decide) (by decide) (by decide) (Nat.le_of_ble_eq_true rfl) (Nat.le_of_ble_eq_true rfl) qd_M_init_6 (fun n6 cA9 H6_1 hK9 hP hD hS => ?_)
  have e9 := (cA_uq 0 hK9 rfl).symm
  subst e9
  have hP : va_P (dC, dI) qcl [(o, .inr (6, [.int (zI (0)), .null, .null, .null, .int (zI (0)), .null, .null, .int (zI (0)), .null, .null, .null, .null, .null, .null, .null, .null, .int (zI (0))])), (n6, .inl (cI, 5, .inl (zA (fun _ => 0))))] H6_1 := hP
  have hD : va_D A [(o, .inr (6, [.int (zI (0)), .null, .null, .null, .int (zI (0)), .null, .null, .int (zI (0)), .null, .null, .null, .null, .null, .null, .null, .null, .int (zI (0))])), (n6, .inl (cI, 5, .inl (zA (fun _ => 0))))] := hD
  refine va_putF (D := (dC, dI)) (ci := 6) (v := .ref n6) (ty := .array .int) (C := "TermOrdersModel") (T := qT_M) (N := 17) hx hb hg qi_M qt_M qo_M qn_M hown hK hP hD hS 0 rfl rfl 1 (by decide) (hg _ wd_619) (fun _ h9 => h9) rfl hin rfl (by decide +kernel) rfl rfl (Nat.le_of_ble_eq_true rfl) qd_M_init_8 (fun H8_2 L8_2 hP hD hS => ?_)
  have hP : va_P (dC, dI) qcl [(o, .inr (6, [.int (zI (0)), .ref n6, .null, .null, .int (zI (0)), .null, .null, .int (zI (0)), .null, .null, .null, .null, .null, .null, .null, .null, .int (zI (0))])), (n6, .inl (cI, 5, .inl (zA (fun _ => 0))))] H8_2 := hP
  have hD : va_D A [(o, .inr (6, [.int (zI (0)), .ref n6, .null, .null, .int (zI (0)), .null, .null, .int (zI (0)), .null, .null, .null, .null, .null, .null, .null, .null, .int (zI (0))])), (n6, .inl (cI, 5, .inl (zA (fun _ => 0))))] := hD
  refine lv_aload_n hx hb qd_M_init_11 rfl (lv_at hl 0 rfl) ?_
  refine lv_iconst (v := zI 5) hx hb qd_M_init_12 rfl ?_
  refine va_newa (atype := .int) (ty := .int) (n := zI 5) (N' := 5) (a0 := (5, .inl (zA (fun _ => 0)))) hx hb (hg _ wd_52) rfl hK hP hD hS hA (fun _ => rfl) (by decide) (by decide) (by decide) (Nat.le_of_ble_eq_true rfl) (Nat.le_of_ble_eq_true rfl) qd_M_init_13 (fun n13 cA9 H13_3 hK9 hP hD hS => ?_)
  have e9 := (cA_uq 0 hK9 rfl).symm
  subst e9
  have hP : va_P (dC, dI) qcl [(o, .inr (6, [.int (zI (0)), .ref n6, .null, .null, .int (zI (0)), .null, .null, .int (zI (0)), .null, .null, .null, .null, .null, .null, .null, .null, .int (zI (0))])), (n6, .inl (cI, 5, .inl (zA (fun _ => 0)))), (n13, .inl (cI, 5, .inl (zA (fun _ => 0))))] H13_3 := hP
  have hD : va_D A [(o, .inr (6, [.int (zI (0)), .ref n6, .null, .null, .int (zI (0)), .null, .null, .int (zI (0)), .null, .null, .null, .null, .null, .null, .null, .null, .int (zI (0))])), (n6, .inl (cI, 5, .inl (zA (fun _ => 0)))), (n13, .inl (cI, 5, .inl (zA (fun _ => 0))))] := hD
  refine va_putF (D := (dC, dI)) (ci := 6) (v := .ref n13) (ty := .array .int) (C := "TermOrdersModel") (T := qT_M) (N := 17) hx hb hg qi_M qt_M qo_M qn_M hown hK hP hD hS 0 rfl rfl 2 (by decide) (hg _ wd_620) (fun _ h9 => h9) rfl hin rfl (by decide +kernel) rfl rfl (Nat.le_of_ble_eq_true rfl) qd_M_init_15 (fun H15_4 L15_4 hP hD hS => ?_)
  have hP : va_P (dC, dI) qcl [(o, .inr (6, [.int (zI (0)), .ref n6, .ref n13, .null, .int (zI (0)), .null, .null, .int (zI (0)), .null, .null, .null, .null, .null, .null, .null, .null, .int (zI (0))])), (n6, .inl (cI, 5, .inl (zA (fun _ => 0)))), (n13, .inl (cI, 5, .inl (zA (fun _ => 0))))] H15_4 := hP
  have hD : va_D A [(o, .inr (6, [.int (zI (0)), .ref n6, .ref n13, .null, .int (zI (0)), .null, .null, .int (zI (0)), .null, .null, .null, .null, .null, .null, .null, .null, .int (zI (0))])), (n6, .inl (cI, 5, .inl (zA (fun _ => 0)))), (n13, .inl (cI, 5, .inl (zA (fun _ => 0))))] := hD
  refine lv_aload_n hx hb qd_M_init_18 rfl (lv_at hl 0 rfl) ?_
  refine lv_iconst (v := zI 5) hx hb qd_M_init_19 rfl ?_
  refine va_newa (atype := .int) (ty := .int) (n := zI 5) (N' := 5) (a0 := (5, .inl (zA (fun _ => 0)))) hx hb (hg _ wd_52) rfl hK hP hD hS hA (fun _ => rfl) (by decide) (by decide) (by decide) (Nat.le_of_ble_eq_true rfl) (Nat.le_of_ble_eq_true rfl) qd_M_init_20 (fun n20 cA9 H20_5 hK9 hP hD hS => ?_)
  have e9 := (cA_uq 0 hK9 rfl).symm
  subst e9
  have hP : va_P (dC, dI) qcl [(o, .inr (6, [.int (zI (0)), .ref n6, .ref n13, .null, .int (zI (0)), .null, .null, .int (zI (0)), .null, .null, .null, .null, .null, .null, .null, .null, .int (zI (0))])), (n6, .inl (cI, 5, .inl (zA (fun _ => 0)))), (n13, .inl (cI, 5, .inl (zA (fun _ => 0)))), (n20, .inl (cI, 5, .inl (zA (fun _ => 0))))] H20_5 := hP
  have hD : va_D A [(o, .inr (6, [.int (zI (0)), .ref n6, .ref n13, .null, .int (zI (0)), .null, .null, .int (zI (0)), .null, .null, .null, .null, .null, .null, .null, .null, .int (zI (0))])), (n6, .inl (cI, 5, .inl (zA (fun _ => 0)))), (n13, .inl (cI, 5, .inl (zA (fun _ => 0)))), (n20, .inl (cI, 5, .inl (zA (fun _ => 0))))] := hD
  refine va_putF (D := (dC, dI)) (ci := 6) (v := .ref n20) (ty := .array .int) (C := "TermOrdersModel") (T := qT_M) (N := 17) hx hb hg qi_M qt_M qo_M qn_M hown hK hP hD hS 0 rfl rfl 3 (by decide) (hg _ wd_621) (fun _ h9 => h9) rfl hin rfl (by decide +kernel) rfl rfl (Nat.le_of_ble_eq_true rfl) qd_M_init_22 (fun H22_6 L22_6 hP hD hS => ?_)
  have hP : va_P (dC, dI) qcl [(o, .inr (6, [.int (zI (0)), .ref n6, .ref n13, .ref n20, .int (zI (0)), .null, .null, .int (zI (0)), .null, .null, .null, .null, .null, .null, .null, .null, .int (zI (0))])), (n6, .inl (cI, 5, .inl (zA (fun _ => 0)))), (n13, .inl (cI, 5, .inl (zA (fun _ => 0)))), (n20, .inl (cI, 5, .inl (zA (fun _ => 0))))] H22_6 := hP
  have hD : va_D A [(o, .inr (6, [.int (zI (0)), .ref n6, .ref n13, .ref n20, .int (zI (0)), .null, .null, .int (zI (0)), .null, .null, .null, .null, .null, .null, .null, .null, .int (zI (0))])), (n6, .inl (cI, 5, .inl (zA (fun _ => 0)))), (n13, .inl (cI, 5, .inl (zA (fun _ => 0)))), (n20, .inl (cI, 5, .inl (zA (fun _ => 0))))] := hD
  refine lv_aload_n hx hb qd_M_init_25 rfl (lv_at hl 0 rfl) ?_
  refine lv_sipush (v := zI 2608) hx hb qd_M_init_26 (by decide) ?_
  refine va_newa (atype := .int) (ty := .int) (n := zI 2608) (N' := 2608) (a0 := (2608, .inl (zA (fun _ => 0)))) hx hb (hg _ wd_52) rfl hK hP hD hS hA (fun _ => rfl) (by decide) (by decide) (by decide) (Nat.le_of_ble_eq_true rfl) (Nat.le_of_ble_eq_true rfl) qd_M_init_29 (fun n29 cA9 H29_7 hK9 hP hD hS => ?_)
  have e9 := (cA_uq 0 hK9 rfl).symm
  subst e9
  have hP : va_P (dC, dI) qcl [(o, .inr (6, [.int (zI (0)), .ref n6, .ref n13, .ref n20, .int (zI (0)), .null, .null, .int (zI (0)), .null, .null, .null, .null, .null, .null, .null, .null, .int (zI (0))])), (n6, .inl (cI, 5, .inl (zA (fun _ => 0)))), (n13, .inl (cI, 5, .inl (zA (fun _ => 0)))), (n20, .inl (cI, 5, .inl (zA (fun _ => 0)))), (n29, .inl (cI, 2608, .inl (zA (fun _ => 0))))] H29_7 := hP
  have hD : va_D A [(o, .inr (6, [.int (zI (0)), .ref n6, .ref n13, .ref n20, .int (zI (0)), .null, .null, .int (zI (0)), .null, .null, .null, .null, .null, .null, .null, .null, .int (zI (0))])), (n6, .inl (cI, 5, .inl (zA (fun _ => 0)))), (n13, .inl (cI, 5, .inl (zA (fun _ => 0)))), (n20, .inl (cI, 5, .inl (zA (fun _ => 0)))), (n29, .inl (cI, 2608, .inl (zA (fun _ => 0))))] := hD
  refine va_putF (D := (dC, dI)) (ci := 6) (v := .ref n29) (ty := .array .int) (C := "TermOrdersModel") (T := qT_M) (N := 17) hx hb hg qi_M qt_M qo_M qn_M hown hK hP hD hS 0 rfl rfl 5 (by decide) (hg _ wd_623) (fun _ h9 => h9) rfl hin rfl (by decide +kernel) rfl rfl (Nat.le_of_ble_eq_true rfl) qd_M_init_31 (fun H31_8 L31_8 hP hD hS => ?_)
  have hP : va_P (dC, dI) qcl [(o, .inr (6, [.int (zI (0)), .ref n6, .ref n13, .ref n20, .int (zI (0)), .ref n29, .null, .int (zI (0)), .null, .null, .null, .null, .null, .null, .null, .null, .int (zI (0))])), (n6, .inl (cI, 5, .inl (zA (fun _ => 0)))), (n13, .inl (cI, 5, .inl (zA (fun _ => 0)))), (n20, .inl (cI, 5, .inl (zA (fun _ => 0)))), (n29, .inl (cI, 2608, .inl (zA (fun _ => 0))))] H31_8 := hP
  have hD : va_D A [(o, .inr (6, [.int (zI (0)), .ref n6, .ref n13, .ref n20, .int (zI (0)), .ref n29, .null, .int (zI (0)), .null, .null, .null, .null, .null, .null, .null, .null, .int (zI (0))])), (n6, .inl (cI, 5, .inl (zA (fun _ => 0)))), (n13, .inl (cI, 5, .inl (zA (fun _ => 0)))), (n20, .inl (cI, 5, .inl (zA (fun _ => 0)))), (n29, .inl (cI, 2608, .inl (zA (fun _ => 0))))] := hD
  refine lv_aload_n hx hb qd_M_init_34 rfl (lv_at hl 0 rfl) ?_
  refine lv_sipush (v := zI 163) hx hb qd_M_init_35 (by decide) ?_
  refine va_newa (atype := .int) (ty := .int) (n := zI 163) (N' := 163) (a0 := (163, .inl (zA (eI (fun _ => 0))))) hx hb (hg _ wd_52) rfl hK hP hD hS hA (fun _ => rfl) (by decide) (by decide) (by decide) (Nat.le_of_ble_eq_true rfl) (Nat.le_of_ble_eq_true rfl) qd_M_init_38 (fun n38 cA9 H38_9 hK9 hP hD hS => ?_)
  have e9 := (cA_uq 0 hK9 rfl).symm
  subst e9
  have hP : va_P (dC, dI) qcl [(o, .inr (6, [.int (zI (0)), .ref n6, .ref n13, .ref n20, .int (zI (0)), .ref n29, .null, .int (zI (0)), .null, .null, .null, .null, .null, .null, .null, .null, .int (zI (0))])), (n6, .inl (cI, 5, .inl (zA (fun _ => 0)))), (n13, .inl (cI, 5, .inl (zA (fun _ => 0)))), (n20, .inl (cI, 5, .inl (zA (fun _ => 0)))), (n29, .inl (cI, 2608, .inl (zA (fun _ => 0)))), (n38, .inl (cI, 163, .inl (zA (eI (fun _ => 0)))))] H38_9 := hP
  have hD : va_D A [(o, .inr (6, [.int (zI (0)), .ref n6, .ref n13, .ref n20, .int (zI (0)), .ref n29, .null, .int (zI (0)), .null, .null, .null, .null, .null, .null, .null, .null, .int (zI (0))])), (n6, .inl (cI, 5, .inl (zA (fun _ => 0)))), (n13, .inl (cI, 5, .inl (zA (fun _ => 0)))), (n20, .inl (cI, 5, .inl (zA (fun _ => 0)))), (n29, .inl (cI, 2608, .inl (zA (fun _ => 0)))), (n38, .inl (cI, 163, .inl (zA (eI (fun _ => 0)))))] := hD
  refine va_putF (D := (dC, dI)) (ci := 6) (v := .ref n38) (ty := .array .int) (C := "TermOrdersModel") (T := qT_M) (N := 17) hx hb hg qi_M qt_M qo_M qn_M hown hK hP hD hS 0 rfl rfl 6 (by decide) (hg _ wd_624) (fun _ h9 => h9) rfl hin rfl (by decide +kernel) rfl rfl (Nat.le_of_ble_eq_true rfl) qd_M_init_40 (fun H40_10 L40_10 hP hD hS => ?_)
  have hP : va_P (dC, dI) qcl [(o, .inr (6, [.int (zI (0)), .ref n6, .ref n13, .ref n20, .int (zI (0)), .ref n29, .ref n38, .int (zI (0)), .null, .null, .null, .null, .null, .null, .null, .null, .int (zI (0))])), (n6, .inl (cI, 5, .inl (zA (fun _ => 0)))), (n13, .inl (cI, 5, .inl (zA (fun _ => 0)))), (n20, .inl (cI, 5, .inl (zA (fun _ => 0)))), (n29, .inl (cI, 2608, .inl (zA (fun _ => 0)))), (n38, .inl (cI, 163, .inl (zA (eI (fun _ => 0)))))] H40_10 := hP
  have hD : va_D A [(o, .inr (6, [.int (zI (0)), .ref n6, .ref n13, .ref n20, .int (zI (0)), .ref n29, .ref n38, .int (zI (0)), .null, .null, .null, .null, .null, .null, .null, .null, .int (zI (0))])), (n6, .inl (cI, 5, .inl (zA (fun _ => 0)))), (n13, .inl (cI, 5, .inl (zA (fun _ => 0)))), (n20, .inl (cI, 5, .inl (zA (fun _ => 0)))), (n29, .inl (cI, 2608, .inl (zA (fun _ => 0)))), (n38, .inl (cI, 163, .inl (zA (eI (fun _ => 0)))))] := hD
  refine lv_aload_n hx hb qd_M_init_43 rfl (lv_at hl 0 rfl) ?_
  refine lv_bipush (v := zI 8) hx hb qd_M_init_44 (by decide) ?_
  refine va_newa (atype := .int) (ty := .int) (n := zI 8) (N' := 8) (a0 := (8, .inl (zA (eI (fun _ => 0))))) hx hb (hg _ wd_52) rfl hK hP hD hS hA (fun _ => rfl) (by decide) (by decide) (by decide) (Nat.le_of_ble_eq_true rfl) (Nat.le_of_ble_eq_true rfl) qd_M_init_46 (fun n46 cA9 H46_11 hK9 hP hD hS => ?_)
  have e9 := (cA_uq 0 hK9 rfl).symm
  subst e9
  have hP : va_P (dC, dI) qcl [(o, .inr (6, [.int (zI (0)), .ref n6, .ref n13, .ref n20, .int (zI (0)), .ref n29, .ref n38, .int (zI (0)), .null, .null, .null, .null, .null, .null, .null, .null, .int (zI (0))])), (n6, .inl (cI, 5, .inl (zA (fun _ => 0)))), (n13, .inl (cI, 5, .inl (zA (fun _ => 0)))), (n20, .inl (cI, 5, .inl (zA (fun _ => 0)))), (n29, .inl (cI, 2608, .inl (zA (fun _ => 0)))), (n38, .inl (cI, 163, .inl (zA (eI (fun _ => 0))))), (n46, .inl (cI, 8, .inl (zA (eI (fun _ => 0)))))] H46_11 := hP
  have hD : va_D A [(o, .inr (6, [.int (zI (0)), .ref n6, .ref n13, .ref n20, .int (zI (0)), .ref n29, .ref n38, .int (zI (0)), .null, .null, .null, .null, .null, .null, .null, .null, .int (zI (0))])), (n6, .inl (cI, 5, .inl (zA (fun _ => 0)))), (n13, .inl (cI, 5, .inl (zA (fun _ => 0)))), (n20, .inl (cI, 5, .inl (zA (fun _ => 0)))), (n29, .inl (cI, 2608, .inl (zA (fun _ => 0)))), (n38, .inl (cI, 163, .inl (zA (eI (fun _ => 0))))), (n46, .inl (cI, 8, .inl (zA (eI (fun _ => 0)))))] := hD
  refine va_putF (D := (dC, dI)) (ci := 6) (v := .ref n46) (ty := .array .int) (C := "TermOrdersModel") (T := qT_M) (N := 17) hx hb hg qi_M qt_M qo_M qn_M hown hK hP hD hS 0 rfl rfl 8 (by decide) (hg _ wd_626) (fun _ h9 => h9) rfl hin rfl (by decide +kernel) rfl rfl (Nat.le_of_ble_eq_true rfl) qd_M_init_48 (fun H48_12 L48_12 hP hD hS => ?_)
  have hP : va_P (dC, dI) qcl [(o, .inr (6, [.int (zI (0)), .ref n6, .ref n13, .ref n20, .int (zI (0)), .ref n29, .ref n38, .int (zI (0)), .ref n46, .null, .null, .null, .null, .null, .null, .null, .int (zI (0))])), (n6, .inl (cI, 5, .inl (zA (fun _ => 0)))), (n13, .inl (cI, 5, .inl (zA (fun _ => 0)))), (n20, .inl (cI, 5, .inl (zA (fun _ => 0)))), (n29, .inl (cI, 2608, .inl (zA (fun _ => 0)))), (n38, .inl (cI, 163, .inl (zA (eI (fun _ => 0))))), (n46, .inl (cI, 8, .inl (zA (eI (fun _ => 0)))))] H48_12 := hP
  have hD : va_D A [(o, .inr (6, [.int (zI (0)), .ref n6, .ref n13, .ref n20, .int (zI (0)), .ref n29, .ref n38, .int (zI (0)), .ref n46, .null, .null, .null, .null, .null, .null, .null, .int (zI (0))])), (n6, .inl (cI, 5, .inl (zA (fun _ => 0)))), (n13, .inl (cI, 5, .inl (zA (fun _ => 0)))), (n20, .inl (cI, 5, .inl (zA (fun _ => 0)))), (n29, .inl (cI, 2608, .inl (zA (fun _ => 0)))), (n38, .inl (cI, 163, .inl (zA (eI (fun _ => 0))))), (n46, .inl (cI, 8, .inl (zA (eI (fun _ => 0)))))] := hD
  refine lv_aload_n hx hb qd_M_init_51 rfl (lv_at hl 0 rfl) ?_
  refine lv_bipush (v := zI 8) hx hb qd_M_init_52 (by decide) ?_
  refine va_newa (atype := .int) (ty := .int) (n := zI 8) (N' := 8) (a0 := (8, .inl (zA (eI (fun _ => 0))))) hx hb (hg _ wd_52) rfl hK hP hD hS hA (fun _ => rfl) (by decide) (by decide) (by decide) (Nat.le_of_ble_eq_true rfl) (Nat.le_of_ble_eq_true rfl) qd_M_init_54 (fun n54 cA9 H54_13 hK9 hP hD hS => ?_)
  have e9 := (cA_uq 0 hK9 rfl).symm
  subst e9
  have hP : va_P (dC, dI) qcl [(o, .inr (6, [.int (zI (0)), .ref n6, .ref n13, .ref n20, .int (zI (0)), .ref n29, .ref n38, .int (zI (0)), .ref n46, .null, .null, .null, .null, .null, .null, .null, .int (zI (0))])), (n6, .inl (cI, 5, .inl (zA (fun _ => 0)))), (n13, .inl (cI, 5, .inl (zA (fun _ => 0)))), (n20, .inl (cI, 5, .inl (zA (fun _ => 0)))), (n29, .inl (cI, 2608, .inl (zA (fun _ => 0)))), (n38, .inl (cI, 163, .inl (zA (eI (fun _ => 0))))), (n46, .inl (cI, 8, .inl (zA (eI (fun _ => 0))))), (n54, .inl (cI, 8, .inl (zA (eI (fun _ => 0)))))] H54_13 := hP
  have hD : va_D A [(o, .inr (6, [.int (zI (0)), .ref n6, .ref n13, .ref n20, .int (zI (0)), .ref n29, .ref n38, .int (zI (0)), .ref n46, .null, .null, .null, .null, .null, .null, .null, .int (zI (0))])), (n6, .inl (cI, 5, .inl (zA (fun _ => 0)))), (n13, .inl (cI, 5, .inl (zA (fun _ => 0)))), (n20, .inl (cI, 5, .inl (zA (fun _ => 0)))), (n29, .inl (cI, 2608, .inl (zA (fun _ => 0)))), (n38, .inl (cI, 163, .inl (zA (eI (fun _ => 0))))), (n46, .inl (cI, 8, .inl (zA (eI (fun _ => 0))))), (n54, .inl (cI, 8, .inl (zA (eI (fun _ => 0)))))] := hD
  refine va_putF (D := (dC, dI)) (ci := 6) (v := .ref n54) (ty := .array .int) (C := "TermOrdersModel") (T := qT_M) (N := 17) hx hb hg qi_M qt_M qo_M qn_M hown hK hP hD hS 0 rfl rfl 9 (by decide) (hg _ wd_627) (fun _ h9 => h9) rfl hin rfl (by decide +kernel) rfl rfl (Nat.le_of_ble_eq_true rfl) qd_M_init_56 (fun H56_14 L56_14 hP hD hS => ?_)
  have hP : va_P (dC, dI) qcl [(o, .inr (6, [.int (zI (0)), .ref n6, .ref n13, .ref n20, .int (zI (0)), .ref n29, .ref n38, .int (zI (0)), .ref n46, .ref n54, .null, .null, .null, .null, .null, .null, .int (zI (0))])), (n6, .inl (cI, 5, .inl (zA (fun _ => 0)))), (n13, .inl (cI, 5, .inl (zA (fun _ => 0)))), (n20, .inl (cI, 5, .inl (zA (fun _ => 0)))), (n29, .inl (cI, 2608, .inl (zA (fun _ => 0)))), (n38, .inl (cI, 163, .inl (zA (eI (fun _ => 0))))), (n46, .inl (cI, 8, .inl (zA (eI (fun _ => 0))))), (n54, .inl (cI, 8, .inl (zA (eI (fun _ => 0)))))] H56_14 := hP
  have hD : va_D A [(o, .inr (6, [.int (zI (0)), .ref n6, .ref n13, .ref n20, .int (zI (0)), .ref n29, .ref n38, .int (zI (0)), .ref n46, .ref n54, .null, .null, .null, .null, .null, .null, .int (zI (0))])), (n6, .inl (cI, 5, .inl (zA (fun _ => 0)))), (n13, .inl (cI, 5, .inl (zA (fun _ => 0)))), (n20, .inl (cI, 5, .inl (zA (fun _ => 0)))), (n29, .inl (cI, 2608, .inl (zA (fun _ => 0)))), (n38, .inl (cI, 163, .inl (zA (eI (fun _ => 0))))), (n46, .inl (cI, 8, .inl (zA (eI (fun _ => 0))))), (n54, .inl (cI, 8, .inl (zA (eI (fun _ => 0)))))] := hD
  refine lv_aload_n hx hb qd_M_init_59 rfl (lv_at hl 0 rfl) ?_
  refine lv_bipush (v := zI 16) hx hb qd_M_init_60 (by decide) ?_
  refine va_newa (atype := .int) (ty := .int) (n := zI 16) (N' := 16) (a0 := (16, .inl (zA (fun _ => 0)))) hx hb (hg _ wd_52) rfl hK hP hD hS hA (fun _ => rfl) (by decide) (by decide) (by decide) (Nat.le_of_ble_eq_true rfl) (Nat.le_of_ble_eq_true rfl) qd_M_init_62 (fun n62 cA9 H62_15 hK9 hP hD hS => ?_)
  have e9 := (cA_uq 0 hK9 rfl).symm
  subst e9
  have hP : va_P (dC, dI) qcl [(o, .inr (6, [.int (zI (0)), .ref n6, .ref n13, .ref n20, .int (zI (0)), .ref n29, .ref n38, .int (zI (0)), .ref n46, .ref n54, .null, .null, .null, .null, .null, .null, .int (zI (0))])), (n6, .inl (cI, 5, .inl (zA (fun _ => 0)))), (n13, .inl (cI, 5, .inl (zA (fun _ => 0)))), (n20, .inl (cI, 5, .inl (zA (fun _ => 0)))), (n29, .inl (cI, 2608, .inl (zA (fun _ => 0)))), (n38, .inl (cI, 163, .inl (zA (eI (fun _ => 0))))), (n46, .inl (cI, 8, .inl (zA (eI (fun _ => 0))))), (n54, .inl (cI, 8, .inl (zA (eI (fun _ => 0))))), (n62, .inl (cI, 16, .inl (zA (fun _ => 0))))] H62_15 := hP
  have hD : va_D A [(o, .inr (6, [.int (zI (0)), .ref n6, .ref n13, .ref n20, .int (zI (0)), .ref n29, .ref n38, .int (zI (0)), .ref n46, .ref n54, .null, .null, .null, .null, .null, .null, .int (zI (0))])), (n6, .inl (cI, 5, .inl (zA (fun _ => 0)))), (n13, .inl (cI, 5, .inl (zA (fun _ => 0)))), (n20, .inl (cI, 5, .inl (zA (fun _ => 0)))), (n29, .inl (cI, 2608, .inl (zA (fun _ => 0)))), (n38, .inl (cI, 163, .inl (zA (eI (fun _ => 0))))), (n46, .inl (cI, 8, .inl (zA (eI (fun _ => 0))))), (n54, .inl (cI, 8, .inl (zA (eI (fun _ => 0))))), (n62, .inl (cI, 16, .inl (zA (fun _ => 0))))] := hD
  refine va_putF (D := (dC, dI)) (ci := 6) (v := .ref n62) (ty := .array .int) (C := "TermOrdersModel") (T := qT_M) (N := 17) hx hb hg qi_M qt_M qo_M qn_M hown hK hP hD hS 0 rfl rfl 10 (by decide) (hg _ wd_628) (fun _ h9 => h9) rfl hin rfl (by decide +kernel) rfl rfl (Nat.le_of_ble_eq_true rfl) qd_M_init_64 (fun H64_16 L64_16 hP hD hS => ?_)
  have hP : va_P (dC, dI) qcl [(o, .inr (6, [.int (zI (0)), .ref n6, .ref n13, .ref n20, .int (zI (0)), .ref n29, .ref n38, .int (zI (0)), .ref n46, .ref n54, .ref n62, .null, .null, .null, .null, .null, .int (zI (0))])), (n6, .inl (cI, 5, .inl (zA (fun _ => 0)))), (n13, .inl (cI, 5, .inl (zA (fun _ => 0)))), (n20, .inl (cI, 5, .inl (zA (fun _ => 0)))), (n29, .inl (cI, 2608, .inl (zA (fun _ => 0)))), (n38, .inl (cI, 163, .inl (zA (eI (fun _ => 0))))), (n46, .inl (cI, 8, .inl (zA (eI (fun _ => 0))))), (n54, .inl (cI, 8, .inl (zA (eI (fun _ => 0))))), (n62, .inl (cI, 16, .inl (zA (fun _ => 0))))] H64_16 := hP
  have hD : va_D A [(o, .inr (6, [.int (zI (0)), .ref n6, .ref n13, .ref n20, .int (zI (0)), .ref n29, .ref n38, .int (zI (0)), .ref n46, .ref n54, .ref n62, .null, .null, .null, .null, .null, .int (zI (0))])), (n6, .inl (cI, 5, .inl (zA (fun _ => 0)))), (n13, .inl (cI, 5, .inl (zA (fun _ => 0)))), (n20, .inl (cI, 5, .inl (zA (fun _ => 0)))), (n29, .inl (cI, 2608, .inl (zA (fun _ => 0)))), (n38, .inl (cI, 163, .inl (zA (eI (fun _ => 0))))), (n46, .inl (cI, 8, .inl (zA (eI (fun _ => 0))))), (n54, .inl (cI, 8, .inl (zA (eI (fun _ => 0))))), (n62, .inl (cI, 16, .inl (zA (fun _ => 0))))] := hD
  refine lv_aload_n hx hb qd_M_init_67 rfl (lv_at hl 0 rfl) ?_
  refine lv_bipush (v := zI 32) hx hb qd_M_init_68 (by decide) ?_
  refine va_newa (atype := .int) (ty := .int) (n := zI 32) (N' := 32) (a0 := (32, .inl (zA (fun _ => 0)))) hx hb (hg _ wd_52) rfl hK hP hD hS hA (fun _ => rfl) (by decide) (by decide) (by decide) (Nat.le_of_ble_eq_true rfl) (Nat.le_of_ble_eq_true rfl) qd_M_init_70 (fun n70 cA9 H70_17 hK9 hP hD hS => ?_)
  have e9 := (cA_uq 0 hK9 rfl).symm
  subst e9
  have hP : va_P (dC, dI) qcl [(o, .inr (6, [.int (zI (0)), .ref n6, .ref n13, .ref n20, .int (zI (0)), .ref n29, .ref n38, .int (zI (0)), .ref n46, .ref n54, .ref n62, .null, .null, .null, .null, .null, .int (zI (0))])), (n6, .inl (cI, 5, .inl (zA (fun _ => 0)))), (n13, .inl (cI, 5, .inl (zA (fun _ => 0)))), (n20, .inl (cI, 5, .inl (zA (fun _ => 0)))), (n29, .inl (cI, 2608, .inl (zA (fun _ => 0)))), (n38, .inl (cI, 163, .inl (zA (eI (fun _ => 0))))), (n46, .inl (cI, 8, .inl (zA (eI (fun _ => 0))))), (n54, .inl (cI, 8, .inl (zA (eI (fun _ => 0))))), (n62, .inl (cI, 16, .inl (zA (fun _ => 0)))), (n70, .inl (cI, 32, .inl (zA (fun _ => 0))))] H70_17 := hP
  have hD : va_D A [(o, .inr (6, [.int (zI (0)), .ref n6, .ref n13, .ref n20, .int (zI (0)), .ref n29, .ref n38, .int (zI (0)), .ref n46, .ref n54, .ref n62, .null, .null, .null, .null, .null, .int (zI (0))])), (n6, .inl (cI, 5, .inl (zA (fun _ => 0)))), (n13, .inl (cI, 5, .inl (zA (fun _ => 0)))), (n20, .inl (cI, 5, .inl (zA (fun _ => 0)))), (n29, .inl (cI, 2608, .inl (zA (fun _ => 0)))), (n38, .inl (cI, 163, .inl (zA (eI (fun _ => 0))))), (n46, .inl (cI, 8, .inl (zA (eI (fun _ => 0))))), (n54, .inl (cI, 8, .inl (zA (eI (fun _ => 0))))), (n62, .inl (cI, 16, .inl (zA (fun _ => 0)))), (n70, .inl (cI, 32, .inl (zA (fun _ => 0))))] := hD
  refine va_putF (D := (dC, dI)) (ci := 6) (v := .ref n70) (ty := .array .int) (C := "TermOrdersModel") (T := qT_M) (N := 17) hx hb hg qi_M qt_M qo_M qn_M hown hK hP hD hS 0 rfl rfl 11 (by decide) (hg _ wd_629) (fun _ h9 => h9) rfl hin rfl (by decide +kernel) rfl rfl (Nat.le_of_ble_eq_true rfl) qd_M_init_72 (fun H72_18 L72_18 hP hD hS => ?_)
  have hP : va_P (dC, dI) qcl [(o, .inr (6, [.int (zI (0)), .ref n6, .ref n13, .ref n20, .int (zI (0)), .ref n29, .ref n38, .int (zI (0)), .ref n46, .ref n54, .ref n62, .ref n70, .null, .null, .null, .null, .int (zI (0))])), (n6, .inl (cI, 5, .inl (zA (fun _ => 0)))), (n13, .inl (cI, 5, .inl (zA (fun _ => 0)))), (n20, .inl (cI, 5, .inl (zA (fun _ => 0)))), (n29, .inl (cI, 2608, .inl (zA (fun _ => 0)))), (n38, .inl (cI, 163, .inl (zA (eI (fun _ => 0))))), (n46, .inl (cI, 8, .inl (zA (eI (fun _ => 0))))), (n54, .inl (cI, 8, .inl (zA (eI (fun _ => 0))))), (n62, .inl (cI, 16, .inl (zA (fun _ => 0)))), (n70, .inl (cI, 32, .inl (zA (fun _ => 0))))] H72_18 := hP
  have hD : va_D A [(o, .inr (6, [.int (zI (0)), .ref n6, .ref n13, .ref n20, .int (zI (0)), .ref n29, .ref n38, .int (zI (0)), .ref n46, .ref n54, .ref n62, .ref n70, .null, .null, .null, .null, .int (zI (0))])), (n6, .inl (cI, 5, .inl (zA (fun _ => 0)))), (n13, .inl (cI, 5, .inl (zA (fun _ => 0)))), (n20, .inl (cI, 5, .inl (zA (fun _ => 0)))), (n29, .inl (cI, 2608, .inl (zA (fun _ => 0)))), (n38, .inl (cI, 163, .inl (zA (eI (fun _ => 0))))), (n46, .inl (cI, 8, .inl (zA (eI (fun _ => 0))))), (n54, .inl (cI, 8, .inl (zA (eI (fun _ => 0))))), (n62, .inl (cI, 16, .inl (zA (fun _ => 0)))), (n70, .inl (cI, 32, .inl (zA (fun _ => 0))))] := hD
  refine lv_aload_n hx hb qd_M_init_75 rfl (lv_at hl 0 rfl) ?_
  refine lv_bipush (v := zI 32) hx hb qd_M_init_76 (by decide) ?_
  refine va_newa (atype := .int) (ty := .int) (n := zI 32) (N' := 32) (a0 := (32, .inl (zA (eI (fun _ => 0))))) hx hb (hg _ wd_52) rfl hK hP hD hS hA (fun _ => rfl) (by decide) (by decide) (by decide) (Nat.le_of_ble_eq_true rfl) (Nat.le_of_ble_eq_true rfl) qd_M_init_78 (fun n78 cA9 H78_19 hK9 hP hD hS => ?_)
  have e9 := (cA_uq 0 hK9 rfl).symm
  subst e9
  have hP : va_P (dC, dI) qcl [(o, .inr (6, [.int (zI (0)), .ref n6, .ref n13, .ref n20, .int (zI (0)), .ref n29, .ref n38, .int (zI (0)), .ref n46, .ref n54, .ref n62, .ref n70, .null, .null, .null, .null, .int (zI (0))])), (n6, .inl (cI, 5, .inl (zA (fun _ => 0)))), (n13, .inl (cI, 5, .inl (zA (fun _ => 0)))), (n20, .inl (cI, 5, .inl (zA (fun _ => 0)))), (n29, .inl (cI, 2608, .inl (zA (fun _ => 0)))), (n38, .inl (cI, 163, .inl (zA (eI (fun _ => 0))))), (n46, .inl (cI, 8, .inl (zA (eI (fun _ => 0))))), (n54, .inl (cI, 8, .inl (zA (eI (fun _ => 0))))), (n62, .inl (cI, 16, .inl (zA (fun _ => 0)))), (n70, .inl (cI, 32, .inl (zA (fun _ => 0)))), (n78, .inl (cI, 32, .inl (zA (eI (fun _ => 0)))))] H78_19 := hP
  have hD : va_D A [(o, .inr (6, [.int (zI (0)), .ref n6, .ref n13, .ref n20, .int (zI (0)), .ref n29, .ref n38, .int (zI (0)), .ref n46, .ref n54, .ref n62, .ref n70, .null, .null, .null, .null, .int (zI (0))])), (n6, .inl (cI, 5, .inl (zA (fun _ => 0)))), (n13, .inl (cI, 5, .inl (zA (fun _ => 0)))), (n20, .inl (cI, 5, .inl (zA (fun _ => 0)))), (n29, .inl (cI, 2608, .inl (zA (fun _ => 0)))), (n38, .inl (cI, 163, .inl (zA (eI (fun _ => 0))))), (n46, .inl (cI, 8, .inl (zA (eI (fun _ => 0))))), (n54, .inl (cI, 8, .inl (zA (eI (fun _ => 0))))), (n62, .inl (cI, 16, .inl (zA (fun _ => 0)))), (n70, .inl (cI, 32, .inl (zA (fun _ => 0)))), (n78, .inl (cI, 32, .inl (zA (eI (fun _ => 0)))))] := hD
  refine va_putF (D := (dC, dI)) (ci := 6) (v := .ref n78) (ty := .array .int) (C := "TermOrdersModel") (T := qT_M) (N := 17) hx hb hg qi_M qt_M qo_M qn_M hown hK hP hD hS 0 rfl rfl 12 (by decide) (hg _ wd_630) (fun _ h9 => h9) rfl hin rfl (by decide +kernel) rfl rfl (Nat.le_of_ble_eq_true rfl) qd_M_init_80 (fun H80_20 L80_20 hP hD hS => ?_)
  have hP : va_P (dC, dI) qcl [(o, .inr (6, [.int (zI (0)), .ref n6, .ref n13, .ref n20, .int (zI (0)), .ref n29, .ref n38, .int (zI (0)), .ref n46, .ref n54, .ref n62, .ref n70, .ref n78, .null, .null, .null, .int (zI (0))])), (n6, .inl (cI, 5, .inl (zA (fun _ => 0)))), (n13, .inl (cI, 5, .inl (zA (fun _ => 0)))), (n20, .inl (cI, 5, .inl (zA (fun _ => 0)))), (n29, .inl (cI, 2608, .inl (zA (fun _ => 0)))), (n38, .inl (cI, 163, .inl (zA (eI (fun _ => 0))))), (n46, .inl (cI, 8, .inl (zA (eI (fun _ => 0))))), (n54, .inl (cI, 8, .inl (zA (eI (fun _ => 0))))), (n62, .inl (cI, 16, .inl (zA (fun _ => 0)))), (n70, .inl (cI, 32, .inl (zA (fun _ => 0)))), (n78, .inl (cI, 32, .inl (zA (eI (fun _ => 0)))))] H80_20 := hP
  have hD : va_D A [(o, .inr (6, [.int (zI (0)), .ref n6, .ref n13, .ref n20, .int (zI (0)), .ref n29, .ref n38, .int (zI (0)), .ref n46, .ref n54, .ref n62, .ref n70, .ref n78, .null, .null, .null, .int (zI (0))])), (n6, .inl (cI, 5, .inl (zA (fun _ => 0)))), (n13, .inl (cI, 5, .inl (zA (fun _ => 0)))), (n20, .inl (cI, 5, .inl (zA (fun _ => 0)))), (n29, .inl (cI, 2608, .inl (zA (fun _ => 0)))), (n38, .inl (cI, 163, .inl (zA (eI (fun _ => 0))))), (n46, .inl (cI, 8, .inl (zA (eI (fun _ => 0))))), (n54, .inl (cI, 8, .inl (zA (eI (fun _ => 0))))), (n62, .inl (cI, 16, .inl (zA (fun _ => 0)))), (n70, .inl (cI, 32, .inl (zA (fun _ => 0)))), (n78, .inl (cI, 32, .inl (zA (eI (fun _ => 0)))))] := hD
  refine lv_aload_n hx hb qd_M_init_83 rfl (lv_at hl 0 rfl) ?_
  refine lv_sipush (v := zI 256) hx hb qd_M_init_84 (by decide) ?_
  refine va_newa (atype := .boolean) (ty := .boolean) (n := zI 256) (N' := 256) (a0 := (256, .inl (zB (fun _ => false)))) hx hb (hg _ wd_119) rfl hK hP hD hS hA (fun _ => rfl) (by decide) (by decide) (by decide) (Nat.le_of_ble_eq_true rfl) (Nat.le_of_ble_eq_true rfl) qd_M_init_87 (fun n87 cA9 H87_21 hK9 hP hD hS => ?_)
  have e9 := (cA_uq 1 hK9 rfl).symm
  subst e9
  have hP : va_P (dC, dI) qcl [(o, .inr (6, [.int (zI (0)), .ref n6, .ref n13, .ref n20, .int (zI (0)), .ref n29, .ref n38, .int (zI (0)), .ref n46, .ref n54, .ref n62, .ref n70, .ref n78, .null, .null, .null, .int (zI (0))])), (n6, .inl (cI, 5, .inl (zA (fun _ => 0)))), (n13, .inl (cI, 5, .inl (zA (fun _ => 0)))), (n20, .inl (cI, 5, .inl (zA (fun _ => 0)))), (n29, .inl (cI, 2608, .inl (zA (fun _ => 0)))), (n38, .inl (cI, 163, .inl (zA (eI (fun _ => 0))))), (n46, .inl (cI, 8, .inl (zA (eI (fun _ => 0))))), (n54, .inl (cI, 8, .inl (zA (eI (fun _ => 0))))), (n62, .inl (cI, 16, .inl (zA (fun _ => 0)))), (n70, .inl (cI, 32, .inl (zA (fun _ => 0)))), (n78, .inl (cI, 32, .inl (zA (eI (fun _ => 0))))), (n87, .inl (cZ, 256, .inl (zB (fun _ => false))))] H87_21 := hP
  have hD : va_D A [(o, .inr (6, [.int (zI (0)), .ref n6, .ref n13, .ref n20, .int (zI (0)), .ref n29, .ref n38, .int (zI (0)), .ref n46, .ref n54, .ref n62, .ref n70, .ref n78, .null, .null, .null, .int (zI (0))])), (n6, .inl (cI, 5, .inl (zA (fun _ => 0)))), (n13, .inl (cI, 5, .inl (zA (fun _ => 0)))), (n20, .inl (cI, 5, .inl (zA (fun _ => 0)))), (n29, .inl (cI, 2608, .inl (zA (fun _ => 0)))), (n38, .inl (cI, 163, .inl (zA (eI (fun _ => 0))))), (n46, .inl (cI, 8, .inl (zA (eI (fun _ => 0))))), (n54, .inl (cI, 8, .inl (zA (eI (fun _ => 0))))), (n62, .inl (cI, 16, .inl (zA (fun _ => 0)))), (n70, .inl (cI, 32, .inl (zA (fun _ => 0)))), (n78, .inl (cI, 32, .inl (zA (eI (fun _ => 0))))), (n87, .inl (cZ, 256, .inl (zB (fun _ => false))))] := hD
  refine va_putF (D := (dC, dI)) (ci := 6) (v := .ref n87) (ty := .array .boolean) (C := "TermOrdersModel") (T := qT_M) (N := 17) hx hb hg qi_M qt_M qo_M qn_M hown hK hP hD hS 0 rfl rfl 13 (by decide) (hg _ wd_631) (fun _ h9 => h9) rfl hin rfl (by decide +kernel) rfl rfl (Nat.le_of_ble_eq_true rfl) qd_M_init_89 (fun H89_22 L89_22 hP hD hS => ?_)
  have hP : va_P (dC, dI) qcl [(o, .inr (6, [.int (zI (0)), .ref n6, .ref n13, .ref n20, .int (zI (0)), .ref n29, .ref n38, .int (zI (0)), .ref n46, .ref n54, .ref n62, .ref n70, .ref n78, .ref n87, .null, .null, .int (zI (0))])), (n6, .inl (cI, 5, .inl (zA (fun _ => 0)))), (n13, .inl (cI, 5, .inl (zA (fun _ => 0)))), (n20, .inl (cI, 5, .inl (zA (fun _ => 0)))), (n29, .inl (cI, 2608, .inl (zA (fun _ => 0)))), (n38, .inl (cI, 163, .inl (zA (eI (fun _ => 0))))), (n46, .inl (cI, 8, .inl (zA (eI (fun _ => 0))))), (n54, .inl (cI, 8, .inl (zA (eI (fun _ => 0))))), (n62, .inl (cI, 16, .inl (zA (fun _ => 0)))), (n70, .inl (cI, 32, .inl (zA (fun _ => 0)))), (n78, .inl (cI, 32, .inl (zA (eI (fun _ => 0))))), (n87, .inl (cZ, 256, .inl (zB (fun _ => false))))] H89_22 := hP
  have hD : va_D A [(o, .inr (6, [.int (zI (0)), .ref n6, .ref n13, .ref n20, .int (zI (0)), .ref n29, .ref n38, .int (zI (0)), .ref n46, .ref n54, .ref n62, .ref n70, .ref n78, .ref n87, .null, .null, .int (zI (0))])), (n6, .inl (cI, 5, .inl (zA (fun _ => 0)))), (n13, .inl (cI, 5, .inl (zA (fun _ => 0)))), (n20, .inl (cI, 5, .inl (zA (fun _ => 0)))), (n29, .inl (cI, 2608, .inl (zA (fun _ => 0)))), (n38, .inl (cI, 163, .inl (zA (eI (fun _ => 0))))), (n46, .inl (cI, 8, .inl (zA (eI (fun _ => 0))))), (n54, .inl (cI, 8, .inl (zA (eI (fun _ => 0))))), (n62, .inl (cI, 16, .inl (zA (fun _ => 0)))), (n70, .inl (cI, 32, .inl (zA (fun _ => 0)))), (n78, .inl (cI, 32, .inl (zA (eI (fun _ => 0))))), (n87, .inl (cZ, 256, .inl (zB (fun _ => false))))] := hD
  refine lv_aload_n hx hb qd_M_init_92 rfl (lv_at hl 0 rfl) ?_
  refine lv_iconst (v := zI 4) hx hb qd_M_init_93 rfl ?_
  refine va_newa (atype := .int) (ty := .int) (n := zI 4) (N' := 4) (a0 := (4, .inl (zA (fun _ => 0)))) hx hb (hg _ wd_52) rfl hK hP hD hS hA (fun _ => rfl) (by decide) (by decide) (by decide) (Nat.le_of_ble_eq_true rfl) (Nat.le_of_ble_eq_true rfl) qd_M_init_94 (fun n94 cA9 H94_23 hK9 hP hD hS => ?_)
  have e9 := (cA_uq 0 hK9 rfl).symm
  subst e9
  have hP : va_P (dC, dI) qcl [(o, .inr (6, [.int (zI (0)), .ref n6, .ref n13, .ref n20, .int (zI (0)), .ref n29, .ref n38, .int (zI (0)), .ref n46, .ref n54, .ref n62, .ref n70, .ref n78, .ref n87, .null, .null, .int (zI (0))])), (n6, .inl (cI, 5, .inl (zA (fun _ => 0)))), (n13, .inl (cI, 5, .inl (zA (fun _ => 0)))), (n20, .inl (cI, 5, .inl (zA (fun _ => 0)))), (n29, .inl (cI, 2608, .inl (zA (fun _ => 0)))), (n38, .inl (cI, 163, .inl (zA (eI (fun _ => 0))))), (n46, .inl (cI, 8, .inl (zA (eI (fun _ => 0))))), (n54, .inl (cI, 8, .inl (zA (eI (fun _ => 0))))), (n62, .inl (cI, 16, .inl (zA (fun _ => 0)))), (n70, .inl (cI, 32, .inl (zA (fun _ => 0)))), (n78, .inl (cI, 32, .inl (zA (eI (fun _ => 0))))), (n87, .inl (cZ, 256, .inl (zB (fun _ => false)))), (n94, .inl (cI, 4, .inl (zA (fun _ => 0))))] H94_23 := hP
  have hD : va_D A [(o, .inr (6, [.int (zI (0)), .ref n6, .ref n13, .ref n20, .int (zI (0)), .ref n29, .ref n38, .int (zI (0)), .ref n46, .ref n54, .ref n62, .ref n70, .ref n78, .ref n87, .null, .null, .int (zI (0))])), (n6, .inl (cI, 5, .inl (zA (fun _ => 0)))), (n13, .inl (cI, 5, .inl (zA (fun _ => 0)))), (n20, .inl (cI, 5, .inl (zA (fun _ => 0)))), (n29, .inl (cI, 2608, .inl (zA (fun _ => 0)))), (n38, .inl (cI, 163, .inl (zA (eI (fun _ => 0))))), (n46, .inl (cI, 8, .inl (zA (eI (fun _ => 0))))), (n54, .inl (cI, 8, .inl (zA (eI (fun _ => 0))))), (n62, .inl (cI, 16, .inl (zA (fun _ => 0)))), (n70, .inl (cI, 32, .inl (zA (fun _ => 0)))), (n78, .inl (cI, 32, .inl (zA (eI (fun _ => 0))))), (n87, .inl (cZ, 256, .inl (zB (fun _ => false)))), (n94, .inl (cI, 4, .inl (zA (fun _ => 0))))] := hD
  refine va_putF (D := (dC, dI)) (ci := 6) (v := .ref n94) (ty := .array .int) (C := "TermOrdersModel") (T := qT_M) (N := 17) hx hb hg qi_M qt_M qo_M qn_M hown hK hP hD hS 0 rfl rfl 14 (by decide) (hg _ wd_632) (fun _ h9 => h9) rfl hin rfl (by decide +kernel) rfl rfl (Nat.le_of_ble_eq_true rfl) qd_M_init_96 (fun H96_24 L96_24 hP hD hS => ?_)
  have hP : va_P (dC, dI) qcl [(o, .inr (6, [.int (zI (0)), .ref n6, .ref n13, .ref n20, .int (zI (0)), .ref n29, .ref n38, .int (zI (0)), .ref n46, .ref n54, .ref n62, .ref n70, .ref n78, .ref n87, .ref n94, .null, .int (zI (0))])), (n6, .inl (cI, 5, .inl (zA (fun _ => 0)))), (n13, .inl (cI, 5, .inl (zA (fun _ => 0)))), (n20, .inl (cI, 5, .inl (zA (fun _ => 0)))), (n29, .inl (cI, 2608, .inl (zA (fun _ => 0)))), (n38, .inl (cI, 163, .inl (zA (eI (fun _ => 0))))), (n46, .inl (cI, 8, .inl (zA (eI (fun _ => 0))))), (n54, .inl (cI, 8, .inl (zA (eI (fun _ => 0))))), (n62, .inl (cI, 16, .inl (zA (fun _ => 0)))), (n70, .inl (cI, 32, .inl (zA (fun _ => 0)))), (n78, .inl (cI, 32, .inl (zA (eI (fun _ => 0))))), (n87, .inl (cZ, 256, .inl (zB (fun _ => false)))), (n94, .inl (cI, 4, .inl (zA (fun _ => 0))))] H96_24 := hP
  have hD : va_D A [(o, .inr (6, [.int (zI (0)), .ref n6, .ref n13, .ref n20, .int (zI (0)), .ref n29, .ref n38, .int (zI (0)), .ref n46, .ref n54, .ref n62, .ref n70, .ref n78, .ref n87, .ref n94, .null, .int (zI (0))])), (n6, .inl (cI, 5, .inl (zA (fun _ => 0)))), (n13, .inl (cI, 5, .inl (zA (fun _ => 0)))), (n20, .inl (cI, 5, .inl (zA (fun _ => 0)))), (n29, .inl (cI, 2608, .inl (zA (fun _ => 0)))), (n38, .inl (cI, 163, .inl (zA (eI (fun _ => 0))))), (n46, .inl (cI, 8, .inl (zA (eI (fun _ => 0))))), (n54, .inl (cI, 8, .inl (zA (eI (fun _ => 0))))), (n62, .inl (cI, 16, .inl (zA (fun _ => 0)))), (n70, .inl (cI, 32, .inl (zA (fun _ => 0)))), (n78, .inl (cI, 32, .inl (zA (eI (fun _ => 0))))), (n87, .inl (cZ, 256, .inl (zB (fun _ => false)))), (n94, .inl (cI, 4, .inl (zA (fun _ => 0))))] := hD
  refine lv_aload_n hx hb qd_M_init_99 rfl (lv_at hl 0 rfl) ?_
  refine lv_iconst (v := zI 5) hx hb qd_M_init_100 rfl ?_
  refine va_newa (atype := .int) (ty := .int) (n := zI 5) (N' := 5) (a0 := (5, .inl (zA (fun _ => 0)))) hx hb (hg _ wd_52) rfl hK hP hD hS hA (fun _ => rfl) (by decide) (by decide) (by decide) (Nat.le_of_ble_eq_true rfl) (Nat.le_of_ble_eq_true rfl) qd_M_init_101 (fun n101 cA9 H101_25 hK9 hP hD hS => ?_)
  have e9 := (cA_uq 0 hK9 rfl).symm
  subst e9
  have hP : va_P (dC, dI) qcl [(o, .inr (6, [.int (zI (0)), .ref n6, .ref n13, .ref n20, .int (zI (0)), .ref n29, .ref n38, .int (zI (0)), .ref n46, .ref n54, .ref n62, .ref n70, .ref n78, .ref n87, .ref n94, .null, .int (zI (0))])), (n6, .inl (cI, 5, .inl (zA (fun _ => 0)))), (n13, .inl (cI, 5, .inl (zA (fun _ => 0)))), (n20, .inl (cI, 5, .inl (zA (fun _ => 0)))), (n29, .inl (cI, 2608, .inl (zA (fun _ => 0)))), (n38, .inl (cI, 163, .inl (zA (eI (fun _ => 0))))), (n46, .inl (cI, 8, .inl (zA (eI (fun _ => 0))))), (n54, .inl (cI, 8, .inl (zA (eI (fun _ => 0))))), (n62, .inl (cI, 16, .inl (zA (fun _ => 0)))), (n70, .inl (cI, 32, .inl (zA (fun _ => 0)))), (n78, .inl (cI, 32, .inl (zA (eI (fun _ => 0))))), (n87, .inl (cZ, 256, .inl (zB (fun _ => false)))), (n94, .inl (cI, 4, .inl (zA (fun _ => 0)))), (n101, .inl (cI, 5, .inl (zA (fun _ => 0))))] H101_25 := hP
  have hD : va_D A [(o, .inr (6, [.int (zI (0)), .ref n6, .ref n13, .ref n20, .int (zI (0)), .ref n29, .ref n38, .int (zI (0)), .ref n46, .ref n54, .ref n62, .ref n70, .ref n78, .ref n87, .ref n94, .null, .int (zI (0))])), (n6, .inl (cI, 5, .inl (zA (fun _ => 0)))), (n13, .inl (cI, 5, .inl (zA (fun _ => 0)))), (n20, .inl (cI, 5, .inl (zA (fun _ => 0)))), (n29, .inl (cI, 2608, .inl (zA (fun _ => 0)))), (n38, .inl (cI, 163, .inl (zA (eI (fun _ => 0))))), (n46, .inl (cI, 8, .inl (zA (eI (fun _ => 0))))), (n54, .inl (cI, 8, .inl (zA (eI (fun _ => 0))))), (n62, .inl (cI, 16, .inl (zA (fun _ => 0)))), (n70, .inl (cI, 32, .inl (zA (fun _ => 0)))), (n78, .inl (cI, 32, .inl (zA (eI (fun _ => 0))))), (n87, .inl (cZ, 256, .inl (zB (fun _ => false)))), (n94, .inl (cI, 4, .inl (zA (fun _ => 0)))), (n101, .inl (cI, 5, .inl (zA (fun _ => 0))))] := hD
  refine va_putF (D := (dC, dI)) (ci := 6) (v := .ref n101) (ty := .array .int) (C := "TermOrdersModel") (T := qT_M) (N := 17) hx hb hg qi_M qt_M qo_M qn_M hown hK hP hD hS 0 rfl rfl 15 (by decide) (hg _ wd_633) (fun _ h9 => h9) rfl hin rfl (by decide +kernel) rfl rfl (Nat.le_of_ble_eq_true rfl) qd_M_init_103 (fun H103_26 L103_26 hP hD hS => ?_)
  have hP : va_P (dC, dI) qcl [(o, .inr (6, [.int (zI (0)), .ref n6, .ref n13, .ref n20, .int (zI (0)), .ref n29, .ref n38, .int (zI (0)), .ref n46, .ref n54, .ref n62, .ref n70, .ref n78, .ref n87, .ref n94, .ref n101, .int (zI (0))])), (n6, .inl (cI, 5, .inl (zA (fun _ => 0)))), (n13, .inl (cI, 5, .inl (zA (fun _ => 0)))), (n20, .inl (cI, 5, .inl (zA (fun _ => 0)))), (n29, .inl (cI, 2608, .inl (zA (fun _ => 0)))), (n38, .inl (cI, 163, .inl (zA (eI (fun _ => 0))))), (n46, .inl (cI, 8, .inl (zA (eI (fun _ => 0))))), (n54, .inl (cI, 8, .inl (zA (eI (fun _ => 0))))), (n62, .inl (cI, 16, .inl (zA (fun _ => 0)))), (n70, .inl (cI, 32, .inl (zA (fun _ => 0)))), (n78, .inl (cI, 32, .inl (zA (eI (fun _ => 0))))), (n87, .inl (cZ, 256, .inl (zB (fun _ => false)))), (n94, .inl (cI, 4, .inl (zA (fun _ => 0)))), (n101, .inl (cI, 5, .inl (zA (fun _ => 0))))] H103_26 := hP
  have hD : va_D A [(o, .inr (6, [.int (zI (0)), .ref n6, .ref n13, .ref n20, .int (zI (0)), .ref n29, .ref n38, .int (zI (0)), .ref n46, .ref n54, .ref n62, .ref n70, .ref n78, .ref n87, .ref n94, .ref n101, .int (zI (0))])), (n6, .inl (cI, 5, .inl (zA (fun _ => 0)))), (n13, .inl (cI, 5, .inl (zA (fun _ => 0)))), (n20, .inl (cI, 5, .inl (zA (fun _ => 0)))), (n29, .inl (cI, 2608, .inl (zA (fun _ => 0)))), (n38, .inl (cI, 163, .inl (zA (eI (fun _ => 0))))), (n46, .inl (cI, 8, .inl (zA (eI (fun _ => 0))))), (n54, .inl (cI, 8, .inl (zA (eI (fun _ => 0))))), (n62, .inl (cI, 16, .inl (zA (fun _ => 0)))), (n70, .inl (cI, 32, .inl (zA (fun _ => 0)))), (n78, .inl (cI, 32, .inl (zA (eI (fun _ => 0))))), (n87, .inl (cZ, 256, .inl (zB (fun _ => false)))), (n94, .inl (cI, 4, .inl (zA (fun _ => 0)))), (n101, .inl (cI, 5, .inl (zA (fun _ => 0))))] := hD
  exact W.vret hx hb hr (fun t9 ht9 hW9 => ⟨⟨(n6, n13, n20, n29, n38, n46, n54, n62, n70, n78, n87, n94, n101), rfl, trivial, mwB_i (by rw [ht9]; exact hP) (va_K.moved hW9.alike hK) hD⟩, hS.F ht9⟩) hS.2.2 qd_M_init_106
set_option maxHeartbeats 4000000 in
set_option maxRecDepth 100000 in
theorem c_S_init (l : Launch) (dC : Nat → ClassId) (dI : Nat → Nat → Nat) (cI cZ cT cJ : ClassId) (o : Nat) (zh : Nat)  : Met l qy_S_init qw_S_init ({ frames := 1, cells := 4, slots := 20, locals := 60 }) (mwP (dC, dI) qcl (qty cI cZ cT cJ) nwL [(o, .inr (0, [.null, .null, .null, .null, .int (zI (0))]))] [] zh [.ref o]) (va_Qv (S := (Nat) × (Nat) × (Nat) × (Nat)) (fun uq => True) (fun uq tq => mwB (dC, dI) qcl (qty cI cZ cT cJ) (va_A [(o, .inr (0, [.null, .null, .null, .null, .int (zI (0))]))] zh) [(o, .inr (0, [.ref (uq.1), .ref (uq.2.1), .ref (uq.2.2.1), .ref (uq.2.2.2), .int (zI (0))])), (uq.1, .inl (cI, 5, .inl (zA (fun _ => 0)))), (uq.2.1, .inl (cI, 5, .inl (zA (fun _ => 0)))), (uq.2.2.1, .inl (cI, 5, .inl (zA (fun _ => 0)))), (uq.2.2.2, .inl (cI, 5, .inl (zA (fun _ => 0))))] tq) (va_A [(o, .inr (0, [.null, .null, .null, .null, .int (zI (0))]))] zh)) 4 20 (va_A [(o, .inr (0, [.null, .null, .null, .null, .int (zI (0))]))] zh) := by
  refine Met.ofW (cc := qc_S_init) (maxL := 1) (ret := (Option.none : Option Jvm.ClassFile.FieldType)) (by decide) rfl ?_
  intro pg eg sg mg args below meth cg s₁ B hml hv
  obtain ⟨rfl, hsz, hP, hF0, hK, hN, hD0, hap⟩ := hv
  have hx := B.exec
  have hb := B.bytes
  have hr := B.returns
  have hts := atoms_spec (ws := qw_S_init) B.pre
  have hg : ∀ w ∈ gw, w.before _ sg = true := fun w h => hts w (List.mem_cons_of_mem _ h)
  have hown : sg.vm.findClass "TermOrders$Symbols" = some mg.cls := findClass_of_methodNamed B.named
  have hlocks := B.notSynchronized
  have hl := lv_entry ([.ref o]) (n := 1) (Nat.le_of_ble_eq_true rfl)
  rw [lg_entry_eq]
  generalize (lg_sl ([.ref o]) ++ List.replicate (1 - (lg_sl ([.ref o])).length) Slot.unset).toArray = ls at hl ⊢
  have hin : meth.name = "<init>" := (name_of_methodNamed B.named B.method).1
  subst hsz
  have hD := hD0.self (sz := sg.heap.size)
  have hFA := apw_A hap (fun k q hk => (hF0 k q hk).lt)
  generalize hAe : va_A [(o, .inr (0, [.null, .null, .null, .null, .int (zI (0))]))] sg.heap.size = A at hD hFA ⊢
  have hA : ∀ q : Nat, sg.heap.size ≤ q → A q := fun q h => by rw [← hAe]; exact Or.inr h
  have hS : va_S A sg.heap sg.heap [] := va_S.rf
  have hF := hF0
  have hl : lv_has ls 1 [(0, .ref o)] := hl
  refine lv_aload_n hx hb qd_S_init_0 rfl (lv_at hl 0 rfl) ?_
  refine W.objInit hx hb hown (hg _ wd_30) (hg _ wd_23) (hg _ wd_24) rfl (by rw [hml]; exact hl.1) rfl qd_S_init_1 (Nat.le_of_ble_eq_true rfl) (Nat.le_of_ble_eq_true rfl) ?_
  refine W.eq (g2 := F0 mg 4 ls []) rfl ?_
  refine lv_aload_n hx hb qd_S_init_4 rfl (lv_at hl 0 rfl) ?_
  refine lv_iconst (v := zI 5) hx hb qd_S_init_5 rfl ?_
  refine va_newa (atype := .int) (ty := .int) (n := zI 5) (N' := 5) (a0 := (5, .inl (zA (fun _ => 0)))) hx hb (hg _ wd_52) rfl hK hP hD hS hA (fun _ => rfl) (by decide) (by decide) (by decide) (Nat.le_of_ble_eq_true rfl) (Nat.le_of_ble_eq_true rfl) qd_S_init_6 (fun n6 cA9 H6_1 hK9 hP hD hS => ?_)
  have e9 := (cA_uq 0 hK9 rfl).symm
  subst e9
  have hP : va_P (dC, dI) qcl [(o, .inr (0, [.null, .null, .null, .null, .int (zI (0))])), (n6, .inl (cI, 5, .inl (zA (fun _ => 0))))] H6_1 := hP
  have hD : va_D A [(o, .inr (0, [.null, .null, .null, .null, .int (zI (0))])), (n6, .inl (cI, 5, .inl (zA (fun _ => 0))))] := hD
  refine va_putF (D := (dC, dI)) (ci := 0) (v := .ref n6) (ty := .array .int) (C := "TermOrders$Symbols") (T := qT_S) (N := 5) hx hb hg qi_S qt_S qo_S qn_S hown hK hP hD hS 0 rfl rfl 0 (by decide) (hg _ wd_31) (fun _ h9 => h9) rfl hin rfl (by decide +kernel) rfl rfl (Nat.le_of_ble_eq_true rfl) qd_S_init_8 (fun H8_2 L8_2 hP hD hS => ?_)
  have hP : va_P (dC, dI) qcl [(o, .inr (0, [.ref n6, .null, .null, .null, .int (zI (0))])), (n6, .inl (cI, 5, .inl (zA (fun _ => 0))))] H8_2 := hP
  have hD : va_D A [(o, .inr (0, [.ref n6, .null, .null, .null, .int (zI (0))])), (n6, .inl (cI, 5, .inl (zA (fun _ => 0))))] := hD
  refine lv_aload_n hx hb qd_S_init_11 rfl (lv_at hl 0 rfl) ?_
  refine lv_iconst (v := zI 5) hx hb qd_S_init_12 rfl ?_
  refine va_newa (atype := .int) (ty := .int) (n := zI 5) (N' := 5) (a0 := (5, .inl (zA (fun _ => 0)))) hx hb (hg _ wd_52) rfl hK hP hD hS hA (fun _ => rfl) (by decide) (by decide) (by decide) (Nat.le_of_ble_eq_true rfl) (Nat.le_of_ble_eq_true rfl) qd_S_init_13 (fun n13 cA9 H13_3 hK9 hP hD hS => ?_)
  have e9 := (cA_uq 0 hK9 rfl).symm
  subst e9
  have hP : va_P (dC, dI) qcl [(o, .inr (0, [.ref n6, .null, .null, .null, .int (zI (0))])), (n6, .inl (cI, 5, .inl (zA (fun _ => 0)))), (n13, .inl (cI, 5, .inl (zA (fun _ => 0))))] H13_3 := hP
  have hD : va_D A [(o, .inr (0, [.ref n6, .null, .null, .null, .int (zI (0))])), (n6, .inl (cI, 5, .inl (zA (fun _ => 0)))), (n13, .inl (cI, 5, .inl (zA (fun _ => 0))))] := hD
  refine va_putF (D := (dC, dI)) (ci := 0) (v := .ref n13) (ty := .array .int) (C := "TermOrders$Symbols") (T := qT_S) (N := 5) hx hb hg qi_S qt_S qo_S qn_S hown hK hP hD hS 0 rfl rfl 1 (by decide) (hg _ wd_34) (fun _ h9 => h9) rfl hin rfl (by decide +kernel) rfl rfl (Nat.le_of_ble_eq_true rfl) qd_S_init_15 (fun H15_4 L15_4 hP hD hS => ?_)
  have hP : va_P (dC, dI) qcl [(o, .inr (0, [.ref n6, .ref n13, .null, .null, .int (zI (0))])), (n6, .inl (cI, 5, .inl (zA (fun _ => 0)))), (n13, .inl (cI, 5, .inl (zA (fun _ => 0))))] H15_4 := hP
  have hD : va_D A [(o, .inr (0, [.ref n6, .ref n13, .null, .null, .int (zI (0))])), (n6, .inl (cI, 5, .inl (zA (fun _ => 0)))), (n13, .inl (cI, 5, .inl (zA (fun _ => 0))))] := hD
  refine lv_aload_n hx hb qd_S_init_18 rfl (lv_at hl 0 rfl) ?_
  refine lv_iconst (v := zI 5) hx hb qd_S_init_19 rfl ?_
  refine va_newa (atype := .int) (ty := .int) (n := zI 5) (N' := 5) (a0 := (5, .inl (zA (fun _ => 0)))) hx hb (hg _ wd_52) rfl hK hP hD hS hA (fun _ => rfl) (by decide) (by decide) (by decide) (Nat.le_of_ble_eq_true rfl) (Nat.le_of_ble_eq_true rfl) qd_S_init_20 (fun n20 cA9 H20_5 hK9 hP hD hS => ?_)
  have e9 := (cA_uq 0 hK9 rfl).symm
  subst e9
  have hP : va_P (dC, dI) qcl [(o, .inr (0, [.ref n6, .ref n13, .null, .null, .int (zI (0))])), (n6, .inl (cI, 5, .inl (zA (fun _ => 0)))), (n13, .inl (cI, 5, .inl (zA (fun _ => 0)))), (n20, .inl (cI, 5, .inl (zA (fun _ => 0))))] H20_5 := hP
  have hD : va_D A [(o, .inr (0, [.ref n6, .ref n13, .null, .null, .int (zI (0))])), (n6, .inl (cI, 5, .inl (zA (fun _ => 0)))), (n13, .inl (cI, 5, .inl (zA (fun _ => 0)))), (n20, .inl (cI, 5, .inl (zA (fun _ => 0))))] := hD
  refine va_putF (D := (dC, dI)) (ci := 0) (v := .ref n20) (ty := .array .int) (C := "TermOrders$Symbols") (T := qT_S) (N := 5) hx hb hg qi_S qt_S qo_S qn_S hown hK hP hD hS 0 rfl rfl 2 (by decide) (hg _ wd_36) (fun _ h9 => h9) rfl hin rfl (by decide +kernel) rfl rfl (Nat.le_of_ble_eq_true rfl) qd_S_init_22 (fun H22_6 L22_6 hP hD hS => ?_)
  have hP : va_P (dC, dI) qcl [(o, .inr (0, [.ref n6, .ref n13, .ref n20, .null, .int (zI (0))])), (n6, .inl (cI, 5, .inl (zA (fun _ => 0)))), (n13, .inl (cI, 5, .inl (zA (fun _ => 0)))), (n20, .inl (cI, 5, .inl (zA (fun _ => 0))))] H22_6 := hP
  have hD : va_D A [(o, .inr (0, [.ref n6, .ref n13, .ref n20, .null, .int (zI (0))])), (n6, .inl (cI, 5, .inl (zA (fun _ => 0)))), (n13, .inl (cI, 5, .inl (zA (fun _ => 0)))), (n20, .inl (cI, 5, .inl (zA (fun _ => 0))))] := hD
  refine lv_aload_n hx hb qd_S_init_25 rfl (lv_at hl 0 rfl) ?_
  refine lv_iconst (v := zI 5) hx hb qd_S_init_26 rfl ?_
  refine va_newa (atype := .int) (ty := .int) (n := zI 5) (N' := 5) (a0 := (5, .inl (zA (fun _ => 0)))) hx hb (hg _ wd_52) rfl hK hP hD hS hA (fun _ => rfl) (by decide) (by decide) (by decide) (Nat.le_of_ble_eq_true rfl) (Nat.le_of_ble_eq_true rfl) qd_S_init_27 (fun n27 cA9 H27_7 hK9 hP hD hS => ?_)
  have e9 := (cA_uq 0 hK9 rfl).symm
  subst e9
  have hP : va_P (dC, dI) qcl [(o, .inr (0, [.ref n6, .ref n13, .ref n20, .null, .int (zI (0))])), (n6, .inl (cI, 5, .inl (zA (fun _ => 0)))), (n13, .inl (cI, 5, .inl (zA (fun _ => 0)))), (n20, .inl (cI, 5, .inl (zA (fun _ => 0)))), (n27, .inl (cI, 5, .inl (zA (fun _ => 0))))] H27_7 := hP
  have hD : va_D A [(o, .inr (0, [.ref n6, .ref n13, .ref n20, .null, .int (zI (0))])), (n6, .inl (cI, 5, .inl (zA (fun _ => 0)))), (n13, .inl (cI, 5, .inl (zA (fun _ => 0)))), (n20, .inl (cI, 5, .inl (zA (fun _ => 0)))), (n27, .inl (cI, 5, .inl (zA (fun _ => 0))))] := hD
  refine va_putF (D := (dC, dI)) (ci := 0) (v := .ref n27) (ty := .array .int) (C := "TermOrders$Symbols") (T := qT_S) (N := 5) hx hb hg qi_S qt_S qo_S qn_S hown hK hP hD hS 0 rfl rfl 3 (by decide) (hg _ wd_38) (fun _ h9 => h9) rfl hin rfl (by decide +kernel) rfl rfl (Nat.le_of_ble_eq_true rfl) qd_S_init_29 (fun H29_8 L29_8 hP hD hS => ?_)
  have hP : va_P (dC, dI) qcl [(o, .inr (0, [.ref n6, .ref n13, .ref n20, .ref n27, .int (zI (0))])), (n6, .inl (cI, 5, .inl (zA (fun _ => 0)))), (n13, .inl (cI, 5, .inl (zA (fun _ => 0)))), (n20, .inl (cI, 5, .inl (zA (fun _ => 0)))), (n27, .inl (cI, 5, .inl (zA (fun _ => 0))))] H29_8 := hP
  have hD : va_D A [(o, .inr (0, [.ref n6, .ref n13, .ref n20, .ref n27, .int (zI (0))])), (n6, .inl (cI, 5, .inl (zA (fun _ => 0)))), (n13, .inl (cI, 5, .inl (zA (fun _ => 0)))), (n20, .inl (cI, 5, .inl (zA (fun _ => 0)))), (n27, .inl (cI, 5, .inl (zA (fun _ => 0))))] := hD
  refine lv_aload_n hx hb qd_S_init_32 rfl (lv_at hl 0 rfl) ?_
  refine lv_iconst (v := zI 0) hx hb qd_S_init_33 rfl ?_
  refine va_put (D := (dC, dI)) (ci := 0) (v := .int (zI (0))) (ty := .int) (C := "TermOrders$Symbols") (T := qT_S) (N := 5) hx hb hg qi_S qt_S qo_S qn_S hown hK hP hD hS 0 rfl rfl 4 (by decide) (hg _ wd_39) (fun _ h9 => h9) rfl (by decide +kernel) rfl rfl (Nat.le_of_ble_eq_true rfl) qd_S_init_34 (fun H34_9 L34_9 hP hD hS => ?_)
  have hP : va_P (dC, dI) qcl [(o, .inr (0, [.ref n6, .ref n13, .ref n20, .ref n27, .int (zI (0))])), (n6, .inl (cI, 5, .inl (zA (fun _ => 0)))), (n13, .inl (cI, 5, .inl (zA (fun _ => 0)))), (n20, .inl (cI, 5, .inl (zA (fun _ => 0)))), (n27, .inl (cI, 5, .inl (zA (fun _ => 0))))] H34_9 := hP
  have hD : va_D A [(o, .inr (0, [.ref n6, .ref n13, .ref n20, .ref n27, .int (zI (0))])), (n6, .inl (cI, 5, .inl (zA (fun _ => 0)))), (n13, .inl (cI, 5, .inl (zA (fun _ => 0)))), (n20, .inl (cI, 5, .inl (zA (fun _ => 0)))), (n27, .inl (cI, 5, .inl (zA (fun _ => 0))))] := hD
  exact W.vret hx hb hr (fun t9 ht9 hW9 => ⟨⟨(n6, n13, n20, n27), rfl, trivial, mwB_i (by rw [ht9]; exact hP) (va_K.moved hW9.alike hK) hD⟩, hS.F ht9⟩) hS.2.2 qd_S_init_37
set_option maxHeartbeats 4000000 in
set_option maxRecDepth 100000 in
theorem c_D_init (l : Launch) (dC : Nat → ClassId) (dI : Nat → Nat → Nat) (cI cZ cT cJ : ClassId) (od : Nat) (o : Nat) (zh : Nat)  : Met l qy_D_init qw_D_init ({ frames := 1, cells := 4, slots := 64, locals := 60 }) (mwP (dC, dI) qcl (qty cI cZ cT cJ) nwL [(od, .inr (2, [.null, .null, .null, .null, .null, .int (zI (0)), .int (zI (bI (false)))]))] [] zh [.ref od, .ref o]) (va_Qv (S := (Nat) × (Nat) × (Nat) × (Nat)) (fun uq => True) (fun uq tq => mwB (dC, dI) qcl (qty cI cZ cT cJ) (va_A [(od, .inr (2, [.null, .null, .null, .null, .null, .int (zI (0)), .int (zI (bI (false)))]))] zh) [(od, .inr (2, [.ref o, .ref (uq.1), .ref (uq.2.1), .ref (uq.2.2.1), .ref (uq.2.2.2), .int (zI (0)), .int (zI (bI (false)))])), (uq.1, .inl (cI, 16, .inl (zA (fun _ => 0)))), (uq.2.1, .inl (cI, 16, .inl (zA (fun _ => 0)))), (uq.2.2.1, .inl (cI, 16, .inl (zA (eI (fun _ => 0))))), (uq.2.2.2, .inl (cI, 16, .inl (zA (fun _ => 0))))] tq) (va_A [(od, .inr (2, [.null, .null, .null, .null, .null, .int (zI (0)), .int (zI (bI (false)))]))] zh)) 4 64 (va_A [(od, .inr (2, [.null, .null, .null, .null, .null, .int (zI (0)), .int (zI (bI (false)))]))] zh) := by
  refine Met.ofW (cc := qc_D_init) (maxL := 2) (ret := (Option.none : Option Jvm.ClassFile.FieldType)) (by decide) rfl ?_
  intro pg eg sg mg args below meth cg s₁ B hml hv
  obtain ⟨rfl, hsz, hP, hF0, hK, hN, hD0, hap⟩ := hv
  have hx := B.exec
  have hb := B.bytes
  have hr := B.returns
  have hts := atoms_spec (ws := qw_D_init) B.pre
  have hg : ∀ w ∈ gw, w.before _ sg = true := fun w h => hts w (List.mem_cons_of_mem _ h)
  have hown : sg.vm.findClass "TermOrders$Draft" = some mg.cls := findClass_of_methodNamed B.named
  have hlocks := B.notSynchronized
  have hl := lv_entry ([.ref od, .ref o]) (n := 2) (Nat.le_of_ble_eq_true rfl)
  rw [lg_entry_eq]
  generalize (lg_sl ([.ref od, .ref o]) ++ List.replicate (2 - (lg_sl ([.ref od, .ref o])).length) Slot.unset).toArray = ls at hl ⊢
  have hin : meth.name = "<init>" := (name_of_methodNamed B.named B.method).1
  subst hsz
  have hD := hD0.self (sz := sg.heap.size)
  have hFA := apw_A hap (fun k q hk => (hF0 k q hk).lt)
  generalize hAe : va_A [(od, .inr (2, [.null, .null, .null, .null, .null, .int (zI (0)), .int (zI (bI (false)))]))] sg.heap.size = A at hD hFA ⊢
  have hA : ∀ q : Nat, sg.heap.size ≤ q → A q := fun q h => by rw [← hAe]; exact Or.inr h
  have hS : va_S A sg.heap sg.heap [] := va_S.rf
  have hF := hF0
  have hl : lv_has ls 2 [(0, .ref od), (1, .ref o)] := hl
  refine lv_aload_n hx hb qd_D_init_0 rfl (lv_at hl 0 rfl) ?_
  refine W.objInit hx hb hown (hg _ wd_58) (hg _ wd_23) (hg _ wd_24) rfl (by rw [hml]; exact hl.1) rfl qd_D_init_1 (Nat.le_of_ble_eq_true rfl) (Nat.le_of_ble_eq_true rfl) ?_
  refine W.eq (g2 := F0 mg 4 ls []) rfl ?_
  refine lv_aload_n hx hb qd_D_init_4 rfl (lv_at hl 0 rfl) ?_
  refine lv_bipush (v := zI 16) hx hb qd_D_init_5 (by decide) ?_
  refine va_newa (atype := .int) (ty := .int) (n := zI 16) (N' := 16) (a0 := (16, .inl (zA (fun _ => 0)))) hx hb (hg _ wd_52) rfl hK hP hD hS hA (fun _ => rfl) (by decide) (by decide) (by decide) (Nat.le_of_ble_eq_true rfl) (Nat.le_of_ble_eq_true rfl) qd_D_init_7 (fun n7 cA9 H7_1 hK9 hP hD hS => ?_)
  have e9 := (cA_uq 0 hK9 rfl).symm
  subst e9
  have hP : va_P (dC, dI) qcl [(od, .inr (2, [.null, .null, .null, .null, .null, .int (zI (0)), .int (zI (bI (false)))])), (n7, .inl (cI, 16, .inl (zA (fun _ => 0))))] H7_1 := hP
  have hD : va_D A [(od, .inr (2, [.null, .null, .null, .null, .null, .int (zI (0)), .int (zI (bI (false)))])), (n7, .inl (cI, 16, .inl (zA (fun _ => 0))))] := hD
  refine va_putF (D := (dC, dI)) (ci := 2) (v := .ref n7) (ty := .array .int) (C := "TermOrders$Draft") (T := qT_D) (N := 7) hx hb hg qi_D qt_D qo_D qn_D hown hK hP hD hS 0 rfl rfl 1 (by decide) (hg _ wd_60) (fun _ h9 => h9) rfl hin rfl (by decide +kernel) rfl rfl (Nat.le_of_ble_eq_true rfl) qd_D_init_9 (fun H9_2 L9_2 hP hD hS => ?_)
  have hP : va_P (dC, dI) qcl [(od, .inr (2, [.null, .ref n7, .null, .null, .null, .int (zI (0)), .int (zI (bI (false)))])), (n7, .inl (cI, 16, .inl (zA (fun _ => 0))))] H9_2 := hP
  have hD : va_D A [(od, .inr (2, [.null, .ref n7, .null, .null, .null, .int (zI (0)), .int (zI (bI (false)))])), (n7, .inl (cI, 16, .inl (zA (fun _ => 0))))] := hD
  refine lv_aload_n hx hb qd_D_init_12 rfl (lv_at hl 0 rfl) ?_
  refine lv_bipush (v := zI 16) hx hb qd_D_init_13 (by decide) ?_
  refine va_newa (atype := .int) (ty := .int) (n := zI 16) (N' := 16) (a0 := (16, .inl (zA (fun _ => 0)))) hx hb (hg _ wd_52) rfl hK hP hD hS hA (fun _ => rfl) (by decide) (by decide) (by decide) (Nat.le_of_ble_eq_true rfl) (Nat.le_of_ble_eq_true rfl) qd_D_init_15 (fun n15 cA9 H15_3 hK9 hP hD hS => ?_)
  have e9 := (cA_uq 0 hK9 rfl).symm
  subst e9
  have hP : va_P (dC, dI) qcl [(od, .inr (2, [.null, .ref n7, .null, .null, .null, .int (zI (0)), .int (zI (bI (false)))])), (n7, .inl (cI, 16, .inl (zA (fun _ => 0)))), (n15, .inl (cI, 16, .inl (zA (fun _ => 0))))] H15_3 := hP
  have hD : va_D A [(od, .inr (2, [.null, .ref n7, .null, .null, .null, .int (zI (0)), .int (zI (bI (false)))])), (n7, .inl (cI, 16, .inl (zA (fun _ => 0)))), (n15, .inl (cI, 16, .inl (zA (fun _ => 0))))] := hD
  refine va_putF (D := (dC, dI)) (ci := 2) (v := .ref n15) (ty := .array .int) (C := "TermOrders$Draft") (T := qT_D) (N := 7) hx hb hg qi_D qt_D qo_D qn_D hown hK hP hD hS 0 rfl rfl 2 (by decide) (hg _ wd_61) (fun _ h9 => h9) rfl hin rfl (by decide +kernel) rfl rfl (Nat.le_of_ble_eq_true rfl) qd_D_init_17 (fun H17_4 L17_4 hP hD hS => ?_)
  have hP : va_P (dC, dI) qcl [(od, .inr (2, [.null, .ref n7, .ref n15, .null, .null, .int (zI (0)), .int (zI (bI (false)))])), (n7, .inl (cI, 16, .inl (zA (fun _ => 0)))), (n15, .inl (cI, 16, .inl (zA (fun _ => 0))))] H17_4 := hP
  have hD : va_D A [(od, .inr (2, [.null, .ref n7, .ref n15, .null, .null, .int (zI (0)), .int (zI (bI (false)))])), (n7, .inl (cI, 16, .inl (zA (fun _ => 0)))), (n15, .inl (cI, 16, .inl (zA (fun _ => 0))))] := hD
  refine lv_aload_n hx hb qd_D_init_20 rfl (lv_at hl 0 rfl) ?_
  refine lv_bipush (v := zI 16) hx hb qd_D_init_21 (by decide) ?_
  refine va_newa (atype := .int) (ty := .int) (n := zI 16) (N' := 16) (a0 := (16, .inl (zA (eI (fun _ => 0))))) hx hb (hg _ wd_52) rfl hK hP hD hS hA (fun _ => rfl) (by decide) (by decide) (by decide) (Nat.le_of_ble_eq_true rfl) (Nat.le_of_ble_eq_true rfl) qd_D_init_23 (fun n23 cA9 H23_5 hK9 hP hD hS => ?_)
  have e9 := (cA_uq 0 hK9 rfl).symm
  subst e9
  have hP : va_P (dC, dI) qcl [(od, .inr (2, [.null, .ref n7, .ref n15, .null, .null, .int (zI (0)), .int (zI (bI (false)))])), (n7, .inl (cI, 16, .inl (zA (fun _ => 0)))), (n15, .inl (cI, 16, .inl (zA (fun _ => 0)))), (n23, .inl (cI, 16, .inl (zA (eI (fun _ => 0)))))] H23_5 := hP
  have hD : va_D A [(od, .inr (2, [.null, .ref n7, .ref n15, .null, .null, .int (zI (0)), .int (zI (bI (false)))])), (n7, .inl (cI, 16, .inl (zA (fun _ => 0)))), (n15, .inl (cI, 16, .inl (zA (fun _ => 0)))), (n23, .inl (cI, 16, .inl (zA (eI (fun _ => 0)))))] := hD
  refine va_putF (D := (dC, dI)) (ci := 2) (v := .ref n23) (ty := .array .int) (C := "TermOrders$Draft") (T := qT_D) (N := 7) hx hb hg qi_D qt_D qo_D qn_D hown hK hP hD hS 0 rfl rfl 3 (by decide) (hg _ wd_62) (fun _ h9 => h9) rfl hin rfl (by decide +kernel) rfl rfl (Nat.le_of_ble_eq_true rfl) qd_D_init_25 (fun H25_6 L25_6 hP hD hS => ?_)
  have hP : va_P (dC, dI) qcl [(od, .inr (2, [.null, .ref n7, .ref n15, .ref n23, .null, .int (zI (0)), .int (zI (bI (false)))])), (n7, .inl (cI, 16, .inl (zA (fun _ => 0)))), (n15, .inl (cI, 16, .inl (zA (fun _ => 0)))), (n23, .inl (cI, 16, .inl (zA (eI (fun _ => 0)))))] H25_6 := hP
  have hD : va_D A [(od, .inr (2, [.null, .ref n7, .ref n15, .ref n23, .null, .int (zI (0)), .int (zI (bI (false)))])), (n7, .inl (cI, 16, .inl (zA (fun _ => 0)))), (n15, .inl (cI, 16, .inl (zA (fun _ => 0)))), (n23, .inl (cI, 16, .inl (zA (eI (fun _ => 0)))))] := hD
  refine lv_aload_n hx hb qd_D_init_28 rfl (lv_at hl 0 rfl) ?_
  refine lv_bipush (v := zI 16) hx hb qd_D_init_29 (by decide) ?_
  refine va_newa (atype := .int) (ty := .int) (n := zI 16) (N' := 16) (a0 := (16, .inl (zA (fun _ => 0)))) hx hb (hg _ wd_52) rfl hK hP hD hS hA (fun _ => rfl) (by decide) (by decide) (by decide) (Nat.le_of_ble_eq_true rfl) (Nat.le_of_ble_eq_true rfl) qd_D_init_31 (fun n31 cA9 H31_7 hK9 hP hD hS => ?_)
  have e9 := (cA_uq 0 hK9 rfl).symm
  subst e9
  have hP : va_P (dC, dI) qcl [(od, .inr (2, [.null, .ref n7, .ref n15, .ref n23, .null, .int (zI (0)), .int (zI (bI (false)))])), (n7, .inl (cI, 16, .inl (zA (fun _ => 0)))), (n15, .inl (cI, 16, .inl (zA (fun _ => 0)))), (n23, .inl (cI, 16, .inl (zA (eI (fun _ => 0))))), (n31, .inl (cI, 16, .inl (zA (fun _ => 0))))] H31_7 := hP
  have hD : va_D A [(od, .inr (2, [.null, .ref n7, .ref n15, .ref n23, .null, .int (zI (0)), .int (zI (bI (false)))])), (n7, .inl (cI, 16, .inl (zA (fun _ => 0)))), (n15, .inl (cI, 16, .inl (zA (fun _ => 0)))), (n23, .inl (cI, 16, .inl (zA (eI (fun _ => 0))))), (n31, .inl (cI, 16, .inl (zA (fun _ => 0))))] := hD
  refine va_putF (D := (dC, dI)) (ci := 2) (v := .ref n31) (ty := .array .int) (C := "TermOrders$Draft") (T := qT_D) (N := 7) hx hb hg qi_D qt_D qo_D qn_D hown hK hP hD hS 0 rfl rfl 4 (by decide) (hg _ wd_63) (fun _ h9 => h9) rfl hin rfl (by decide +kernel) rfl rfl (Nat.le_of_ble_eq_true rfl) qd_D_init_33 (fun H33_8 L33_8 hP hD hS => ?_)
  have hP : va_P (dC, dI) qcl [(od, .inr (2, [.null, .ref n7, .ref n15, .ref n23, .ref n31, .int (zI (0)), .int (zI (bI (false)))])), (n7, .inl (cI, 16, .inl (zA (fun _ => 0)))), (n15, .inl (cI, 16, .inl (zA (fun _ => 0)))), (n23, .inl (cI, 16, .inl (zA (eI (fun _ => 0))))), (n31, .inl (cI, 16, .inl (zA (fun _ => 0))))] H33_8 := hP
  have hD : va_D A [(od, .inr (2, [.null, .ref n7, .ref n15, .ref n23, .ref n31, .int (zI (0)), .int (zI (bI (false)))])), (n7, .inl (cI, 16, .inl (zA (fun _ => 0)))), (n15, .inl (cI, 16, .inl (zA (fun _ => 0)))), (n23, .inl (cI, 16, .inl (zA (eI (fun _ => 0))))), (n31, .inl (cI, 16, .inl (zA (fun _ => 0))))] := hD
  refine lv_aload_n hx hb qd_D_init_36 rfl (lv_at hl 0 rfl) ?_
  refine lv_iconst (v := zI 0) hx hb qd_D_init_37 rfl ?_
  refine va_put (D := (dC, dI)) (ci := 2) (v := .int (zI (0))) (ty := .int) (C := "TermOrders$Draft") (T := qT_D) (N := 7) hx hb hg qi_D qt_D qo_D qn_D hown hK hP hD hS 0 rfl rfl 5 (by decide) (hg _ wd_64) (fun _ h9 => h9) rfl (by decide +kernel) rfl rfl (Nat.le_of_ble_eq_true rfl) qd_D_init_38 (fun H38_9 L38_9 hP hD hS => ?_)
  have hP : va_P (dC, dI) qcl [(od, .inr (2, [.null, .ref n7, .ref n15, .ref n23, .ref n31, .int (zI (0)), .int (zI (bI (false)))])), (n7, .inl (cI, 16, .inl (zA (fun _ => 0)))), (n15, .inl (cI, 16, .inl (zA (fun _ => 0)))), (n23, .inl (cI, 16, .inl (zA (eI (fun _ => 0))))), (n31, .inl (cI, 16, .inl (zA (fun _ => 0))))] H38_9 := hP
  have hD : va_D A [(od, .inr (2, [.null, .ref n7, .ref n15, .ref n23, .ref n31, .int (zI (0)), .int (zI (bI (false)))])), (n7, .inl (cI, 16, .inl (zA (fun _ => 0)))), (n15, .inl (cI, 16, .inl (zA (fun _ => 0)))), (n23, .inl (cI, 16, .inl (zA (eI (fun _ => 0))))), (n31, .inl (cI, 16, .inl (zA (fun _ => 0))))] := hD
  refine lv_aload_n hx hb qd_D_init_41 rfl (lv_at hl 0 rfl) ?_
  refine lv_iconst (v := zI 0) hx hb qd_D_init_42 rfl ?_
  refine zz_0 ?_
  refine va_put (D := (dC, dI)) (ci := 2) (v := .int (zI (bI (false)))) (ty := .boolean) (C := "TermOrders$Draft") (T := qT_D) (N := 7) hx hb hg qi_D qt_D qo_D qn_D hown hK hP hD hS 0 rfl rfl 6 (by decide) (hg _ wd_65) (fun _ h9 => h9) rfl (by decide +kernel) (bI_n _) (bI_f _) (Nat.le_of_ble_eq_true rfl) qd_D_init_43 (fun H43_10 L43_10 hP hD hS => ?_)
  have hP : va_P (dC, dI) qcl [(od, .inr (2, [.null, .ref n7, .ref n15, .ref n23, .ref n31, .int (zI (0)), .int (zI (bI (false)))])), (n7, .inl (cI, 16, .inl (zA (fun _ => 0)))), (n15, .inl (cI, 16, .inl (zA (fun _ => 0)))), (n23, .inl (cI, 16, .inl (zA (eI (fun _ => 0))))), (n31, .inl (cI, 16, .inl (zA (fun _ => 0))))] H43_10 := hP
  have hD : va_D A [(od, .inr (2, [.null, .ref n7, .ref n15, .ref n23, .ref n31, .int (zI (0)), .int (zI (bI (false)))])), (n7, .inl (cI, 16, .inl (zA (fun _ => 0)))), (n15, .inl (cI, 16, .inl (zA (fun _ => 0)))), (n23, .inl (cI, 16, .inl (zA (eI (fun _ => 0))))), (n31, .inl (cI, 16, .inl (zA (fun _ => 0))))] := hD
  refine lv_aload_n hx hb qd_D_init_46 rfl (lv_at hl 0 rfl) ?_
  refine lv_aload_n hx hb qd_D_init_47 rfl (lv_at hl 1 rfl) ?_
  refine va_putF (D := (dC, dI)) (ci := 2) (v := .ref o) (ty := .object "TermOrders$Symbols") (C := "TermOrders$Draft") (T := qT_D) (N := 7) hx hb hg qi_D qt_D qo_D qn_D hown hK hP hD hS 0 rfl rfl 0 (by decide) (hg _ wd_59) (fun _ h9 => h9) rfl hin rfl (by decide +kernel) rfl rfl (Nat.le_of_ble_eq_true rfl) qd_D_init_48 (fun H48_11 L48_11 hP hD hS => ?_)
  have hP : va_P (dC, dI) qcl [(od, .inr (2, [.ref o, .ref n7, .ref n15, .ref n23, .ref n31, .int (zI (0)), .int (zI (bI (false)))])), (n7, .inl (cI, 16, .inl (zA (fun _ => 0)))), (n15, .inl (cI, 16, .inl (zA (fun _ => 0)))), (n23, .inl (cI, 16, .inl (zA (eI (fun _ => 0))))), (n31, .inl (cI, 16, .inl (zA (fun _ => 0))))] H48_11 := hP
  have hD : va_D A [(od, .inr (2, [.ref o, .ref n7, .ref n15, .ref n23, .ref n31, .int (zI (0)), .int (zI (bI (false)))])), (n7, .inl (cI, 16, .inl (zA (fun _ => 0)))), (n15, .inl (cI, 16, .inl (zA (fun _ => 0)))), (n23, .inl (cI, 16, .inl (zA (eI (fun _ => 0))))), (n31, .inl (cI, 16, .inl (zA (fun _ => 0))))] := hD
  exact W.vret hx hb hr (fun t9 ht9 hW9 => ⟨⟨(n7, n15, n23, n31), rfl, trivial, mwB_i (by rw [ht9]; exact hP) (va_K.moved hW9.alike hK) hD⟩, hS.F ht9⟩) hS.2.2 qd_D_init_51
set_option maxHeartbeats 4000000 in
set_option maxRecDepth 100000 in
theorem c_O_init (l : Launch) (dC : Nat → ClassId) (dI : Nat → Nat → Nat) (cI cZ cT cJ : ClassId) (og : Nat) (o : Nat) (zh : Nat)  : Met l qy_O_init qw_O_init ({ frames := 1, cells := 1, slots := 256, locals := 60 }) (mwP (dC, dI) qcl (qty cI cZ cT cJ) nwL [(og, .inr (3, [.null, .null]))] [] zh [.ref og, .ref o]) (va_Qv (S := (Nat)) (fun uq => True) (fun uq tq => mwB (dC, dI) qcl (qty cI cZ cT cJ) (va_A [(og, .inr (3, [.null, .null]))] zh) [(og, .inr (3, [.ref o, .ref uq])), (uq, .inl (cZ, 256, .inl (zB (fun _ => false))))] tq) (va_A [(og, .inr (3, [.null, .null]))] zh)) 1 256 (va_A [(og, .inr (3, [.null, .null]))] zh) := by
  refine Met.ofW (cc := qc_O_init) (maxL := 2) (ret := (Option.none : Option Jvm.ClassFile.FieldType)) (by decide) rfl ?_
  intro pg eg sg mg args below meth cg s₁ B hml hv
  obtain ⟨rfl, hsz, hP, hF0, hK, hN, hD0, hap⟩ := hv
  have hx := B.exec
  have hb := B.bytes
  have hr := B.returns
  have hts := atoms_spec (ws := qw_O_init) B.pre
  have hg : ∀ w ∈ gw, w.before _ sg = true := fun w h => hts w (List.mem_cons_of_mem _ h)
  have hown : sg.vm.findClass "TermOrders$Orders" = some mg.cls := findClass_of_methodNamed B.named
  have hlocks := B.notSynchronized
  have hl := lv_entry ([.ref og, .ref o]) (n := 2) (Nat.le_of_ble_eq_true rfl)
  rw [lg_entry_eq]
  generalize (lg_sl ([.ref og, .ref o]) ++ List.replicate (2 - (lg_sl ([.ref og, .ref o])).length) Slot.unset).toArray = ls at hl ⊢
  have hin : meth.name = "<init>" := (name_of_methodNamed B.named B.method).1
  subst hsz
  have hD := hD0.self (sz := sg.heap.size)
  have hFA := apw_A hap (fun k q hk => (hF0 k q hk).lt)
  generalize hAe : va_A [(og, .inr (3, [.null, .null]))] sg.heap.size = A at hD hFA ⊢
  have hA : ∀ q : Nat, sg.heap.size ≤ q → A q := fun q h => by rw [← hAe]; exact Or.inr h
  have hS : va_S A sg.heap sg.heap [] := va_S.rf
  have hF := hF0
  have hl : lv_has ls 2 [(0, .ref og), (1, .ref o)] := hl
  refine lv_aload_n hx hb qd_O_init_0 rfl (lv_at hl 0 rfl) ?_
  refine W.objInit hx hb hown (hg _ wd_111) (hg _ wd_23) (hg _ wd_24) rfl (by rw [hml]; exact hl.1) rfl qd_O_init_1 (Nat.le_of_ble_eq_true rfl) (Nat.le_of_ble_eq_true rfl) ?_
  refine W.eq (g2 := F0 mg 4 ls []) rfl ?_
  refine lv_aload_n hx hb qd_O_init_4 rfl (lv_at hl 0 rfl) ?_
  refine lv_sipush (v := zI 256) hx hb qd_O_init_5 (by decide) ?_
  refine va_newa (atype := .boolean) (ty := .boolean) (n := zI 256) (N' := 256) (a0 := (256, .inl (zB (fun _ => false)))) hx hb (hg _ wd_119) rfl hK hP hD hS hA (fun _ => rfl) (by decide) (by decide) (by decide) (Nat.le_of_ble_eq_true rfl) (Nat.le_of_ble_eq_true rfl) qd_O_init_8 (fun n8 cA9 H8_1 hK9 hP hD hS => ?_)
  have e9 := (cA_uq 1 hK9 rfl).symm
  subst e9
  have hP : va_P (dC, dI) qcl [(og, .inr (3, [.null, .null])), (n8, .inl (cZ, 256, .inl (zB (fun _ => false))))] H8_1 := hP
  have hD : va_D A [(og, .inr (3, [.null, .null])), (n8, .inl (cZ, 256, .inl (zB (fun _ => false))))] := hD
  refine va_putF (D := (dC, dI)) (ci := 3) (v := .ref n8) (ty := .array .boolean) (C := "TermOrders$Orders") (T := qT_O) (N := 2) hx hb hg qi_O qt_O qo_O qn_O hown hK hP hD hS 0 rfl rfl 1 (by decide) (hg _ wd_113) (fun _ h9 => h9) rfl hin rfl (by decide +kernel) rfl rfl (Nat.le_of_ble_eq_true rfl) qd_O_init_10 (fun H10_2 L10_2 hP hD hS => ?_)
  have hP : va_P (dC, dI) qcl [(og, .inr (3, [.null, .ref n8])), (n8, .inl (cZ, 256, .inl (zB (fun _ => false))))] H10_2 := hP
  have hD : va_D A [(og, .inr (3, [.null, .ref n8])), (n8, .inl (cZ, 256, .inl (zB (fun _ => false))))] := hD
  refine lv_aload_n hx hb qd_O_init_13 rfl (lv_at hl 0 rfl) ?_
  refine lv_aload_n hx hb qd_O_init_14 rfl (lv_at hl 1 rfl) ?_
  refine va_putF (D := (dC, dI)) (ci := 3) (v := .ref o) (ty := .object "TermOrders$Symbols") (C := "TermOrders$Orders") (T := qT_O) (N := 2) hx hb hg qi_O qt_O qo_O qn_O hown hK hP hD hS 0 rfl rfl 0 (by decide) (hg _ wd_112) (fun _ h9 => h9) rfl hin rfl (by decide +kernel) rfl rfl (Nat.le_of_ble_eq_true rfl) qd_O_init_15 (fun H15_3 L15_3 hP hD hS => ?_)
  have hP : va_P (dC, dI) qcl [(og, .inr (3, [.ref o, .ref n8])), (n8, .inl (cZ, 256, .inl (zB (fun _ => false))))] H15_3 := hP
  have hD : va_D A [(og, .inr (3, [.ref o, .ref n8])), (n8, .inl (cZ, 256, .inl (zB (fun _ => false))))] := hD
  exact W.vret hx hb hr (fun t9 ht9 hW9 => ⟨⟨(n8), rfl, trivial, mwB_i (by rw [ht9]; exact hP) (va_K.moved hW9.alike hK) hD⟩, hS.F ht9⟩) hS.2.2 qd_O_init_18
set_option maxHeartbeats 4000000 in
set_option maxRecDepth 100000 in
theorem c_R_init (l : Launch) (dC : Nat → ClassId) (dI : Nat → Nat → Nat) (cI cZ cT cJ : ClassId) (orr : Nat) (zh : Nat)  : Met l qy_R_init qw_R_init ({ frames := 1, cells := 3, slots := 20, locals := 60 }) (mwP (dC, dI) qcl (qty cI cZ cT cJ) nwL [(orr, .inr (4, [.null, .null, .null, .int (zI (0))]))] [] zh [.ref orr]) (va_Qv (S := (Nat) × (Nat) × (Nat)) (fun uq => True) (fun uq tq => mwB (dC, dI) qcl (qty cI cZ cT cJ) (va_A [(orr, .inr (4, [.null, .null, .null, .int (zI (0))]))] zh) [(orr, .inr (4, [.ref (uq.1), .ref (uq.2.1), .ref (uq.2.2), .int (zI (0))])), (uq.1, .inl (cT, 8, .inr (.inr (.inr (.inr (fun _ => none)))))), (uq.2.1, .inl (cT, 8, .inr (.inr (.inr (.inr (fun _ => none)))))), (uq.2.2, .inl (cI, 4, .inl (zA (fun _ => 0))))] tq) (va_A [(orr, .inr (4, [.null, .null, .null, .int (zI (0))]))] zh)) 3 20 (va_A [(orr, .inr (4, [.null, .null, .null, .int (zI (0))]))] zh) := by
  refine Met.ofW (cc := qc_R_init) (maxL := 1) (ret := (Option.none : Option Jvm.ClassFile.FieldType)) (by decide) rfl ?_
  intro pg eg sg mg args below meth cg s₁ B hml hv
  obtain ⟨rfl, hsz, hP, hF0, hK, hN, hD0, hap⟩ := hv
  have hx := B.exec
  have hb := B.bytes
  have hr := B.returns
  have hts := atoms_spec (ws := qw_R_init) B.pre
  have hg : ∀ w ∈ gw, w.before _ sg = true := fun w h => hts w (List.mem_cons_of_mem _ h)
  have hown : sg.vm.findClass "TermOrders$Rules" = some mg.cls := findClass_of_methodNamed B.named
  have hlocks := B.notSynchronized
  have hl := lv_entry ([.ref orr]) (n := 1) (Nat.le_of_ble_eq_true rfl)
  rw [lg_entry_eq]
  generalize (lg_sl ([.ref orr]) ++ List.replicate (1 - (lg_sl ([.ref orr])).length) Slot.unset).toArray = ls at hl ⊢
  have hin : meth.name = "<init>" := (name_of_methodNamed B.named B.method).1
  subst hsz
  have hD := hD0.self (sz := sg.heap.size)
  have hFA := apw_A hap (fun k q hk => (hF0 k q hk).lt)
  generalize hAe : va_A [(orr, .inr (4, [.null, .null, .null, .int (zI (0))]))] sg.heap.size = A at hD hFA ⊢
  have hA : ∀ q : Nat, sg.heap.size ≤ q → A q := fun q h => by rw [← hAe]; exact Or.inr h
  have hS : va_S A sg.heap sg.heap [] := va_S.rf
  have hF := hF0
  have hl : lv_has ls 1 [(0, .ref orr)] := hl
  refine lv_aload_n hx hb qd_R_init_0 rfl (lv_at hl 0 rfl) ?_
  refine W.objInit hx hb hown (hg _ wd_88) (hg _ wd_23) (hg _ wd_24) rfl (by rw [hml]; exact hl.1) rfl qd_R_init_1 (Nat.le_of_ble_eq_true rfl) (Nat.le_of_ble_eq_true rfl) ?_
  refine W.eq (g2 := F0 mg 4 ls []) rfl ?_
  refine lv_aload_n hx hb qd_R_init_4 rfl (lv_at hl 0 rfl) ?_
  refine lv_bipush (v := zI 8) hx hb qd_R_init_5 (by decide) ?_
  refine va_newq (n := zI 8) (N' := 8) hx hb hown (hg _ wd_89) (hN.use nw_82) hK hP hD hS hA (by decide) (by decide) (by decide) (Nat.le_of_ble_eq_true rfl) (Nat.le_of_ble_eq_true rfl) qd_R_init_7 (fun n7 cA9 H7_1 hK9 hP hD hS => ?_)
  have e9 := (cA_uq 2 hK9 rfl).symm
  subst e9
  have hP : va_P (dC, dI) qcl [(orr, .inr (4, [.null, .null, .null, .int (zI (0))])), (n7, .inl (cT, 8, .inr (.inr (.inr (.inr (fun _ => none))))))] H7_1 := hP
  have hD : va_D A [(orr, .inr (4, [.null, .null, .null, .int (zI (0))])), (n7, .inl (cT, 8, .inr (.inr (.inr (.inr (fun _ => none))))))] := hD
  refine va_putF (D := (dC, dI)) (ci := 4) (v := .ref n7) (ty := .array (.object "TermOrders$Term")) (C := "TermOrders$Rules") (T := qT_R) (N := 4) hx hb hg qi_R qt_R qo_R qn_R hown hK hP hD hS 0 rfl rfl 0 (by decide) (hg _ wd_90) (fun _ h9 => h9) rfl hin rfl (by decide +kernel) rfl rfl (Nat.le_of_ble_eq_true rfl) qd_R_init_10 (fun H10_2 L10_2 hP hD hS => ?_)
  have hP : va_P (dC, dI) qcl [(orr, .inr (4, [.ref n7, .null, .null, .int (zI (0))])), (n7, .inl (cT, 8, .inr (.inr (.inr (.inr (fun _ => none))))))] H10_2 := hP
  have hD : va_D A [(orr, .inr (4, [.ref n7, .null, .null, .int (zI (0))])), (n7, .inl (cT, 8, .inr (.inr (.inr (.inr (fun _ => none))))))] := hD
  refine lv_aload_n hx hb qd_R_init_13 rfl (lv_at hl 0 rfl) ?_
  refine lv_bipush (v := zI 8) hx hb qd_R_init_14 (by decide) ?_
  refine va_newq (n := zI 8) (N' := 8) hx hb hown (hg _ wd_89) (hN.use nw_82) hK hP hD hS hA (by decide) (by decide) (by decide) (Nat.le_of_ble_eq_true rfl) (Nat.le_of_ble_eq_true rfl) qd_R_init_16 (fun n16 cA9 H16_3 hK9 hP hD hS => ?_)
  have e9 := (cA_uq 2 hK9 rfl).symm
  subst e9
  have hP : va_P (dC, dI) qcl [(orr, .inr (4, [.ref n7, .null, .null, .int (zI (0))])), (n7, .inl (cT, 8, .inr (.inr (.inr (.inr (fun _ => none)))))), (n16, .inl (cT, 8, .inr (.inr (.inr (.inr (fun _ => none))))))] H16_3 := hP
  have hD : va_D A [(orr, .inr (4, [.ref n7, .null, .null, .int (zI (0))])), (n7, .inl (cT, 8, .inr (.inr (.inr (.inr (fun _ => none)))))), (n16, .inl (cT, 8, .inr (.inr (.inr (.inr (fun _ => none))))))] := hD
  refine va_putF (D := (dC, dI)) (ci := 4) (v := .ref n16) (ty := .array (.object "TermOrders$Term")) (C := "TermOrders$Rules") (T := qT_R) (N := 4) hx hb hg qi_R qt_R qo_R qn_R hown hK hP hD hS 0 rfl rfl 1 (by decide) (hg _ wd_92) (fun _ h9 => h9) rfl hin rfl (by decide +kernel) rfl rfl (Nat.le_of_ble_eq_true rfl) qd_R_init_19 (fun H19_4 L19_4 hP hD hS => ?_)
  have hP : va_P (dC, dI) qcl [(orr, .inr (4, [.ref n7, .ref n16, .null, .int (zI (0))])), (n7, .inl (cT, 8, .inr (.inr (.inr (.inr (fun _ => none)))))), (n16, .inl (cT, 8, .inr (.inr (.inr (.inr (fun _ => none))))))] H19_4 := hP
  have hD : va_D A [(orr, .inr (4, [.ref n7, .ref n16, .null, .int (zI (0))])), (n7, .inl (cT, 8, .inr (.inr (.inr (.inr (fun _ => none)))))), (n16, .inl (cT, 8, .inr (.inr (.inr (.inr (fun _ => none))))))] := hD
  refine lv_aload_n hx hb qd_R_init_22 rfl (lv_at hl 0 rfl) ?_
  refine lv_iconst (v := zI 4) hx hb qd_R_init_23 rfl ?_
  refine va_newa (atype := .int) (ty := .int) (n := zI 4) (N' := 4) (a0 := (4, .inl (zA (fun _ => 0)))) hx hb (hg _ wd_52) rfl hK hP hD hS hA (fun _ => rfl) (by decide) (by decide) (by decide) (Nat.le_of_ble_eq_true rfl) (Nat.le_of_ble_eq_true rfl) qd_R_init_24 (fun n24 cA9 H24_5 hK9 hP hD hS => ?_)
  have e9 := (cA_uq 0 hK9 rfl).symm
  subst e9
  have hP : va_P (dC, dI) qcl [(orr, .inr (4, [.ref n7, .ref n16, .null, .int (zI (0))])), (n7, .inl (cT, 8, .inr (.inr (.inr (.inr (fun _ => none)))))), (n16, .inl (cT, 8, .inr (.inr (.inr (.inr (fun _ => none)))))), (n24, .inl (cI, 4, .inl (zA (fun _ => 0))))] H24_5 := hP
  have hD : va_D A [(orr, .inr (4, [.ref n7, .ref n16, .null, .int (zI (0))])), (n7, .inl (cT, 8, .inr (.inr (.inr (.inr (fun _ => none)))))), (n16, .inl (cT, 8, .inr (.inr (.inr (.inr (fun _ => none)))))), (n24, .inl (cI, 4, .inl (zA (fun _ => 0))))] := hD
  refine va_putF (D := (dC, dI)) (ci := 4) (v := .ref n24) (ty := .array .int) (C := "TermOrders$Rules") (T := qT_R) (N := 4) hx hb hg qi_R qt_R qo_R qn_R hown hK hP hD hS 0 rfl rfl 2 (by decide) (hg _ wd_94) (fun _ h9 => h9) rfl hin rfl (by decide +kernel) rfl rfl (Nat.le_of_ble_eq_true rfl) qd_R_init_26 (fun H26_6 L26_6 hP hD hS => ?_)
  have hP : va_P (dC, dI) qcl [(orr, .inr (4, [.ref n7, .ref n16, .ref n24, .int (zI (0))])), (n7, .inl (cT, 8, .inr (.inr (.inr (.inr (fun _ => none)))))), (n16, .inl (cT, 8, .inr (.inr (.inr (.inr (fun _ => none)))))), (n24, .inl (cI, 4, .inl (zA (fun _ => 0))))] H26_6 := hP
  have hD : va_D A [(orr, .inr (4, [.ref n7, .ref n16, .ref n24, .int (zI (0))])), (n7, .inl (cT, 8, .inr (.inr (.inr (.inr (fun _ => none)))))), (n16, .inl (cT, 8, .inr (.inr (.inr (.inr (fun _ => none)))))), (n24, .inl (cI, 4, .inl (zA (fun _ => 0))))] := hD
  refine lv_aload_n hx hb qd_R_init_29 rfl (lv_at hl 0 rfl) ?_
  refine lv_iconst (v := zI 0) hx hb qd_R_init_30 rfl ?_
  refine va_put (D := (dC, dI)) (ci := 4) (v := .int (zI (0))) (ty := .int) (C := "TermOrders$Rules") (T := qT_R) (N := 4) hx hb hg qi_R qt_R qo_R qn_R hown hK hP hD hS 0 rfl rfl 3 (by decide) (hg _ wd_95) (fun _ h9 => h9) rfl (by decide +kernel) rfl rfl (Nat.le_of_ble_eq_true rfl) qd_R_init_31 (fun H31_7 L31_7 hP hD hS => ?_)
  have hP : va_P (dC, dI) qcl [(orr, .inr (4, [.ref n7, .ref n16, .ref n24, .int (zI (0))])), (n7, .inl (cT, 8, .inr (.inr (.inr (.inr (fun _ => none)))))), (n16, .inl (cT, 8, .inr (.inr (.inr (.inr (fun _ => none)))))), (n24, .inl (cI, 4, .inl (zA (fun _ => 0))))] H31_7 := hP
  have hD : va_D A [(orr, .inr (4, [.ref n7, .ref n16, .ref n24, .int (zI (0))])), (n7, .inl (cT, 8, .inr (.inr (.inr (.inr (fun _ => none)))))), (n16, .inl (cT, 8, .inr (.inr (.inr (.inr (fun _ => none)))))), (n24, .inl (cI, 4, .inl (zA (fun _ => 0))))] := hD
  exact W.vret hx hb hr (fun t9 ht9 hW9 => ⟨⟨(n7, n16, n24), rfl, trivial, mwB_i (by rw [ht9]; exact hP) (va_K.moved hW9.alike hK) hD⟩, hS.F ht9⟩) hS.2.2 qd_R_init_34
set_option maxHeartbeats 4000000 in
set_option maxRecDepth 100000 in
theorem c_T_init (l : Launch) (dC : Nat → ClassId) (dI : Nat → Nat → Nat) (cI cZ cT cJ : ClassId) (a aH aP aE n : Nat) (th tm : Nat → Int) (te : Nat → Nat) (tg : Int) (zh : Nat)  : Met l qy_T_init qw_T_init ({ frames := 1, cells := 0, slots := 0, locals := 60 }) (mwP (dC, dI) qcl (qty cI cZ cT cJ) nwL [(a, .inr (1, [.null, .null, .null, .int (zI (0)), .int (zI (0))]))] [(aH, .inl (cI, n, .inl (zA th)))] zh [.ref a, .ref aH, .ref aP, .ref aE, .int (zI (tg))]) (va_Qv (S := Unit) (fun uq => True) (fun uq tq => mwB (dC, dI) qcl (qty cI cZ cT cJ) (va_A [(a, .inr (1, [.null, .null, .null, .int (zI (0)), .int (zI (0))]))] zh) [(a, .inr (1, [.ref aH, .ref aP, .ref aE, .int (zI (↑n)), .int (zI (tg))]))] tq) (va_A [(a, .inr (1, [.null, .null, .null, .int (zI (0)), .int (zI (0))]))] zh)) 0 0 (va_A [(a, .inr (1, [.null, .null, .null, .int (zI (0)), .int (zI (0))]))] zh) := by
  refine Met.ofW (cc := qc_T_init) (maxL := 5) (ret := (Option.none : Option Jvm.ClassFile.FieldType)) (by decide) rfl ?_
  intro pg eg sg mg args below meth cg s₁ B hml hv
  obtain ⟨rfl, hsz, hP, hF0, hK, hN, hD0, hap⟩ := hv
  have hx := B.exec
  have hb := B.bytes
  have hr := B.returns
  have hts := atoms_spec (ws := qw_T_init) B.pre
  have hg : ∀ w ∈ gw, w.before _ sg = true := fun w h => hts w (List.mem_cons_of_mem _ h)
  have hown : sg.vm.findClass "TermOrders$Term" = some mg.cls := findClass_of_methodNamed B.named
  have hlocks := B.notSynchronized
  have hl := lv_entry ([.ref a, .ref aH, .ref aP, .ref aE, .int (zI (tg))]) (n := 5) (Nat.le_of_ble_eq_true rfl)
  rw [lg_entry_eq]
  generalize (lg_sl ([.ref a, .ref aH, .ref aP, .ref aE, .int (zI (tg))]) ++ List.replicate (5 - (lg_sl ([.ref a, .ref aH, .ref aP, .ref aE, .int (zI (tg))])).length) Slot.unset).toArray = ls at hl ⊢
  have hin : meth.name = "<init>" := (name_of_methodNamed B.named B.method).1
  subst hsz
  have hD := hD0.self (sz := sg.heap.size)
  have hFA := apw_A hap (fun k q hk => (hF0 k q hk).lt)
  generalize hAe : va_A [(a, .inr (1, [.null, .null, .null, .int (zI (0)), .int (zI (0))]))] sg.heap.size = A at hD hFA ⊢
  have hA : ∀ q : Nat, sg.heap.size ≤ q → A q := fun q h => by rw [← hAe]; exact Or.inr h
  have hS : va_S A sg.heap sg.heap [] := va_S.rf
  have hF := hF0
  have hl : lv_has ls 5 [(0, .ref a), (1, .ref aH), (2, .ref aP), (3, .ref aE), (4, .int (zI (tg)))] := hl
  refine lv_aload_n hx hb qd_T_init_0 rfl (lv_at hl 0 rfl) ?_
  refine W.objInit hx hb hown (hg _ wd_322) (hg _ wd_23) (hg _ wd_24) rfl (by rw [hml]; exact hl.1) rfl qd_T_init_1 (Nat.le_of_ble_eq_true rfl) (Nat.le_of_ble_eq_true rfl) ?_
  refine W.eq (g2 := F0 mg 4 ls []) rfl ?_
  refine lv_aload_n hx hb qd_T_init_4 rfl (lv_at hl 0 rfl) ?_
  refine lv_aload_n hx hb qd_T_init_5 rfl (lv_at hl 1 rfl) ?_
  refine va_putF (D := (dC, dI)) (ci := 1) (v := .ref aH) (ty := .array .int) (C := "TermOrders$Term") (T := qT_T) (N := 5) hx hb hg qi_T qt_T qo_T qn_T hown hK hP hD hS 0 rfl rfl 0 (by decide) (hg _ wd_323) (fun _ h9 => h9) rfl hin rfl (by decide +kernel) rfl rfl (Nat.le_of_ble_eq_true rfl) qd_T_init_6 (fun H6_1 L6_1 hP hD hS => ?_)
  have hP : va_P (dC, dI) qcl [(a, .inr (1, [.ref aH, .null, .null, .int (zI (0)), .int (zI (0))]))] H6_1 := hP
  have hD : va_D A [(a, .inr (1, [.ref aH, .null, .null, .int (zI (0)), .int (zI (0))]))] := hD
  have hF := fz_keep hF0 hFA hS
  refine lv_aload_n hx hb qd_T_init_9 rfl (lv_at hl 0 rfl) ?_
  refine lv_aload_n hx hb qd_T_init_10 rfl (lv_at hl 2 rfl) ?_
  refine va_putF (D := (dC, dI)) (ci := 1) (v := .ref aP) (ty := .array .int) (C := "TermOrders$Term") (T := qT_T) (N := 5) hx hb hg qi_T qt_T qo_T qn_T hown hK hP hD hS 0 rfl rfl 1 (by decide) (hg _ wd_329) (fun _ h9 => h9) rfl hin rfl (by decide +kernel) rfl rfl (Nat.le_of_ble_eq_true rfl) qd_T_init_11 (fun H11_2 L11_2 hP hD hS => ?_)
  have hP : va_P (dC, dI) qcl [(a, .inr (1, [.ref aH, .ref aP, .null, .int (zI (0)), .int (zI (0))]))] H11_2 := hP
  have hD : va_D A [(a, .inr (1, [.ref aH, .ref aP, .null, .int (zI (0)), .int (zI (0))]))] := hD
  have hF := fz_keep hF0 hFA hS
  refine lv_aload_n hx hb qd_T_init_14 rfl (lv_at hl 0 rfl) ?_
  refine lv_aload_n hx hb qd_T_init_15 rfl (lv_at hl 3 rfl) ?_
  refine va_putF (D := (dC, dI)) (ci := 1) (v := .ref aE) (ty := .array .int) (C := "TermOrders$Term") (T := qT_T) (N := 5) hx hb hg qi_T qt_T qo_T qn_T hown hK hP hD hS 0 rfl rfl 2 (by decide) (hg _ wd_333) (fun _ h9 => h9) rfl hin rfl (by decide +kernel) rfl rfl (Nat.le_of_ble_eq_true rfl) qd_T_init_16 (fun H16_3 L16_3 hP hD hS => ?_)
  have hP : va_P (dC, dI) qcl [(a, .inr (1, [.ref aH, .ref aP, .ref aE, .int (zI (0)), .int (zI (0))]))] H16_3 := hP
  have hD : va_D A [(a, .inr (1, [.ref aH, .ref aP, .ref aE, .int (zI (0)), .int (zI (0))]))] := hD
  have hF := fz_keep hF0 hFA hS
  refine lv_aload_n hx hb qd_T_init_19 rfl (lv_at hl 0 rfl) ?_
  refine lv_aload_n hx hb qd_T_init_20 rfl (lv_at hl 1 rfl) ?_
  refine va_alen (v := zI ↑n) hx hb hK hF 0 0 rfl rfl (zI_nat _).symm qd_T_init_21 ?_
  refine va_putF (D := (dC, dI)) (ci := 1) (v := .int (zI (↑n))) (ty := .int) (C := "TermOrders$Term") (T := qT_T) (N := 5) hx hb hg qi_T qt_T qo_T qn_T hown hK hP hD hS 0 rfl rfl 3 (by decide) (hg _ wd_336) (fun _ h9 => h9) rfl hin rfl (by decide +kernel) rfl rfl (Nat.le_of_ble_eq_true rfl) qd_T_init_22 (fun H22_4 L22_4 hP hD hS => ?_)
  have hP : va_P (dC, dI) qcl [(a, .inr (1, [.ref aH, .ref aP, .ref aE, .int (zI (↑n)), .int (zI (0))]))] H22_4 := hP
  have hD : va_D A [(a, .inr (1, [.ref aH, .ref aP, .ref aE, .int (zI (↑n)), .int (zI (0))]))] := hD
  have hF := fz_keep hF0 hFA hS
  refine lv_aload_n hx hb qd_T_init_25 rfl (lv_at hl 0 rfl) ?_
  refine lv_iload hx hb qd_T_init_26 (lv_at hl 4 rfl) ?_
  refine va_putF (D := (dC, dI)) (ci := 1) (v := .int (zI (tg))) (ty := .int) (C := "TermOrders$Term") (T := qT_T) (N := 5) hx hb hg qi_T qt_T qo_T qn_T hown hK hP hD hS 0 rfl rfl 4 (by decide) (hg _ wd_340) (fun _ h9 => h9) rfl hin rfl (by decide +kernel) rfl rfl (Nat.le_of_ble_eq_true rfl) qd_T_init_28 (fun H28_5 L28_5 hP hD hS => ?_)
  have hP : va_P (dC, dI) qcl [(a, .inr (1, [.ref aH, .ref aP, .ref aE, .int (zI (↑n)), .int (zI (tg))]))] H28_5 := hP
  have hD : va_D A [(a, .inr (1, [.ref aH, .ref aP, .ref aE, .int (zI (↑n)), .int (zI (tg))]))] := hD
  have hF := fz_keep hF0 hFA hS
  exact W.vret hx hb hr (fun t9 ht9 hW9 => ⟨⟨(), rfl, trivial, mwB_i (by rw [ht9]; exact hP) (va_K.moved hW9.alike hK) hD⟩, hS.F ht9⟩) hS.2.2 qd_T_init_31
