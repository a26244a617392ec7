set_option maxHeartbeats 4000000 in
set_option maxRecDepth 100000 in
theorem c_M_symbol (l : Launch) (dC : Nat → ClassId) (dI : Nat → Nat → Nat) (cI cZ cT cJ : ClassId) (o mA mR mW mC mS mL mT mH mY mE mG mB mO sy tc rc : Nat) (tw : Int) (ar rk wt co : Nat → Int) (sz lf rg : Nat → Nat) (hi hv : Nat → Int) (ef : Nat → Nat) (gr : Nat → Bool) (bd ol : Nat → Int) (x : Int) (zh : Nat) (hsy : sy ≤ 5) (h32x : -2147483648 ≤ x ∧ x < 2147483648) : Met l qy_M_symbol qw_M_symbol ({ frames := 0, cells := 0, slots := 0, locals := 0 }) (mwP (dC, dI) qcl (qty cI cZ cT cJ) nwL [(o, .inr (6, [.int (zI (↑sy)), .ref mA, .ref mR, .ref mW, .int (zI (↑tc)), .ref mC, .ref mS, .int (zI (↑rc)), .ref mL, .ref mT, .ref mH, .ref mY, .ref mE, .ref mG, .ref mB, .ref mO, .int (zI (tw))])), (mA, .inl (cI, 5, .inl (zA ar))), (mR, .inl (cI, 5, .inl (zA rk))), (mW, .inl (cI, 5, .inl (zA wt)))] [] zh [.ref o, .int (zI (x))]) (mwI (S := (Int) × (Nat) × (Nat → Int) × (Nat → Int) × (Nat → Int)) (fun r uq => ((x < 0 ∨ 3 < x) ∧ uq.1 = 1 ∧ uq.2.1 = sy ∧ uq.2.2.1 = ar ∧ uq.2.2.2.1 = rk ∧ uq.2.2.2.2 = wt) ∨ (0 ≤ x ∧ x ≤ 3 ∧ sy = 5 ∧ uq.1 = 2 ∧ uq.2.1 = sy ∧ uq.2.2.1 = ar ∧ uq.2.2.2.1 = rk ∧ uq.2.2.2.2 = wt) ∨ (0 ≤ x ∧ x ≤ 3 ∧ sy < 5 ∧ uq.1 = 0 ∧ uq.2.1 = sy + 1 ∧ uq.2.2.1 = uz ar sy x ∧ uq.2.2.2.1 = uz rk sy ↑sy ∧ uq.2.2.2.2 = uz wt sy 1 ∧ r = ↑sy)) (fun uq tq => mwB (dC, dI) qcl (qty cI cZ cT cJ) (va_A [(o, .inr (6, [.int (zI (↑sy)), .ref mA, .ref mR, .ref mW, .int (zI (↑tc)), .ref mC, .ref mS, .int (zI (↑rc)), .ref mL, .ref mT, .ref mH, .ref mY, .ref mE, .ref mG, .ref mB, .ref mO, .int (zI (tw))])), (mA, .inl (cI, 5, .inl (zA ar))), (mR, .inl (cI, 5, .inl (zA rk))), (mW, .inl (cI, 5, .inl (zA wt)))] zh) [(o, .inr (6, [.int (zI (↑uq.2.1)), .ref mA, .ref mR, .ref mW, .int (zI (↑tc)), .ref mC, .ref mS, .int (zI (↑rc)), .ref mL, .ref mT, .ref mH, .ref mY, .ref mE, .ref mG, .ref mB, .ref mO, .int (zI (uq.1))])), (mA, .inl (cI, 5, .inl (zA uq.2.2.1))), (mR, .inl (cI, 5, .inl (zA uq.2.2.2.1))), (mW, .inl (cI, 5, .inl (zA uq.2.2.2.2)))] tq) (va_A [(o, .inr (6, [.int (zI (↑sy)), .ref mA, .ref mR, .ref mW, .int (zI (↑tc)), .ref mC, .ref mS, .int (zI (↑rc)), .ref mL, .ref mT, .ref mH, .ref mY, .ref mE, .ref mG, .ref mB, .ref mO, .int (zI (tw))])), (mA, .inl (cI, 5, .inl (zA ar))), (mR, .inl (cI, 5, .inl (zA rk))), (mW, .inl (cI, 5, .inl (zA wt)))] zh)) 0 0 (va_A [(o, .inr (6, [.int (zI (↑sy)), .ref mA, .ref mR, .ref mW, .int (zI (↑tc)), .ref mC, .ref mS, .int (zI (↑rc)), .ref mL, .ref mT, .ref mH, .ref mY, .ref mE, .ref mG, .ref mB, .ref mO, .int (zI (tw))])), (mA, .inl (cI, 5, .inl (zA ar))), (mR, .inl (cI, 5, .inl (zA rk))), (mW, .inl (cI, 5, .inl (zA wt)))] zh) := by
  refine Met.ofW (cc := qc_M_symbol) (maxL := 2) (ret := (Option.some Jvm.ClassFile.FieldType.int)) (by decide) rfl ?_
  intro pg eg sg mg args below meth cg s₁ B hml hv
  obtain ⟨rfl, hsz, hP, hF0, hK, hN, hD0, hap⟩ := hv
  have hx := B.exec
  have hb := B.bytes
  have hr := B.returns
  have hts := atoms_spec (ws := qw_M_symbol) B.pre
  have hg : ∀ w ∈ gw, w.before _ sg = true := fun w h => hts w (List.mem_cons_of_mem _ h)
  have hown : sg.vm.findClass "TermOrdersModel" = some mg.cls := findClass_of_methodNamed B.named
  have hlocks := B.notSynchronized
  have hl := lv_entry ([.ref o, .int (zI (x))]) (n := 2) (Nat.le_of_ble_eq_true rfl)
  rw [lg_entry_eq]
  generalize (lg_sl ([.ref o, .int (zI (x))]) ++ List.replicate (2 - (lg_sl ([.ref o, .int (zI (x))])).length) Slot.unset).toArray = ls at hl ⊢
  subst hsz
  have hD := hD0.self (sz := sg.heap.size)
  have hFA := apw_A hap (fun k q hk => (hF0 k q hk).lt)
  generalize hAe : va_A [(o, .inr (6, [.int (zI (↑sy)), .ref mA, .ref mR, .ref mW, .int (zI (↑tc)), .ref mC, .ref mS, .int (zI (↑rc)), .ref mL, .ref mT, .ref mH, .ref mY, .ref mE, .ref mG, .ref mB, .ref mO, .int (zI (tw))])), (mA, .inl (cI, 5, .inl (zA ar))), (mR, .inl (cI, 5, .inl (zA rk))), (mW, .inl (cI, 5, .inl (zA wt)))] sg.heap.size = A at hD hFA ⊢
  have hA : ∀ q : Nat, sg.heap.size ≤ q → A q := fun q h => by rw [← hAe]; exact Or.inr h
  have hS : va_S A sg.heap sg.heap [] := va_S.rf
  have hF := hF0
  have hl : lv_has ls 2 [(0, .ref o), (1, .int (zI (x)))] := hl
  refine lv_aload_n hx hb qd_M_symbol_0 rfl (lv_at hl 0 rfl) ?_
  refine lv_iload_n hx hb qd_M_symbol_1 rfl (lv_at hl 1 rfl) ?_
  refine zz_if_lt (tgt := 10) hx hb qd_M_symbol_2 (by decide) (by omega) (fun h2 => ?_) (fun h2 => ?_)
  · skip
    refine lv_iconst (v := zI 1) hx hb qd_M_symbol_10 rfl ?_
    refine lv_goto (tgt := 27) hx hb qd_M_symbol_11 (by decide) ?_
    refine va_put (D := (dC, dI)) (ci := 6) (v := .int (zI (1))) (ty := .int) (C := "TermOrdersModel") (T := qT_M) (N := 17) hx hb hg qi_M qt_M qo_M qn_M hown hK hP hD hS 0 rfl rfl 16 (by decide) (hg _ wd_634) (fun _ h9 => h9) rfl (by decide +kernel) rfl rfl (Nat.le_of_ble_eq_true rfl) qd_M_symbol_27 (fun H27_1 L27_1 hP hD hS => ?_)
    have hP : va_P (dC, dI) qcl [(o, .inr (6, [.int (zI (↑sy)), .ref mA, .ref mR, .ref mW, .int (zI (↑tc)), .ref mC, .ref mS, .int (zI (↑rc)), .ref mL, .ref mT, .ref mH, .ref mY, .ref mE, .ref mG, .ref mB, .ref mO, .int (zI (1))])), (mA, .inl (cI, 5, .inl (zA ar))), (mR, .inl (cI, 5, .inl (zA rk))), (mW, .inl (cI, 5, .inl (zA wt)))] H27_1 := hP
    have hD : va_D A [(o, .inr (6, [.int (zI (↑sy)), .ref mA, .ref mR, .ref mW, .int (zI (↑tc)), .ref mC, .ref mS, .int (zI (↑rc)), .ref mL, .ref mT, .ref mH, .ref mY, .ref mE, .ref mG, .ref mB, .ref mO, .int (zI (1))])), (mA, .inl (cI, 5, .inl (zA ar))), (mR, .inl (cI, 5, .inl (zA rk))), (mW, .inl (cI, 5, .inl (zA wt)))] := hD
    refine lv_aload_n hx hb qd_M_symbol_30 rfl (lv_at hl 0 rfl) ?_
    refine va_get (D := (dC, dI)) (ci := 6) (v := .int (zI (1))) (C := "TermOrdersModel") (T := qT_M) (N := 17) hx hb hg qi_M hown hK hP 0 rfl rfl 16 (by decide) (hg _ wd_634) (fun _ h9 => h9) rfl qd_M_symbol_31 ?_
    refine zz_if_eq (tgt := 39) hx hb qd_M_symbol_34 (by decide) (by omega) (fun h34 => ?_) (fun h34 => ?_)
    · skip
      exfalso
      omega
    · skip
      refine lv_iconst (v := zI 0) hx hb qd_M_symbol_37 rfl ?_
      exact W.iret (v := zI 0) hx hb hr (fun t9 ht9 hW9 => ⟨⟨0, (1, sy, ar, rk, wt), rfl, (Or.inl ⟨by omega, rfl, rfl, rfl, rfl, rfl⟩), mwB_i (by rw [ht9]; exact hP) (va_K.moved hW9.alike hK) hD⟩, hS.F ht9⟩) hS.2.2 qd_M_symbol_38
  · skip
    refine lv_iload_n hx hb qd_M_symbol_5 rfl (lv_at hl 1 rfl) ?_
    refine lv_iconst (v := zI 3) hx hb qd_M_symbol_6 rfl ?_
    refine zz_icmp_le (tgt := 14) hx hb qd_M_symbol_7 (by decide) (by omega) (by omega) (fun h7 => ?_) (fun h7 => ?_)
    · skip
      refine lv_aload_n hx hb qd_M_symbol_14 rfl (lv_at hl 0 rfl) ?_
      refine va_get (D := (dC, dI)) (ci := 6) (v := .int (zI (↑sy))) (C := "TermOrdersModel") (T := qT_M) (N := 17) hx hb hg qi_M hown hK hP 0 rfl rfl 0 (by decide) (hg _ wd_618) (fun _ h9 => h9) rfl qd_M_symbol_15 ?_
      refine lv_iconst (v := zI 5) hx hb qd_M_symbol_18 rfl ?_
      refine zz_icmp_ne (tgt := 26) hx hb qd_M_symbol_19 (by decide) (by omega) (by omega) (fun h19 => ?_) (fun h19 => ?_)
      · skip
        refine lv_iconst (v := zI 0) hx hb qd_M_symbol_26 rfl ?_
        refine va_put (D := (dC, dI)) (ci := 6) (v := .int (zI (0))) (ty := .int) (C := "TermOrdersModel") (T := qT_M) (N := 17) hx hb hg qi_M qt_M qo_M qn_M hown hK hP hD hS 0 rfl rfl 16 (by decide) (hg _ wd_634) (fun _ h9 => h9) rfl (by decide +kernel) rfl rfl (Nat.le_of_ble_eq_true rfl) qd_M_symbol_27 (fun H27_2 L27_2 hP hD hS => ?_)
        have hP : va_P (dC, dI) qcl [(o, .inr (6, [.int (zI (↑sy)), .ref mA, .ref mR, .ref mW, .int (zI (↑tc)), .ref mC, .ref mS, .int (zI (↑rc)), .ref mL, .ref mT, .ref mH, .ref mY, .ref mE, .ref mG, .ref mB, .ref mO, .int (zI (0))])), (mA, .inl (cI, 5, .inl (zA ar))), (mR, .inl (cI, 5, .inl (zA rk))), (mW, .inl (cI, 5, .inl (zA wt)))] H27_2 := hP
        have hD : va_D A [(o, .inr (6, [.int (zI (↑sy)), .ref mA, .ref mR, .ref mW, .int (zI (↑tc)), .ref mC, .ref mS, .int (zI (↑rc)), .ref mL, .ref mT, .ref mH, .ref mY, .ref mE, .ref mG, .ref mB, .ref mO, .int (zI (0))])), (mA, .inl (cI, 5, .inl (zA ar))), (mR, .inl (cI, 5, .inl (zA rk))), (mW, .inl (cI, 5, .inl (zA wt)))] := hD
        refine lv_aload_n hx hb qd_M_symbol_30 rfl (lv_at hl 0 rfl) ?_
        refine va_get (D := (dC, dI)) (ci := 6) (v := .int (zI (0))) (C := "TermOrdersModel") (T := qT_M) (N := 17) hx hb hg qi_M hown hK hP 0 rfl rfl 16 (by decide) (hg _ wd_634) (fun _ h9 => h9) rfl qd_M_symbol_31 ?_
        refine zz_if_eq (tgt := 39) hx hb qd_M_symbol_34 (by decide) (by omega) (fun h34 => ?_) (fun h34 => ?_)
        · skip
          refine lv_aload_n hx hb qd_M_symbol_39 rfl (lv_at hl 0 rfl) ?_
          refine va_get (D := (dC, dI)) (ci := 6) (v := .ref mA) (C := "TermOrdersModel") (T := qT_M) (N := 17) hx hb hg qi_M hown hK hP 0 rfl rfl 1 (by decide) (hg _ wd_619) (fun _ h9 => h9) rfl qd_M_symbol_40 ?_
          refine lv_aload_n hx hb qd_M_symbol_43 rfl (lv_at hl 0 rfl) ?_
          refine va_get (D := (dC, dI)) (ci := 6) (v := .int (zI (↑sy))) (C := "TermOrdersModel") (T := qT_M) (N := 17) hx hb hg qi_M hown hK hP 0 rfl rfl 0 (by decide) (hg _ wd_618) (fun _ h9 => h9) rfl qd_M_symbol_44 ?_
          refine lv_iload_n hx hb qd_M_symbol_47 rfl (lv_at hl 1 rfl) ?_
          refine zz_iast hx hb hK hP hD hS 1 0 rfl rfl sy rfl (by omega) (by omega) qd_M_symbol_48 (fun H48_3 L48_3 hP hD hS => ?_)
          have hP : va_P (dC, dI) qcl [(o, .inr (6, [.int (zI (↑sy)), .ref mA, .ref mR, .ref mW, .int (zI (↑tc)), .ref mC, .ref mS, .int (zI (↑rc)), .ref mL, .ref mT, .ref mH, .ref mY, .ref mE, .ref mG, .ref mB, .ref mO, .int (zI (0))])), (mA, .inl (cI, 5, .inl (zA (uz ar sy x)))), (mR, .inl (cI, 5, .inl (zA rk))), (mW, .inl (cI, 5, .inl (zA wt)))] H48_3 := hP
          have hD : va_D A [(o, .inr (6, [.int (zI (↑sy)), .ref mA, .ref mR, .ref mW, .int (zI (↑tc)), .ref mC, .ref mS, .int (zI (↑rc)), .ref mL, .ref mT, .ref mH, .ref mY, .ref mE, .ref mG, .ref mB, .ref mO, .int (zI (0))])), (mA, .inl (cI, 5, .inl (zA (uz ar sy x)))), (mR, .inl (cI, 5, .inl (zA rk))), (mW, .inl (cI, 5, .inl (zA wt)))] := hD
          refine lv_aload_n hx hb qd_M_symbol_49 rfl (lv_at hl 0 rfl) ?_
          refine va_get (D := (dC, dI)) (ci := 6) (v := .ref mR) (C := "TermOrdersModel") (T := qT_M) (N := 17) hx hb hg qi_M hown hK hP 0 rfl rfl 2 (by decide) (hg _ wd_620) (fun _ h9 => h9) rfl qd_M_symbol_50 ?_
          refine lv_aload_n hx hb qd_M_symbol_53 rfl (lv_at hl 0 rfl) ?_
          refine va_get (D := (dC, dI)) (ci := 6) (v := .int (zI (↑sy))) (C := "TermOrdersModel") (T := qT_M) (N := 17) hx hb hg qi_M hown hK hP 0 rfl rfl 0 (by decide) (hg _ wd_618) (fun _ h9 => h9) rfl qd_M_symbol_54 ?_
          refine lv_aload_n hx hb qd_M_symbol_57 rfl (lv_at hl 0 rfl) ?_
          refine va_get (D := (dC, dI)) (ci := 6) (v := .int (zI (↑sy))) (C := "TermOrdersModel") (T := qT_M) (N := 17) hx hb hg qi_M hown hK hP 0 rfl rfl 0 (by decide) (hg _ wd_618) (fun _ h9 => h9) rfl qd_M_symbol_58 ?_
          refine zz_iast hx hb hK hP hD hS 2 0 rfl rfl sy rfl (by omega) (by omega) qd_M_symbol_61 (fun H61_4 L61_4 hP hD hS => ?_)
          have hP : va_P (dC, dI) qcl [(o, .inr (6, [.int (zI (↑sy)), .ref mA, .ref mR, .ref mW, .int (zI (↑tc)), .ref mC, .ref mS, .int (zI (↑rc)), .ref mL, .ref mT, .ref mH, .ref mY, .ref mE, .ref mG, .ref mB, .ref mO, .int (zI (0))])), (mA, .inl (cI, 5, .inl (zA (uz ar sy x)))), (mR, .inl (cI, 5, .inl (zA (uz rk sy (↑sy))))), (mW, .inl (cI, 5, .inl (zA wt)))] H61_4 := hP
          have hD : va_D A [(o, .inr (6, [.int (zI (↑sy)), .ref mA, .ref mR, .ref mW, .int (zI (↑tc)), .ref mC, .ref mS, .int (zI (↑rc)), .ref mL, .ref mT, .ref mH, .ref mY, .ref mE, .ref mG, .ref mB, .ref mO, .int (zI (0))])), (mA, .inl (cI, 5, .inl (zA (uz ar sy x)))), (mR, .inl (cI, 5, .inl (zA (uz rk sy (↑sy))))), (mW, .inl (cI, 5, .inl (zA wt)))] := hD
          refine lv_aload_n hx hb qd_M_symbol_62 rfl (lv_at hl 0 rfl) ?_
          refine va_get (D := (dC, dI)) (ci := 6) (v := .ref mW) (C := "TermOrdersModel") (T := qT_M) (N := 17) hx hb hg qi_M hown hK hP 0 rfl rfl 3 (by decide) (hg _ wd_621) (fun _ h9 => h9) rfl qd_M_symbol_63 ?_
          refine lv_aload_n hx hb qd_M_symbol_66 rfl (lv_at hl 0 rfl) ?_
          refine va_get (D := (dC, dI)) (ci := 6) (v := .int (zI (↑sy))) (C := "TermOrdersModel") (T := qT_M) (N := 17) hx hb hg qi_M hown hK hP 0 rfl rfl 0 (by decide) (hg _ wd_618) (fun _ h9 => h9) rfl qd_M_symbol_67 ?_
          refine lv_iconst (v := zI 1) hx hb qd_M_symbol_70 rfl ?_
          refine zz_iast hx hb hK hP hD hS 3 0 rfl rfl sy rfl (by omega) (by omega) qd_M_symbol_71 (fun H71_5 L71_5 hP hD hS => ?_)
          have hP : va_P (dC, dI) qcl [(o, .inr (6, [.int (zI (↑sy)), .ref mA, .ref mR, .ref mW, .int (zI (↑tc)), .ref mC, .ref mS, .int (zI (↑rc)), .ref mL, .ref mT, .ref mH, .ref mY, .ref mE, .ref mG, .ref mB, .ref mO, .int (zI (0))])), (mA, .inl (cI, 5, .inl (zA (uz ar sy x)))), (mR, .inl (cI, 5, .inl (zA (uz rk sy (↑sy))))), (mW, .inl (cI, 5, .inl (zA (uz wt sy 1))))] H71_5 := hP
          have hD : va_D A [(o, .inr (6, [.int (zI (↑sy)), .ref mA, .ref mR, .ref mW, .int (zI (↑tc)), .ref mC, .ref mS, .int (zI (↑rc)), .ref mL, .ref mT, .ref mH, .ref mY, .ref mE, .ref mG, .ref mB, .ref mO, .int (zI (0))])), (mA, .inl (cI, 5, .inl (zA (uz ar sy x)))), (mR, .inl (cI, 5, .inl (zA (uz rk sy (↑sy))))), (mW, .inl (cI, 5, .inl (zA (uz wt sy 1))))] := hD
          refine lv_aload_n hx hb qd_M_symbol_72 rfl (lv_at hl 0 rfl) ?_
          refine lv_dup hx hb qd_M_symbol_73 rfl ?_
          refine va_get (D := (dC, dI)) (ci := 6) (v := .int (zI (↑sy))) (C := "TermOrdersModel") (T := qT_M) (N := 17) hx hb hg qi_M hown hK hP 0 rfl rfl 0 (by decide) (hg _ wd_618) (fun _ h9 => h9) rfl qd_M_symbol_74 ?_
          refine lv_iconst (v := zI 1) hx hb qd_M_symbol_77 rfl ?_
          refine zz_iadd hx hb (↑(sy + 1)) (by omega) qd_M_symbol_78 ?_
          refine va_put (D := (dC, dI)) (ci := 6) (v := .int (zI (↑(sy + 1)))) (ty := .int) (C := "TermOrdersModel") (T := qT_M) (N := 17) hx hb hg qi_M qt_M qo_M qn_M hown hK hP hD hS 0 rfl rfl 0 (by decide) (hg _ wd_618) (fun _ h9 => h9) rfl (by decide +kernel) rfl rfl (Nat.le_of_ble_eq_true rfl) qd_M_symbol_79 (fun H79_6 L79_6 hP hD hS => ?_)
          have hP : va_P (dC, dI) qcl [(o, .inr (6, [.int (zI (↑(sy + 1))), .ref mA, .ref mR, .ref mW, .int (zI (↑tc)), .ref mC, .ref mS, .int (zI (↑rc)), .ref mL, .ref mT, .ref mH, .ref mY, .ref mE, .ref mG, .ref mB, .ref mO, .int (zI (0))])), (mA, .inl (cI, 5, .inl (zA (uz ar sy x)))), (mR, .inl (cI, 5, .inl (zA (uz rk sy (↑sy))))), (mW, .inl (cI, 5, .inl (zA (uz wt sy 1))))] H79_6 := hP
          have hD : va_D A [(o, .inr (6, [.int (zI (↑(sy + 1))), .ref mA, .ref mR, .ref mW, .int (zI (↑tc)), .ref mC, .ref mS, .int (zI (↑rc)), .ref mL, .ref mT, .ref mH, .ref mY, .ref mE, .ref mG, .ref mB, .ref mO, .int (zI (0))])), (mA, .inl (cI, 5, .inl (zA (uz ar sy x)))), (mR, .inl (cI, 5, .inl (zA (uz rk sy (↑sy))))), (mW, .inl (cI, 5, .inl (zA (uz wt sy 1))))] := hD
          refine lv_aload_n hx hb qd_M_symbol_82 rfl (lv_at hl 0 rfl) ?_
          refine va_get (D := (dC, dI)) (ci := 6) (v := .int (zI (↑(sy + 1)))) (C := "TermOrdersModel") (T := qT_M) (N := 17) hx hb hg qi_M hown hK hP 0 rfl rfl 0 (by decide) (hg _ wd_618) (fun _ h9 => h9) rfl qd_M_symbol_83 ?_
          refine lv_iconst (v := zI 1) hx hb qd_M_symbol_86 rfl ?_
          refine zz_isub hx hb (↑sy) (by omega) qd_M_symbol_87 ?_
          exact W.iret (v := zI (↑sy)) hx hb hr (fun t9 ht9 hW9 => ⟨⟨↑sy, (0, sy + 1, uz ar sy x, uz rk sy ↑sy, uz wt sy 1), rfl, (Or.inr (Or.inr ⟨by omega, by omega, by omega, rfl, rfl, rfl, rfl, rfl, rfl⟩)), mwB_i (by rw [ht9]; exact hP) (va_K.moved hW9.alike hK) hD⟩, hS.F ht9⟩) hS.2.2 qd_M_symbol_88
        · skip
          exfalso
          omega
      · skip
        refine lv_iconst (v := zI 2) hx hb qd_M_symbol_22 rfl ?_
        refine lv_goto (tgt := 27) hx hb qd_M_symbol_23 (by decide) ?_
        refine va_put (D := (dC, dI)) (ci := 6) (v := .int (zI (2))) (ty := .int) (C := "TermOrdersModel") (T := qT_M) (N := 17) hx hb hg qi_M qt_M qo_M qn_M hown hK hP hD hS 0 rfl rfl 16 (by decide) (hg _ wd_634) (fun _ h9 => h9) rfl (by decide +kernel) rfl rfl (Nat.le_of_ble_eq_true rfl) qd_M_symbol_27 (fun H27_7 L27_7 hP hD hS => ?_)
        have hP : va_P (dC, dI) qcl [(o, .inr (6, [.int (zI (↑sy)), .ref mA, .ref mR, .ref mW, .int (zI (↑tc)), .ref mC, .ref mS, .int (zI (↑rc)), .ref mL, .ref mT, .ref mH, .ref mY, .ref mE, .ref mG, .ref mB, .ref mO, .int (zI (2))])), (mA, .inl (cI, 5, .inl (zA ar))), (mR, .inl (cI, 5, .inl (zA rk))), (mW, .inl (cI, 5, .inl (zA wt)))] H27_7 := hP
        have hD : va_D A [(o, .inr (6, [.int (zI (↑sy)), .ref mA, .ref mR, .ref mW, .int (zI (↑tc)), .ref mC, .ref mS, .int (zI (↑rc)), .ref mL, .ref mT, .ref mH, .ref mY, .ref mE, .ref mG, .ref mB, .ref mO, .int (zI (2))])), (mA, .inl (cI, 5, .inl (zA ar))), (mR, .inl (cI, 5, .inl (zA rk))), (mW, .inl (cI, 5, .inl (zA wt)))] := hD
        refine lv_aload_n hx hb qd_M_symbol_30 rfl (lv_at hl 0 rfl) ?_
        refine va_get (D := (dC, dI)) (ci := 6) (v := .int (zI (2))) (C := "TermOrdersModel") (T := qT_M) (N := 17) hx hb hg qi_M hown hK hP 0 rfl rfl 16 (by decide) (hg _ wd_634) (fun _ h9 => h9) rfl qd_M_symbol_31 ?_
        refine zz_if_eq (tgt := 39) hx hb qd_M_symbol_34 (by decide) (by omega) (fun h34 => ?_) (fun h34 => ?_)
        · skip
          exfalso
          omega
        · skip
          refine lv_iconst (v := zI 0) hx hb qd_M_symbol_37 rfl ?_
          exact W.iret (v := zI 0) hx hb hr (fun t9 ht9 hW9 => ⟨⟨0, (2, sy, ar, rk, wt), rfl, (Or.inr (Or.inl ⟨by omega, by omega, by omega, rfl, rfl, rfl, rfl, rfl⟩)), mwB_i (by rw [ht9]; exact hP) (va_K.moved hW9.alike hK) hD⟩, hS.F ht9⟩) hS.2.2 qd_M_symbol_38
    · skip
      refine lv_iconst (v := zI 1) hx hb qd_M_symbol_10 rfl ?_
      refine lv_goto (tgt := 27) hx hb qd_M_symbol_11 (by decide) ?_
      refine va_put (D := (dC, dI)) (ci := 6) (v := .int (zI (1))) (ty := .int) (C := "TermOrdersModel") (T := qT_M) (N := 17) hx hb hg qi_M qt_M qo_M qn_M hown hK hP hD hS 0 rfl rfl 16 (by decide) (hg _ wd_634) (fun _ h9 => h9) rfl (by decide +kernel) rfl rfl (Nat.le_of_ble_eq_true rfl) qd_M_symbol_27 (fun H27_8 L27_8 hP hD hS => ?_)
      have hP : va_P (dC, dI) qcl [(o, .inr (6, [.int (zI (↑sy)), .ref mA, .ref mR, .ref mW, .int (zI (↑tc)), .ref mC, .ref mS, .int (zI (↑rc)), .ref mL, .ref mT, .ref mH, .ref mY, .ref mE, .ref mG, .ref mB, .ref mO, .int (zI (1))])), (mA, .inl (cI, 5, .inl (zA ar))), (mR, .inl (cI, 5, .inl (zA rk))), (mW, .inl (cI, 5, .inl (zA wt)))] H27_8 := hP
      have hD : va_D A [(o, .inr (6, [.int (zI (↑sy)), .ref mA, .ref mR, .ref mW, .int (zI (↑tc)), .ref mC, .ref mS, .int (zI (↑rc)), .ref mL, .ref mT, .ref mH, .ref mY, .ref mE, .ref mG, .ref mB, .ref mO, .int (zI (1))])), (mA, .inl (cI, 5, .inl (zA ar))), (mR, .inl (cI, 5, .inl (zA rk))), (mW, .inl (cI, 5, .inl (zA wt)))] := hD
      refine lv_aload_n hx hb qd_M_symbol_30 rfl (lv_at hl 0 rfl) ?_
      refine va_get (D := (dC, dI)) (ci := 6) (v := .int (zI (1))) (C := "TermOrdersModel") (T := qT_M) (N := 17) hx hb hg qi_M hown hK hP 0 rfl rfl 16 (by decide) (hg _ wd_634) (fun _ h9 => h9) rfl qd_M_symbol_31 ?_
      refine zz_if_eq (tgt := 39) hx hb qd_M_symbol_34 (by decide) (by omega) (fun h34 => ?_) (fun h34 => ?_)
      · skip
        exfalso
        omega
      · skip
        refine lv_iconst (v := zI 0) hx hb qd_M_symbol_37 rfl ?_
        exact W.iret (v := zI 0) hx hb hr (fun t9 ht9 hW9 => ⟨⟨0, (1, sy, ar, rk, wt), rfl, (Or.inl ⟨by omega, rfl, rfl, rfl, rfl, rfl⟩), mwB_i (by rw [ht9]; exact hP) (va_K.moved hW9.alike hK) hD⟩, hS.F ht9⟩) hS.2.2 qd_M_symbol_38
set_option maxHeartbeats 4000000 in
set_option maxRecDepth 100000 in
theorem c_M_variable (l : Launch) (dC : Nat → ClassId) (dI : Nat → Nat → Nat) (cI cZ cT cJ : ClassId) (o mA mR mW mC mS mL mT mH mY mE mG mB mO sy tc rc : Nat) (tw : Int) (ar rk wt co : Nat → Int) (sz lf rg : Nat → Nat) (hi hv : Nat → Int) (ef : Nat → Nat) (gr : Nat → Bool) (bd ol : Nat → Int) (x : Int) (zh : Nat) (htc : tc ≤ 160) (h32x : -2147483648 ≤ x ∧ x < 2147483648) : Met l qy_M_variable qw_M_variable ({ frames := 0, cells := 0, slots := 0, locals := 0 }) (mwP (dC, dI) qcl (qty cI cZ cT cJ) nwL [(o, .inr (6, [.int (zI (↑sy)), .ref mA, .ref mR, .ref mW, .int (zI (↑tc)), .ref mC, .ref mS, .int (zI (↑rc)), .ref mL, .ref mT, .ref mH, .ref mY, .ref mE, .ref mG, .ref mB, .ref mO, .int (zI (tw))])), (mC, .inl (cI, 2608, .inl (zA co))), (mS, .inl (cI, 163, .inl (zA (eI sz))))] [] zh [.ref o, .int (zI (x))]) (mwI (S := (Int) × (Nat) × (Nat → Int) × (Nat → Nat)) (fun r uq => ((x < 0 ∨ 3 < x) ∧ uq.1 = 1 ∧ uq.2.1 = tc ∧ uq.2.2.1 = co ∧ uq.2.2.2 = sz) ∨ (0 ≤ x ∧ x ≤ 3 ∧ tc = 160 ∧ uq.1 = 2 ∧ uq.2.1 = tc ∧ uq.2.2.1 = co ∧ uq.2.2.2 = sz) ∨ (0 ≤ x ∧ x ≤ 3 ∧ tc < 160 ∧ uq.1 = 0 ∧ uq.2.1 = tc + 1 ∧ uq.2.2.1 = uz co (16 * tc) (-1 - x) ∧ uq.2.2.2 = un sz tc 1 ∧ r = ↑tc)) (fun uq tq => mwB (dC, dI) qcl (qty cI cZ cT cJ) (va_A [(o, .inr (6, [.int (zI (↑sy)), .ref mA, .ref mR, .ref mW, .int (zI (↑tc)), .ref mC, .ref mS, .int (zI (↑rc)), .ref mL, .ref mT, .ref mH, .ref mY, .ref mE, .ref mG, .ref mB, .ref mO, .int (zI (tw))])), (mC, .inl (cI, 2608, .inl (zA co))), (mS, .inl (cI, 163, .inl (zA (eI sz))))] zh) [(o, .inr (6, [.int (zI (↑sy)), .ref mA, .ref mR, .ref mW, .int (zI (↑uq.2.1)), .ref mC, .ref mS, .int (zI (↑rc)), .ref mL, .ref mT, .ref mH, .ref mY, .ref mE, .ref mG, .ref mB, .ref mO, .int (zI (uq.1))])), (mC, .inl (cI, 2608, .inl (zA uq.2.2.1))), (mS, .inl (cI, 163, .inl (zA (eI uq.2.2.2))))] tq) (va_A [(o, .inr (6, [.int (zI (↑sy)), .ref mA, .ref mR, .ref mW, .int (zI (↑tc)), .ref mC, .ref mS, .int (zI (↑rc)), .ref mL, .ref mT, .ref mH, .ref mY, .ref mE, .ref mG, .ref mB, .ref mO, .int (zI (tw))])), (mC, .inl (cI, 2608, .inl (zA co))), (mS, .inl (cI, 163, .inl (zA (eI sz))))] zh)) 0 0 (va_A [(o, .inr (6, [.int (zI (↑sy)), .ref mA, .ref mR, .ref mW, .int (zI (↑tc)), .ref mC, .ref mS, .int (zI (↑rc)), .ref mL, .ref mT, .ref mH, .ref mY, .ref mE, .ref mG, .ref mB, .ref mO, .int (zI (tw))])), (mC, .inl (cI, 2608, .inl (zA co))), (mS, .inl (cI, 163, .inl (zA (eI sz))))] zh) := by
  refine Met.ofW (cc := qc_M_variable) (maxL := 2) (ret := (Option.some Jvm.ClassFile.FieldType.int)) (by decide) rfl ?_
  intro pg eg sg mg args below meth cg s₁ B hml hv
  obtain ⟨rfl, hsz, hP, hF0, hK, hN, hD0, hap⟩ := hv
  have hx := B.exec
  have hb := B.bytes
  have hr := B.returns
  have hts := atoms_spec (ws := qw_M_variable) B.pre
  have hg : ∀ w ∈ gw, w.before _ sg = true := fun w h => hts w (List.mem_cons_of_mem _ h)
  have hown : sg.vm.findClass "TermOrdersModel" = some mg.cls := findClass_of_methodNamed B.named
  have hlocks := B.notSynchronized
  have hl := lv_entry ([.ref o, .int (zI (x))]) (n := 2) (Nat.le_of_ble_eq_true rfl)
  rw [lg_entry_eq]
  generalize (lg_sl ([.ref o, .int (zI (x))]) ++ List.replicate (2 - (lg_sl ([.ref o, .int (zI (x))])).length) Slot.unset).toArray = ls at hl ⊢
  subst hsz
  have hD := hD0.self (sz := sg.heap.size)
  have hFA := apw_A hap (fun k q hk => (hF0 k q hk).lt)
  generalize hAe : va_A [(o, .inr (6, [.int (zI (↑sy)), .ref mA, .ref mR, .ref mW, .int (zI (↑tc)), .ref mC, .ref mS, .int (zI (↑rc)), .ref mL, .ref mT, .ref mH, .ref mY, .ref mE, .ref mG, .ref mB, .ref mO, .int (zI (tw))])), (mC, .inl (cI, 2608, .inl (zA co))), (mS, .inl (cI, 163, .inl (zA (eI sz))))] sg.heap.size = A at hD hFA ⊢
  have hA : ∀ q : Nat, sg.heap.size ≤ q → A q := fun q h => by rw [← hAe]; exact Or.inr h
  have hS : va_S A sg.heap sg.heap [] := va_S.rf
  have hF := hF0
  have hl : lv_has ls 2 [(0, .ref o), (1, .int (zI (x)))] := hl
  refine lv_aload_n hx hb qd_M_variable_0 rfl (lv_at hl 0 rfl) ?_
  refine lv_iload_n hx hb qd_M_variable_1 rfl (lv_at hl 1 rfl) ?_
  refine zz_if_lt (tgt := 10) hx hb qd_M_variable_2 (by decide) (by omega) (fun h2 => ?_) (fun h2 => ?_)
  · skip
    refine lv_iconst (v := zI 1) hx hb qd_M_variable_10 rfl ?_
    refine lv_goto (tgt := 29) hx hb qd_M_variable_11 (by decide) ?_
    refine va_put (D := (dC, dI)) (ci := 6) (v := .int (zI (1))) (ty := .int) (C := "TermOrdersModel") (T := qT_M) (N := 17) hx hb hg qi_M qt_M qo_M qn_M hown hK hP hD hS 0 rfl rfl 16 (by decide) (hg _ wd_634) (fun _ h9 => h9) rfl (by decide +kernel) rfl rfl (Nat.le_of_ble_eq_true rfl) qd_M_variable_29 (fun H29_1 L29_1 hP hD hS => ?_)
    have hP : va_P (dC, dI) qcl [(o, .inr (6, [.int (zI (↑sy)), .ref mA, .ref mR, .ref mW, .int (zI (↑tc)), .ref mC, .ref mS, .int (zI (↑rc)), .ref mL, .ref mT, .ref mH, .ref mY, .ref mE, .ref mG, .ref mB, .ref mO, .int (zI (1))])), (mC, .inl (cI, 2608, .inl (zA co))), (mS, .inl (cI, 163, .inl (zA (eI sz))))] H29_1 := hP
    have hD : va_D A [(o, .inr (6, [.int (zI (↑sy)), .ref mA, .ref mR, .ref mW, .int (zI (↑tc)), .ref mC, .ref mS, .int (zI (↑rc)), .ref mL, .ref mT, .ref mH, .ref mY, .ref mE, .ref mG, .ref mB, .ref mO, .int (zI (1))])), (mC, .inl (cI, 2608, .inl (zA co))), (mS, .inl (cI, 163, .inl (zA (eI sz))))] := hD
    refine lv_aload_n hx hb qd_M_variable_32 rfl (lv_at hl 0 rfl) ?_
    refine va_get (D := (dC, dI)) (ci := 6) (v := .int (zI (1))) (C := "TermOrdersModel") (T := qT_M) (N := 17) hx hb hg qi_M hown hK hP 0 rfl rfl 16 (by decide) (hg _ wd_634) (fun _ h9 => h9) rfl qd_M_variable_33 ?_
    refine zz_if_eq (tgt := 41) hx hb qd_M_variable_36 (by decide) (by omega) (fun h36 => ?_) (fun h36 => ?_)
    · skip
      exfalso
      omega
    · skip
      refine lv_iconst (v := zI 0) hx hb qd_M_variable_39 rfl ?_
      exact W.iret (v := zI 0) hx hb hr (fun t9 ht9 hW9 => ⟨⟨0, (1, tc, co, sz), rfl, (Or.inl ⟨by omega, rfl, rfl, rfl, rfl⟩), mwB_i (by rw [ht9]; exact hP) (va_K.moved hW9.alike hK) hD⟩, hS.F ht9⟩) hS.2.2 qd_M_variable_40
  · skip
    refine lv_iload_n hx hb qd_M_variable_5 rfl (lv_at hl 1 rfl) ?_
    refine lv_iconst (v := zI 3) hx hb qd_M_variable_6 rfl ?_
    refine zz_icmp_le (tgt := 14) hx hb qd_M_variable_7 (by decide) (by omega) (by omega) (fun h7 => ?_) (fun h7 => ?_)
    · skip
      refine lv_aload_n hx hb qd_M_variable_14 rfl (lv_at hl 0 rfl) ?_
      refine va_get (D := (dC, dI)) (ci := 6) (v := .int (zI (↑tc))) (C := "TermOrdersModel") (T := qT_M) (N := 17) hx hb hg qi_M hown hK hP 0 rfl rfl 4 (by decide) (hg _ wd_622) (fun _ h9 => h9) rfl qd_M_variable_15 ?_
      refine lv_sipush (v := zI 160) hx hb qd_M_variable_18 (by decide) ?_
      refine zz_icmp_ne (tgt := 28) hx hb qd_M_variable_21 (by decide) (by omega) (by omega) (fun h21 => ?_) (fun h21 => ?_)
      · skip
        refine lv_iconst (v := zI 0) hx hb qd_M_variable_28 rfl ?_
        refine va_put (D := (dC, dI)) (ci := 6) (v := .int (zI (0))) (ty := .int) (C := "TermOrdersModel") (T := qT_M) (N := 17) hx hb hg qi_M qt_M qo_M qn_M hown hK hP hD hS 0 rfl rfl 16 (by decide) (hg _ wd_634) (fun _ h9 => h9) rfl (by decide +kernel) rfl rfl (Nat.le_of_ble_eq_true rfl) qd_M_variable_29 (fun H29_2 L29_2 hP hD hS => ?_)
        have hP : va_P (dC, dI) qcl [(o, .inr (6, [.int (zI (↑sy)), .ref mA, .ref mR, .ref mW, .int (zI (↑tc)), .ref mC, .ref mS, .int (zI (↑rc)), .ref mL, .ref mT, .ref mH, .ref mY, .ref mE, .ref mG, .ref mB, .ref mO, .int (zI (0))])), (mC, .inl (cI, 2608, .inl (zA co))), (mS, .inl (cI, 163, .inl (zA (eI sz))))] H29_2 := hP
        have hD : va_D A [(o, .inr (6, [.int (zI (↑sy)), .ref mA, .ref mR, .ref mW, .int (zI (↑tc)), .ref mC, .ref mS, .int (zI (↑rc)), .ref mL, .ref mT, .ref mH, .ref mY, .ref mE, .ref mG, .ref mB, .ref mO, .int (zI (0))])), (mC, .inl (cI, 2608, .inl (zA co))), (mS, .inl (cI, 163, .inl (zA (eI sz))))] := hD
        refine lv_aload_n hx hb qd_M_variable_32 rfl (lv_at hl 0 rfl) ?_
        refine va_get (D := (dC, dI)) (ci := 6) (v := .int (zI (0))) (C := "TermOrdersModel") (T := qT_M) (N := 17) hx hb hg qi_M hown hK hP 0 rfl rfl 16 (by decide) (hg _ wd_634) (fun _ h9 => h9) rfl qd_M_variable_33 ?_
        refine zz_if_eq (tgt := 41) hx hb qd_M_variable_36 (by decide) (by omega) (fun h36 => ?_) (fun h36 => ?_)
        · skip
          refine lv_aload_n hx hb qd_M_variable_41 rfl (lv_at hl 0 rfl) ?_
          refine va_get (D := (dC, dI)) (ci := 6) (v := .ref mC) (C := "TermOrdersModel") (T := qT_M) (N := 17) hx hb hg qi_M hown hK hP 0 rfl rfl 5 (by decide) (hg _ wd_623) (fun _ h9 => h9) rfl qd_M_variable_42 ?_
          refine lv_bipush (v := zI 16) hx hb qd_M_variable_45 (by decide) ?_
          refine lv_aload_n hx hb qd_M_variable_47 rfl (lv_at hl 0 rfl) ?_
          refine va_get (D := (dC, dI)) (ci := 6) (v := .int (zI (↑tc))) (C := "TermOrdersModel") (T := qT_M) (N := 17) hx hb hg qi_M hown hK hP 0 rfl rfl 4 (by decide) (hg _ wd_622) (fun _ h9 => h9) rfl qd_M_variable_48 ?_
          refine zz_imul hx hb (16 * (↑tc)) rfl qd_M_variable_51 ?_
          refine lv_iconst (v := zI (-1)) hx hb qd_M_variable_52 rfl ?_
          refine lv_iload_n hx hb qd_M_variable_53 rfl (lv_at hl 1 rfl) ?_
          refine zz_isub hx hb (((-1)) - x) rfl qd_M_variable_54 ?_
          refine zz_iast hx hb hK hP hD hS 1 0 rfl rfl (16 * tc) (by omega) (by omega) (by omega) qd_M_variable_55 (fun H55_3 L55_3 hP hD hS => ?_)
          have hP : va_P (dC, dI) qcl [(o, .inr (6, [.int (zI (↑sy)), .ref mA, .ref mR, .ref mW, .int (zI (↑tc)), .ref mC, .ref mS, .int (zI (↑rc)), .ref mL, .ref mT, .ref mH, .ref mY, .ref mE, .ref mG, .ref mB, .ref mO, .int (zI (0))])), (mC, .inl (cI, 2608, .inl (zA (uz co (16 * tc) (((-1)) - x))))), (mS, .inl (cI, 163, .inl (zA (eI sz))))] H55_3 := hP
          have hD : va_D A [(o, .inr (6, [.int (zI (↑sy)), .ref mA, .ref mR, .ref mW, .int (zI (↑tc)), .ref mC, .ref mS, .int (zI (↑rc)), .ref mL, .ref mT, .ref mH, .ref mY, .ref mE, .ref mG, .ref mB, .ref mO, .int (zI (0))])), (mC, .inl (cI, 2608, .inl (zA (uz co (16 * tc) (((-1)) - x))))), (mS, .inl (cI, 163, .inl (zA (eI sz))))] := hD
          refine lv_aload_n hx hb qd_M_variable_56 rfl (lv_at hl 0 rfl) ?_
          refine va_get (D := (dC, dI)) (ci := 6) (v := .ref mS) (C := "TermOrdersModel") (T := qT_M) (N := 17) hx hb hg qi_M hown hK hP 0 rfl rfl 6 (by decide) (hg _ wd_624) (fun _ h9 => h9) rfl qd_M_variable_57 ?_
          refine lv_aload_n hx hb qd_M_variable_60 rfl (lv_at hl 0 rfl) ?_
          refine va_get (D := (dC, dI)) (ci := 6) (v := .int (zI (↑tc))) (C := "TermOrdersModel") (T := qT_M) (N := 17) hx hb hg qi_M hown hK hP 0 rfl rfl 4 (by decide) (hg _ wd_622) (fun _ h9 => h9) rfl qd_M_variable_61 ?_
          refine lv_iconst (v := zI 1) hx hb qd_M_variable_64 rfl ?_
          refine zz_east hx hb hK hP hD hS 2 0 rfl rfl tc rfl (by omega) (by omega) 1 rfl qd_M_variable_65 (fun H65_4 L65_4 hP hD hS => ?_)
          have hP : va_P (dC, dI) qcl [(o, .inr (6, [.int (zI (↑sy)), .ref mA, .ref mR, .ref mW, .int (zI (↑tc)), .ref mC, .ref mS, .int (zI (↑rc)), .ref mL, .ref mT, .ref mH, .ref mY, .ref mE, .ref mG, .ref mB, .ref mO, .int (zI (0))])), (mC, .inl (cI, 2608, .inl (zA (uz co (16 * tc) (((-1)) - x))))), (mS, .inl (cI, 163, .inl (zA (eI (un sz tc 1)))))] H65_4 := hP
          have hD : va_D A [(o, .inr (6, [.int (zI (↑sy)), .ref mA, .ref mR, .ref mW, .int (zI (↑tc)), .ref mC, .ref mS, .int (zI (↑rc)), .ref mL, .ref mT, .ref mH, .ref mY, .ref mE, .ref mG, .ref mB, .ref mO, .int (zI (0))])), (mC, .inl (cI, 2608, .inl (zA (uz co (16 * tc) (((-1)) - x))))), (mS, .inl (cI, 163, .inl (zA (eI (un sz tc 1)))))] := hD
          refine lv_aload_n hx hb qd_M_variable_66 rfl (lv_at hl 0 rfl) ?_
          refine lv_dup hx hb qd_M_variable_67 rfl ?_
          refine va_get (D := (dC, dI)) (ci := 6) (v := .int (zI (↑tc))) (C := "TermOrdersModel") (T := qT_M) (N := 17) hx hb hg qi_M hown hK hP 0 rfl rfl 4 (by decide) (hg _ wd_622) (fun _ h9 => h9) rfl qd_M_variable_68 ?_
          refine lv_iconst (v := zI 1) hx hb qd_M_variable_71 rfl ?_
          refine zz_iadd hx hb (↑(tc + 1)) (by omega) qd_M_variable_72 ?_
          refine va_put (D := (dC, dI)) (ci := 6) (v := .int (zI (↑(tc + 1)))) (ty := .int) (C := "TermOrdersModel") (T := qT_M) (N := 17) hx hb hg qi_M qt_M qo_M qn_M hown hK hP hD hS 0 rfl rfl 4 (by decide) (hg _ wd_622) (fun _ h9 => h9) rfl (by decide +kernel) rfl rfl (Nat.le_of_ble_eq_true rfl) qd_M_variable_73 (fun H73_5 L73_5 hP hD hS => ?_)
          have hP : va_P (dC, dI) qcl [(o, .inr (6, [.int (zI (↑sy)), .ref mA, .ref mR, .ref mW, .int (zI (↑(tc + 1))), .ref mC, .ref mS, .int (zI (↑rc)), .ref mL, .ref mT, .ref mH, .ref mY, .ref mE, .ref mG, .ref mB, .ref mO, .int (zI (0))])), (mC, .inl (cI, 2608, .inl (zA (uz co (16 * tc) (((-1)) - x))))), (mS, .inl (cI, 163, .inl (zA (eI (un sz tc 1)))))] H73_5 := hP
          have hD : va_D A [(o, .inr (6, [.int (zI (↑sy)), .ref mA, .ref mR, .ref mW, .int (zI (↑(tc + 1))), .ref mC, .ref mS, .int (zI (↑rc)), .ref mL, .ref mT, .ref mH, .ref mY, .ref mE, .ref mG, .ref mB, .ref mO, .int (zI (0))])), (mC, .inl (cI, 2608, .inl (zA (uz co (16 * tc) (((-1)) - x))))), (mS, .inl (cI, 163, .inl (zA (eI (un sz tc 1)))))] := hD
          refine lv_aload_n hx hb qd_M_variable_76 rfl (lv_at hl 0 rfl) ?_
          refine va_get (D := (dC, dI)) (ci := 6) (v := .int (zI (↑(tc + 1)))) (C := "TermOrdersModel") (T := qT_M) (N := 17) hx hb hg qi_M hown hK hP 0 rfl rfl 4 (by decide) (hg _ wd_622) (fun _ h9 => h9) rfl qd_M_variable_77 ?_
          refine lv_iconst (v := zI 1) hx hb qd_M_variable_80 rfl ?_
          refine zz_isub hx hb (↑tc) (by omega) qd_M_variable_81 ?_
          exact W.iret (v := zI (↑tc)) hx hb hr (fun t9 ht9 hW9 => ⟨⟨↑tc, (0, tc + 1, uz co (16 * tc) (-1 - x), un sz tc 1), rfl, (Or.inr (Or.inr ⟨by omega, by omega, by omega, rfl, rfl, rfl, rfl, rfl⟩)), mwB_i (by rw [ht9]; exact hP) (va_K.moved hW9.alike hK) hD⟩, hS.F ht9⟩) hS.2.2 qd_M_variable_82
        · skip
          exfalso
          omega
      · skip
        refine lv_iconst (v := zI 2) hx hb qd_M_variable_24 rfl ?_
        refine lv_goto (tgt := 29) hx hb qd_M_variable_25 (by decide) ?_
        refine va_put (D := (dC, dI)) (ci := 6) (v := .int (zI (2))) (ty := .int) (C := "TermOrdersModel") (T := qT_M) (N := 17) hx hb hg qi_M qt_M qo_M qn_M hown hK hP hD hS 0 rfl rfl 16 (by decide) (hg _ wd_634) (fun _ h9 => h9) rfl (by decide +kernel) rfl rfl (Nat.le_of_ble_eq_true rfl) qd_M_variable_29 (fun H29_6 L29_6 hP hD hS => ?_)
        have hP : va_P (dC, dI) qcl [(o, .inr (6, [.int (zI (↑sy)), .ref mA, .ref mR, .ref mW, .int (zI (↑tc)), .ref mC, .ref mS, .int (zI (↑rc)), .ref mL, .ref mT, .ref mH, .ref mY, .ref mE, .ref mG, .ref mB, .ref mO, .int (zI (2))])), (mC, .inl (cI, 2608, .inl (zA co))), (mS, .inl (cI, 163, .inl (zA (eI sz))))] H29_6 := hP
        have hD : va_D A [(o, .inr (6, [.int (zI (↑sy)), .ref mA, .ref mR, .ref mW, .int (zI (↑tc)), .ref mC, .ref mS, .int (zI (↑rc)), .ref mL, .ref mT, .ref mH, .ref mY, .ref mE, .ref mG, .ref mB, .ref mO, .int (zI (2))])), (mC, .inl (cI, 2608, .inl (zA co))), (mS, .inl (cI, 163, .inl (zA (eI sz))))] := hD
        refine lv_aload_n hx hb qd_M_variable_32 rfl (lv_at hl 0 rfl) ?_
        refine va_get (D := (dC, dI)) (ci := 6) (v := .int (zI (2))) (C := "TermOrdersModel") (T := qT_M) (N := 17) hx hb hg qi_M hown hK hP 0 rfl rfl 16 (by decide) (hg _ wd_634) (fun _ h9 => h9) rfl qd_M_variable_33 ?_
        refine zz_if_eq (tgt := 41) hx hb qd_M_variable_36 (by decide) (by omega) (fun h36 => ?_) (fun h36 => ?_)
        · skip
          exfalso
          omega
        · skip
          refine lv_iconst (v := zI 0) hx hb qd_M_variable_39 rfl ?_
          exact W.iret (v := zI 0) hx hb hr (fun t9 ht9 hW9 => ⟨⟨0, (2, tc, co, sz), rfl, (Or.inr (Or.inl ⟨by omega, by omega, by omega, rfl, rfl, rfl, rfl⟩)), mwB_i (by rw [ht9]; exact hP) (va_K.moved hW9.alike hK) hD⟩, hS.F ht9⟩) hS.2.2 qd_M_variable_40
    · skip
      refine lv_iconst (v := zI 1) hx hb qd_M_variable_10 rfl ?_
      refine lv_goto (tgt := 29) hx hb qd_M_variable_11 (by decide) ?_
      refine va_put (D := (dC, dI)) (ci := 6) (v := .int (zI (1))) (ty := .int) (C := "TermOrdersModel") (T := qT_M) (N := 17) hx hb hg qi_M qt_M qo_M qn_M hown hK hP hD hS 0 rfl rfl 16 (by decide) (hg _ wd_634) (fun _ h9 => h9) rfl (by decide +kernel) rfl rfl (Nat.le_of_ble_eq_true rfl) qd_M_variable_29 (fun H29_7 L29_7 hP hD hS => ?_)
      have hP : va_P (dC, dI) qcl [(o, .inr (6, [.int (zI (↑sy)), .ref mA, .ref mR, .ref mW, .int (zI (↑tc)), .ref mC, .ref mS, .int (zI (↑rc)), .ref mL, .ref mT, .ref mH, .ref mY, .ref mE, .ref mG, .ref mB, .ref mO, .int (zI (1))])), (mC, .inl (cI, 2608, .inl (zA co))), (mS, .inl (cI, 163, .inl (zA (eI sz))))] H29_7 := hP
      have hD : va_D A [(o, .inr (6, [.int (zI (↑sy)), .ref mA, .ref mR, .ref mW, .int (zI (↑tc)), .ref mC, .ref mS, .int (zI (↑rc)), .ref mL, .ref mT, .ref mH, .ref mY, .ref mE, .ref mG, .ref mB, .ref mO, .int (zI (1))])), (mC, .inl (cI, 2608, .inl (zA co))), (mS, .inl (cI, 163, .inl (zA (eI sz))))] := hD
      refine lv_aload_n hx hb qd_M_variable_32 rfl (lv_at hl 0 rfl) ?_
      refine va_get (D := (dC, dI)) (ci := 6) (v := .int (zI (1))) (C := "TermOrdersModel") (T := qT_M) (N := 17) hx hb hg qi_M hown hK hP 0 rfl rfl 16 (by decide) (hg _ wd_634) (fun _ h9 => h9) rfl qd_M_variable_33 ?_
      refine zz_if_eq (tgt := 41) hx hb qd_M_variable_36 (by decide) (by omega) (fun h36 => ?_) (fun h36 => ?_)
      · skip
        exfalso
        omega
      · skip
        refine lv_iconst (v := zI 0) hx hb qd_M_variable_39 rfl ?_
        exact W.iret (v := zI 0) hx hb hr (fun t9 ht9 hW9 => ⟨⟨0, (1, tc, co, sz), rfl, (Or.inl ⟨by omega, rfl, rfl, rfl, rfl⟩), mwB_i (by rw [ht9]; exact hP) (va_K.moved hW9.alike hK) hD⟩, hS.F ht9⟩) hS.2.2 qd_M_variable_40
set_option maxHeartbeats 4000000 in
set_option maxRecDepth 100000 in
theorem c_M_order (l : Launch) (dC : Nat → ClassId) (dI : Nat → Nat → Nat) (cI cZ cT cJ : ClassId) (o mA mR mW mC mS mL mT mH mY mE mG mB mO sy tc rc : Nat) (tw : Int) (ar rk wt co : Nat → Int) (sz lf rg : Nat → Nat) (hi hv : Nat → Int) (ef : Nat → Nat) (gr : Nat → Bool) (bd ol : Nat → Int) (x y z : Int) (zh : Nat) (hsy : sy ≤ 5) (h32x : -2147483648 ≤ x ∧ x < 2147483648) (h32y : -2147483648 ≤ y ∧ y < 2147483648) (h32z : -2147483648 ≤ z ∧ z < 2147483648) : Met l qy_M_order qw_M_order ({ frames := 1, cells := 0, slots := 0, locals := 21 }) (mwP (dC, dI) qcl (qty cI cZ cT cJ) nwL [(o, .inr (6, [.int (zI (↑sy)), .ref mA, .ref mR, .ref mW, .int (zI (↑tc)), .ref mC, .ref mS, .int (zI (↑rc)), .ref mL, .ref mT, .ref mH, .ref mY, .ref mE, .ref mG, .ref mB, .ref mO, .int (zI (tw))])), (mR, .inl (cI, 5, .inl (zA rk))), (mW, .inl (cI, 5, .inl (zA wt)))] [] zh [.ref o, .int (zI (x)), .int (zI (y)), .int (zI (z))]) (va_Qv (S := (Int) × (Nat → Int) × (Nat → Int)) (fun uq => (¬ (0 ≤ x ∧ x < sy ∧ 0 ≤ y ∧ y ≤ 4 ∧ 0 ≤ z ∧ z ≤ 9) ∧ uq.1 = 1 ∧ uq.2.1 = rk ∧ uq.2.2 = wt) ∨ ((0 ≤ x ∧ x < sy ∧ 0 ≤ y ∧ y ≤ 4 ∧ 0 ≤ z ∧ z ≤ 9) ∧ uq.1 = 0 ∧ uq.2.1 = uz rk x.toNat y ∧ uq.2.2 = uz wt x.toNat z)) (fun uq tq => mwB (dC, dI) qcl (qty cI cZ cT cJ) (va_A [(o, .inr (6, [.int (zI (↑sy)), .ref mA, .ref mR, .ref mW, .int (zI (↑tc)), .ref mC, .ref mS, .int (zI (↑rc)), .ref mL, .ref mT, .ref mH, .ref mY, .ref mE, .ref mG, .ref mB, .ref mO, .int (zI (tw))])), (mR, .inl (cI, 5, .inl (zA rk))), (mW, .inl (cI, 5, .inl (zA wt)))] zh) [(o, .inr (6, [.int (zI (↑sy)), .ref mA, .ref mR, .ref mW, .int (zI (↑tc)), .ref mC, .ref mS, .int (zI (↑rc)), .ref mL, .ref mT, .ref mH, .ref mY, .ref mE, .ref mG, .ref mB, .ref mO, .int (zI (uq.1))])), (mR, .inl (cI, 5, .inl (zA uq.2.1))), (mW, .inl (cI, 5, .inl (zA uq.2.2)))] tq) (va_A [(o, .inr (6, [.int (zI (↑sy)), .ref mA, .ref mR, .ref mW, .int (zI (↑tc)), .ref mC, .ref mS, .int (zI (↑rc)), .ref mL, .ref mT, .ref mH, .ref mY, .ref mE, .ref mG, .ref mB, .ref mO, .int (zI (tw))])), (mR, .inl (cI, 5, .inl (zA rk))), (mW, .inl (cI, 5, .inl (zA wt)))] zh)) 0 0 (va_A [(o, .inr (6, [.int (zI (↑sy)), .ref mA, .ref mR, .ref mW, .int (zI (↑tc)), .ref mC, .ref mS, .int (zI (↑rc)), .ref mL, .ref mT, .ref mH, .ref mY, .ref mE, .ref mG, .ref mB, .ref mO, .int (zI (tw))])), (mR, .inl (cI, 5, .inl (zA rk))), (mW, .inl (cI, 5, .inl (zA wt)))] zh) := by
  refine Met.ofW (cc := qc_M_order) (maxL := 4) (ret := (Option.none : Option Jvm.ClassFile.FieldType)) (by decide) rfl ?_
  intro pg eg sg mg args below meth cg s₁ B hml hv
  obtain ⟨rfl, hsz, hP, hF0, hK, hN, hD0, hap⟩ := hv
  have hx := B.exec
  have hb := B.bytes
  have hr := B.returns
  have hts := atoms_spec (ws := qw_M_order) B.pre
  have hg : ∀ w ∈ gw, w.before _ sg = true := fun w h => hts w (List.mem_cons_of_mem _ h)
  have hown : sg.vm.findClass "TermOrdersModel" = some mg.cls := findClass_of_methodNamed B.named
  have hlocks := B.notSynchronized
  have hl := lv_entry ([.ref o, .int (zI (x)), .int (zI (y)), .int (zI (z))]) (n := 4) (Nat.le_of_ble_eq_true rfl)
  rw [lg_entry_eq]
  generalize (lg_sl ([.ref o, .int (zI (x)), .int (zI (y)), .int (zI (z))]) ++ List.replicate (4 - (lg_sl ([.ref o, .int (zI (x)), .int (zI (y)), .int (zI (z))])).length) Slot.unset).toArray = ls at hl ⊢
  subst hsz
  have hD := hD0.self (sz := sg.heap.size)
  have hFA := apw_A hap (fun k q hk => (hF0 k q hk).lt)
  generalize hAe : va_A [(o, .inr (6, [.int (zI (↑sy)), .ref mA, .ref mR, .ref mW, .int (zI (↑tc)), .ref mC, .ref mS, .int (zI (↑rc)), .ref mL, .ref mT, .ref mH, .ref mY, .ref mE, .ref mG, .ref mB, .ref mO, .int (zI (tw))])), (mR, .inl (cI, 5, .inl (zA rk))), (mW, .inl (cI, 5, .inl (zA wt)))] sg.heap.size = A at hD hFA ⊢
  have hA : ∀ q : Nat, sg.heap.size ≤ q → A q := fun q h => by rw [← hAe]; exact Or.inr h
  have hS : va_S A sg.heap sg.heap [] := va_S.rf
  have hF := hF0
  have hl : lv_has ls 4 [(0, .ref o), (1, .int (zI (x))), (2, .int (zI (y))), (3, .int (zI (z)))] := hl
  refine lv_aload_n hx hb qd_M_order_0 rfl (lv_at hl 0 rfl) ?_
  refine lv_aload_n hx hb qd_M_order_1 rfl (lv_at hl 0 rfl) ?_
  refine lv_iload_n hx hb qd_M_order_2 rfl (lv_at hl 1 rfl) ?_
  refine rd_callB (W.runV (As := [.int (zI (x))]) (rest := [.ref o]) ⟨hx, hb, hml, hown, hg⟩ (c_M_isSymbol l dC dI cI cZ cT cJ o mA mR mW mC mS mL mT mH mY mE mG mB mO sy tc rc tw ar rk wt co sz lf rg hi hv ef gr bd ol x hsy h32x) ⟨callB_of 1 hg (gw_ok (fun _ h => h) wd_689) rfl rfl rfl (hg _ wd_6) (hg _ wd_686) (by decide +kernel) ⟨Nat.le_of_ble_eq_true rfl, Nat.le_of_ble_eq_true rfl⟩, hg _ wd_688, hg _ se_M_isSymbol⟩ (rd_preV (va_recv (q0 := 0) hK hP rfl rfl) (pw_c (q := (o, .inr (6, [.int (zI (↑sy)), .ref mA, .ref mR, .ref mW, .int (zI (↑tc)), .ref mC, .ref mS, .int (zI (↑rc)), .ref mL, .ref mT, .ref mH, .ref mY, .ref mE, .ref mG, .ref mB, .ref mO, .int (zI (tw))]))) hP 0 rfl (pw_nil)) hK hN) rfl rfl hl.1 rfl (lv_room (Nat.le_of_ble_eq_true rfl)) qd_M_order_3 ⟨Nat.le_of_ble_eq_true rfl, Nat.le_of_ble_eq_true rfl⟩) (fun r3 hr3 => ?_)
  refine zz_ifeqB (tgt := 28) hx hb qd_M_order_6 (by decide) (fun h6 => ?_) (fun h6 => ?_)
  · skip
    have hns : ¬ (0 ≤ x ∧ x < sy) := fun z9 => by rw [hr3.mpr z9] at h6; exact Bool.noConfusion h6
    refine lv_iconst (v := zI 1) hx hb qd_M_order_28 rfl ?_
    refine lv_goto (tgt := 33) hx hb qd_M_order_29 (by decide) ?_
    refine va_put (D := (dC, dI)) (ci := 6) (v := .int (zI (1))) (ty := .int) (C := "TermOrdersModel") (T := qT_M) (N := 17) hx hb hg qi_M qt_M qo_M qn_M hown hK hP hD hS 0 rfl rfl 16 (by decide) (hg _ wd_634) (fun _ h9 => h9) rfl (by decide +kernel) rfl rfl (Nat.le_of_ble_eq_true rfl) qd_M_order_33 (fun H33_1 L33_1 hP hD hS => ?_)
    have hP : va_P (dC, dI) qcl [(o, .inr (6, [.int (zI (↑sy)), .ref mA, .ref mR, .ref mW, .int (zI (↑tc)), .ref mC, .ref mS, .int (zI (↑rc)), .ref mL, .ref mT, .ref mH, .ref mY, .ref mE, .ref mG, .ref mB, .ref mO, .int (zI (1))])), (mR, .inl (cI, 5, .inl (zA rk))), (mW, .inl (cI, 5, .inl (zA wt)))] H33_1 := hP
    have hD : va_D A [(o, .inr (6, [.int (zI (↑sy)), .ref mA, .ref mR, .ref mW, .int (zI (↑tc)), .ref mC, .ref mS, .int (zI (↑rc)), .ref mL, .ref mT, .ref mH, .ref mY, .ref mE, .ref mG, .ref mB, .ref mO, .int (zI (1))])), (mR, .inl (cI, 5, .inl (zA rk))), (mW, .inl (cI, 5, .inl (zA wt)))] := hD
    refine lv_aload_n hx hb qd_M_order_36 rfl (lv_at hl 0 rfl) ?_
    refine va_get (D := (dC, dI)) (ci := 6) (v := .int (zI (1))) (C := "TermOrdersModel") (T := qT_M) (N := 17) hx hb hg qi_M hown hK hP 0 rfl rfl 16 (by decide) (hg _ wd_634) (fun _ h9 => h9) rfl qd_M_order_37 ?_
    refine zz_if_ne (tgt := 57) hx hb qd_M_order_40 (by decide) (by omega) (fun h40 => ?_) (fun h40 => ?_)
    · skip
      exact W.vret hx hb hr (fun t9 ht9 hW9 => ⟨⟨(1, rk, wt), rfl, (Or.inl ⟨by omega, rfl, rfl, rfl⟩), mwB_i (by rw [ht9]; exact hP) (va_K.moved hW9.alike hK) hD⟩, hS.F ht9⟩) hS.2.2 qd_M_order_57
    · skip
      exfalso
      omega
  · skip
    have hys := hr3.mp h6
    refine lv_iload_n hx hb qd_M_order_9 rfl (lv_at hl 2 rfl) ?_
    refine zz_if_lt (tgt := 28) hx hb qd_M_order_10 (by decide) (by omega) (fun h10 => ?_) (fun h10 => ?_)
    · skip
      refine lv_iconst (v := zI 1) hx hb qd_M_order_28 rfl ?_
      refine lv_goto (tgt := 33) hx hb qd_M_order_29 (by decide) ?_
      refine va_put (D := (dC, dI)) (ci := 6) (v := .int (zI (1))) (ty := .int) (C := "TermOrdersModel") (T := qT_M) (N := 17) hx hb hg qi_M qt_M qo_M qn_M hown hK hP hD hS 0 rfl rfl 16 (by decide) (hg _ wd_634) (fun _ h9 => h9) rfl (by decide +kernel) rfl rfl (Nat.le_of_ble_eq_true rfl) qd_M_order_33 (fun H33_2 L33_2 hP hD hS => ?_)
      have hP : va_P (dC, dI) qcl [(o, .inr (6, [.int (zI (↑sy)), .ref mA, .ref mR, .ref mW, .int (zI (↑tc)), .ref mC, .ref mS, .int (zI (↑rc)), .ref mL, .ref mT, .ref mH, .ref mY, .ref mE, .ref mG, .ref mB, .ref mO, .int (zI (1))])), (mR, .inl (cI, 5, .inl (zA rk))), (mW, .inl (cI, 5, .inl (zA wt)))] H33_2 := hP
      have hD : va_D A [(o, .inr (6, [.int (zI (↑sy)), .ref mA, .ref mR, .ref mW, .int (zI (↑tc)), .ref mC, .ref mS, .int (zI (↑rc)), .ref mL, .ref mT, .ref mH, .ref mY, .ref mE, .ref mG, .ref mB, .ref mO, .int (zI (1))])), (mR, .inl (cI, 5, .inl (zA rk))), (mW, .inl (cI, 5, .inl (zA wt)))] := hD
      refine lv_aload_n hx hb qd_M_order_36 rfl (lv_at hl 0 rfl) ?_
      refine va_get (D := (dC, dI)) (ci := 6) (v := .int (zI (1))) (C := "TermOrdersModel") (T := qT_M) (N := 17) hx hb hg qi_M hown hK hP 0 rfl rfl 16 (by decide) (hg _ wd_634) (fun _ h9 => h9) rfl qd_M_order_37 ?_
      refine zz_if_ne (tgt := 57) hx hb qd_M_order_40 (by decide) (by omega) (fun h40 => ?_) (fun h40 => ?_)
      · skip
        exact W.vret hx hb hr (fun t9 ht9 hW9 => ⟨⟨(1, rk, wt), rfl, (Or.inl ⟨by omega, rfl, rfl, rfl⟩), mwB_i (by rw [ht9]; exact hP) (va_K.moved hW9.alike hK) hD⟩, hS.F ht9⟩) hS.2.2 qd_M_order_57
      · skip
        exfalso
        omega
    · skip
      refine lv_iload_n hx hb qd_M_order_13 rfl (lv_at hl 2 rfl) ?_
      refine lv_iconst (v := zI 4) hx hb qd_M_order_14 rfl ?_
      refine zz_icmp_gt (tgt := 28) hx hb qd_M_order_15 (by decide) (by omega) (by omega) (fun h15 => ?_) (fun h15 => ?_)
      · skip
        refine lv_iconst (v := zI 1) hx hb qd_M_order_28 rfl ?_
        refine lv_goto (tgt := 33) hx hb qd_M_order_29 (by decide) ?_
        refine va_put (D := (dC, dI)) (ci := 6) (v := .int (zI (1))) (ty := .int) (C := "TermOrdersModel") (T := qT_M) (N := 17) hx hb hg qi_M qt_M qo_M qn_M hown hK hP hD hS 0 rfl rfl 16 (by decide) (hg _ wd_634) (fun _ h9 => h9) rfl (by decide +kernel) rfl rfl (Nat.le_of_ble_eq_true rfl) qd_M_order_33 (fun H33_3 L33_3 hP hD hS => ?_)
        have hP : va_P (dC, dI) qcl [(o, .inr (6, [.int (zI (↑sy)), .ref mA, .ref mR, .ref mW, .int (zI (↑tc)), .ref mC, .ref mS, .int (zI (↑rc)), .ref mL, .ref mT, .ref mH, .ref mY, .ref mE, .ref mG, .ref mB, .ref mO, .int (zI (1))])), (mR, .inl (cI, 5, .inl (zA rk))), (mW, .inl (cI, 5, .inl (zA wt)))] H33_3 := hP
        have hD : va_D A [(o, .inr (6, [.int (zI (↑sy)), .ref mA, .ref mR, .ref mW, .int (zI (↑tc)), .ref mC, .ref mS, .int (zI (↑rc)), .ref mL, .ref mT, .ref mH, .ref mY, .ref mE, .ref mG, .ref mB, .ref mO, .int (zI (1))])), (mR, .inl (cI, 5, .inl (zA rk))), (mW, .inl (cI, 5, .inl (zA wt)))] := hD
        refine lv_aload_n hx hb qd_M_order_36 rfl (lv_at hl 0 rfl) ?_
        refine va_get (D := (dC, dI)) (ci := 6) (v := .int (zI (1))) (C := "TermOrdersModel") (T := qT_M) (N := 17) hx hb hg qi_M hown hK hP 0 rfl rfl 16 (by decide) (hg _ wd_634) (fun _ h9 => h9) rfl qd_M_order_37 ?_
        refine zz_if_ne (tgt := 57) hx hb qd_M_order_40 (by decide) (by omega) (fun h40 => ?_) (fun h40 => ?_)
        · skip
          exact W.vret hx hb hr (fun t9 ht9 hW9 => ⟨⟨(1, rk, wt), rfl, (Or.inl ⟨by omega, rfl, rfl, rfl⟩), mwB_i (by rw [ht9]; exact hP) (va_K.moved hW9.alike hK) hD⟩, hS.F ht9⟩) hS.2.2 qd_M_order_57
        · skip
          exfalso
          omega
      · skip
        refine lv_iload_n hx hb qd_M_order_18 rfl (lv_at hl 3 rfl) ?_
        refine zz_if_lt (tgt := 28) hx hb qd_M_order_19 (by decide) (by omega) (fun h19 => ?_) (fun h19 => ?_)
        · skip
          refine lv_iconst (v := zI 1) hx hb qd_M_order_28 rfl ?_
          refine lv_goto (tgt := 33) hx hb qd_M_order_29 (by decide) ?_
          refine va_put (D := (dC, dI)) (ci := 6) (v := .int (zI (1))) (ty := .int) (C := "TermOrdersModel") (T := qT_M) (N := 17) hx hb hg qi_M qt_M qo_M qn_M hown hK hP hD hS 0 rfl rfl 16 (by decide) (hg _ wd_634) (fun _ h9 => h9) rfl (by decide +kernel) rfl rfl (Nat.le_of_ble_eq_true rfl) qd_M_order_33 (fun H33_4 L33_4 hP hD hS => ?_)
          have hP : va_P (dC, dI) qcl [(o, .inr (6, [.int (zI (↑sy)), .ref mA, .ref mR, .ref mW, .int (zI (↑tc)), .ref mC, .ref mS, .int (zI (↑rc)), .ref mL, .ref mT, .ref mH, .ref mY, .ref mE, .ref mG, .ref mB, .ref mO, .int (zI (1))])), (mR, .inl (cI, 5, .inl (zA rk))), (mW, .inl (cI, 5, .inl (zA wt)))] H33_4 := hP
          have hD : va_D A [(o, .inr (6, [.int (zI (↑sy)), .ref mA, .ref mR, .ref mW, .int (zI (↑tc)), .ref mC, .ref mS, .int (zI (↑rc)), .ref mL, .ref mT, .ref mH, .ref mY, .ref mE, .ref mG, .ref mB, .ref mO, .int (zI (1))])), (mR, .inl (cI, 5, .inl (zA rk))), (mW, .inl (cI, 5, .inl (zA wt)))] := hD
          refine lv_aload_n hx hb qd_M_order_36 rfl (lv_at hl 0 rfl) ?_
          refine va_get (D := (dC, dI)) (ci := 6) (v := .int (zI (1))) (C := "TermOrdersModel") (T := qT_M) (N := 17) hx hb hg qi_M hown hK hP 0 rfl rfl 16 (by decide) (hg _ wd_634) (fun _ h9 => h9) rfl qd_M_order_37 ?_
          refine zz_if_ne (tgt := 57) hx hb qd_M_order_40 (by decide) (by omega) (fun h40 => ?_) (fun h40 => ?_)
          · skip
            exact W.vret hx hb hr (fun t9 ht9 hW9 => ⟨⟨(1, rk, wt), rfl, (Or.inl ⟨by omega, rfl, rfl, rfl⟩), mwB_i (by rw [ht9]; exact hP) (va_K.moved hW9.alike hK) hD⟩, hS.F ht9⟩) hS.2.2 qd_M_order_57
          · skip
            exfalso
            omega
        · skip
          refine lv_iload_n hx hb qd_M_order_22 rfl (lv_at hl 3 rfl) ?_
          refine lv_bipush (v := zI 9) hx hb qd_M_order_23 (by decide) ?_
          refine zz_icmp_le (tgt := 32) hx hb qd_M_order_25 (by decide) (by omega) (by omega) (fun h25 => ?_) (fun h25 => ?_)
          · skip
            refine lv_iconst (v := zI 0) hx hb qd_M_order_32 rfl ?_
            refine va_put (D := (dC, dI)) (ci := 6) (v := .int (zI (0))) (ty := .int) (C := "TermOrdersModel") (T := qT_M) (N := 17) hx hb hg qi_M qt_M qo_M qn_M hown hK hP hD hS 0 rfl rfl 16 (by decide) (hg _ wd_634) (fun _ h9 => h9) rfl (by decide +kernel) rfl rfl (Nat.le_of_ble_eq_true rfl) qd_M_order_33 (fun H33_5 L33_5 hP hD hS => ?_)
            have hP : va_P (dC, dI) qcl [(o, .inr (6, [.int (zI (↑sy)), .ref mA, .ref mR, .ref mW, .int (zI (↑tc)), .ref mC, .ref mS, .int (zI (↑rc)), .ref mL, .ref mT, .ref mH, .ref mY, .ref mE, .ref mG, .ref mB, .ref mO, .int (zI (0))])), (mR, .inl (cI, 5, .inl (zA rk))), (mW, .inl (cI, 5, .inl (zA wt)))] H33_5 := hP
            have hD : va_D A [(o, .inr (6, [.int (zI (↑sy)), .ref mA, .ref mR, .ref mW, .int (zI (↑tc)), .ref mC, .ref mS, .int (zI (↑rc)), .ref mL, .ref mT, .ref mH, .ref mY, .ref mE, .ref mG, .ref mB, .ref mO, .int (zI (0))])), (mR, .inl (cI, 5, .inl (zA rk))), (mW, .inl (cI, 5, .inl (zA wt)))] := hD
            refine lv_aload_n hx hb qd_M_order_36 rfl (lv_at hl 0 rfl) ?_
            refine va_get (D := (dC, dI)) (ci := 6) (v := .int (zI (0))) (C := "TermOrdersModel") (T := qT_M) (N := 17) hx hb hg qi_M hown hK hP 0 rfl rfl 16 (by decide) (hg _ wd_634) (fun _ h9 => h9) rfl qd_M_order_37 ?_
            refine zz_if_ne (tgt := 57) hx hb qd_M_order_40 (by decide) (by omega) (fun h40 => ?_) (fun h40 => ?_)
            · skip
              exfalso
              omega
            · skip
              refine lv_aload_n hx hb qd_M_order_43 rfl (lv_at hl 0 rfl) ?_
              refine va_get (D := (dC, dI)) (ci := 6) (v := .ref mR) (C := "TermOrdersModel") (T := qT_M) (N := 17) hx hb hg qi_M hown hK hP 0 rfl rfl 2 (by decide) (hg _ wd_620) (fun _ h9 => h9) rfl qd_M_order_44 ?_
              refine lv_iload_n hx hb qd_M_order_47 rfl (lv_at hl 1 rfl) ?_
              refine lv_iload_n hx hb qd_M_order_48 rfl (lv_at hl 2 rfl) ?_
              refine zz_iast hx hb hK hP hD hS 1 0 rfl rfl x.toNat (by omega) (by omega) (by omega) qd_M_order_49 (fun H49_6 L49_6 hP hD hS => ?_)
              have hP : va_P (dC, dI) qcl [(o, .inr (6, [.int (zI (↑sy)), .ref mA, .ref mR, .ref mW, .int (zI (↑tc)), .ref mC, .ref mS, .int (zI (↑rc)), .ref mL, .ref mT, .ref mH, .ref mY, .ref mE, .ref mG, .ref mB, .ref mO, .int (zI (0))])), (mR, .inl (cI, 5, .inl (zA (uz rk x.toNat y)))), (mW, .inl (cI, 5, .inl (zA wt)))] H49_6 := hP
              have hD : va_D A [(o, .inr (6, [.int (zI (↑sy)), .ref mA, .ref mR, .ref mW, .int (zI (↑tc)), .ref mC, .ref mS, .int (zI (↑rc)), .ref mL, .ref mT, .ref mH, .ref mY, .ref mE, .ref mG, .ref mB, .ref mO, .int (zI (0))])), (mR, .inl (cI, 5, .inl (zA (uz rk x.toNat y)))), (mW, .inl (cI, 5, .inl (zA wt)))] := hD
              refine lv_aload_n hx hb qd_M_order_50 rfl (lv_at hl 0 rfl) ?_
              refine va_get (D := (dC, dI)) (ci := 6) (v := .ref mW) (C := "TermOrdersModel") (T := qT_M) (N := 17) hx hb hg qi_M hown hK hP 0 rfl rfl 3 (by decide) (hg _ wd_621) (fun _ h9 => h9) rfl qd_M_order_51 ?_
              refine lv_iload_n hx hb qd_M_order_54 rfl (lv_at hl 1 rfl) ?_
              refine lv_iload_n hx hb qd_M_order_55 rfl (lv_at hl 3 rfl) ?_
              refine zz_iast hx hb hK hP hD hS 2 0 rfl rfl x.toNat (by omega) (by omega) (by omega) qd_M_order_56 (fun H56_7 L56_7 hP hD hS => ?_)
              have hP : va_P (dC, dI) qcl [(o, .inr (6, [.int (zI (↑sy)), .ref mA, .ref mR, .ref mW, .int (zI (↑tc)), .ref mC, .ref mS, .int (zI (↑rc)), .ref mL, .ref mT, .ref mH, .ref mY, .ref mE, .ref mG, .ref mB, .ref mO, .int (zI (0))])), (mR, .inl (cI, 5, .inl (zA (uz rk x.toNat y)))), (mW, .inl (cI, 5, .inl (zA (uz wt x.toNat z))))] H56_7 := hP
              have hD : va_D A [(o, .inr (6, [.int (zI (↑sy)), .ref mA, .ref mR, .ref mW, .int (zI (↑tc)), .ref mC, .ref mS, .int (zI (↑rc)), .ref mL, .ref mT, .ref mH, .ref mY, .ref mE, .ref mG, .ref mB, .ref mO, .int (zI (0))])), (mR, .inl (cI, 5, .inl (zA (uz rk x.toNat y)))), (mW, .inl (cI, 5, .inl (zA (uz wt x.toNat z))))] := hD
              exact W.vret hx hb hr (fun t9 ht9 hW9 => ⟨⟨(0, uz rk x.toNat y, uz wt x.toNat z), rfl, (Or.inr ⟨by omega, rfl, rfl, rfl⟩), mwB_i (by rw [ht9]; exact hP) (va_K.moved hW9.alike hK) hD⟩, hS.F ht9⟩) hS.2.2 qd_M_order_57
          · skip
            refine lv_iconst (v := zI 1) hx hb qd_M_order_28 rfl ?_
            refine lv_goto (tgt := 33) hx hb qd_M_order_29 (by decide) ?_
            refine va_put (D := (dC, dI)) (ci := 6) (v := .int (zI (1))) (ty := .int) (C := "TermOrdersModel") (T := qT_M) (N := 17) hx hb hg qi_M qt_M qo_M qn_M hown hK hP hD hS 0 rfl rfl 16 (by decide) (hg _ wd_634) (fun _ h9 => h9) rfl (by decide +kernel) rfl rfl (Nat.le_of_ble_eq_true rfl) qd_M_order_33 (fun H33_8 L33_8 hP hD hS => ?_)
            have hP : va_P (dC, dI) qcl [(o, .inr (6, [.int (zI (↑sy)), .ref mA, .ref mR, .ref mW, .int (zI (↑tc)), .ref mC, .ref mS, .int (zI (↑rc)), .ref mL, .ref mT, .ref mH, .ref mY, .ref mE, .ref mG, .ref mB, .ref mO, .int (zI (1))])), (mR, .inl (cI, 5, .inl (zA rk))), (mW, .inl (cI, 5, .inl (zA wt)))] H33_8 := hP
            have hD : va_D A [(o, .inr (6, [.int (zI (↑sy)), .ref mA, .ref mR, .ref mW, .int (zI (↑tc)), .ref mC, .ref mS, .int (zI (↑rc)), .ref mL, .ref mT, .ref mH, .ref mY, .ref mE, .ref mG, .ref mB, .ref mO, .int (zI (1))])), (mR, .inl (cI, 5, .inl (zA rk))), (mW, .inl (cI, 5, .inl (zA wt)))] := hD
            refine lv_aload_n hx hb qd_M_order_36 rfl (lv_at hl 0 rfl) ?_
            refine va_get (D := (dC, dI)) (ci := 6) (v := .int (zI (1))) (C := "TermOrdersModel") (T := qT_M) (N := 17) hx hb hg qi_M hown hK hP 0 rfl rfl 16 (by decide) (hg _ wd_634) (fun _ h9 => h9) rfl qd_M_order_37 ?_
            refine zz_if_ne (tgt := 57) hx hb qd_M_order_40 (by decide) (by omega) (fun h40 => ?_) (fun h40 => ?_)
            · skip
              exact W.vret hx hb hr (fun t9 ht9 hW9 => ⟨⟨(1, rk, wt), rfl, (Or.inl ⟨by omega, rfl, rfl, rfl⟩), mwB_i (by rw [ht9]; exact hP) (va_K.moved hW9.alike hK) hD⟩, hS.F ht9⟩) hS.2.2 qd_M_order_57
            · skip
              exfalso
              omega
set_option maxHeartbeats 4000000 in
set_option maxRecDepth 100000 in
theorem c_M_rank (l : Launch) (dC : Nat → ClassId) (dI : Nat → Nat → Nat) (cI cZ cT cJ : ClassId) (o mA mR mW mC mS mL mT mH mY mE mG mB mO sy tc rc : Nat) (tw : Int) (ar rk wt co : Nat → Int) (sz lf rg : Nat → Nat) (hi hv : Nat → Int) (ef : Nat → Nat) (gr : Nat → Bool) (bd ol : Nat → Int) (x : Int) (zh : Nat) (hsy : sy ≤ 5) (h32x : -2147483648 ≤ x ∧ x < 2147483648) : Met l qy_M_rank qw_M_rank ({ frames := 1, cells := 0, slots := 0, locals := 21 }) (mwP (dC, dI) qcl (qty cI cZ cT cJ) nwL [(o, .inr (6, [.int (zI (↑sy)), .ref mA, .ref mR, .ref mW, .int (zI (↑tc)), .ref mC, .ref mS, .int (zI (↑rc)), .ref mL, .ref mT, .ref mH, .ref mY, .ref mE, .ref mG, .ref mB, .ref mO, .int (zI (tw))]))] [(mR, .inl (cI, 5, .inl (zA rk)))] zh [.ref o, .int (zI (x))]) (mwI (S := (Int)) (fun r uq => (¬ (0 ≤ x ∧ x < sy) ∧ uq = 1) ∨ ((0 ≤ x ∧ x < sy) ∧ uq = 0 ∧ r = rk x.toNat)) (fun uq tq => mwB (dC, dI) qcl (qty cI cZ cT cJ) (va_A [(o, .inr (6, [.int (zI (↑sy)), .ref mA, .ref mR, .ref mW, .int (zI (↑tc)), .ref mC, .ref mS, .int (zI (↑rc)), .ref mL, .ref mT, .ref mH, .ref mY, .ref mE, .ref mG, .ref mB, .ref mO, .int (zI (tw))]))] zh) [(o, .inr (6, [.int (zI (↑sy)), .ref mA, .ref mR, .ref mW, .int (zI (↑tc)), .ref mC, .ref mS, .int (zI (↑rc)), .ref mL, .ref mT, .ref mH, .ref mY, .ref mE, .ref mG, .ref mB, .ref mO, .int (zI (uq))]))] tq) (va_A [(o, .inr (6, [.int (zI (↑sy)), .ref mA, .ref mR, .ref mW, .int (zI (↑tc)), .ref mC, .ref mS, .int (zI (↑rc)), .ref mL, .ref mT, .ref mH, .ref mY, .ref mE, .ref mG, .ref mB, .ref mO, .int (zI (tw))]))] zh)) 0 0 (va_A [(o, .inr (6, [.int (zI (↑sy)), .ref mA, .ref mR, .ref mW, .int (zI (↑tc)), .ref mC, .ref mS, .int (zI (↑rc)), .ref mL, .ref mT, .ref mH, .ref mY, .ref mE, .ref mG, .ref mB, .ref mO, .int (zI (tw))]))] zh) := by
  refine Met.ofW (cc := qc_M_rank) (maxL := 2) (ret := (Option.some Jvm.ClassFile.FieldType.int)) (by decide) rfl ?_
  intro pg eg sg mg args below meth cg s₁ B hml hv
  obtain ⟨rfl, hsz, hP, hF0, hK, hN, hD0, hap⟩ := hv
  have hx := B.exec
  have hb := B.bytes
  have hr := B.returns
  have hts := atoms_spec (ws := qw_M_rank) B.pre
  have hg : ∀ w ∈ gw, w.before _ sg = true := fun w h => hts w (List.mem_cons_of_mem _ h)
  have hown : sg.vm.findClass "TermOrdersModel" = some mg.cls := findClass_of_methodNamed B.named
  have hlocks := B.notSynchronized
  have hl := lv_entry ([.ref o, .int (zI (x))]) (n := 2) (Nat.le_of_ble_eq_true rfl)
  rw [lg_entry_eq]
  generalize (lg_sl ([.ref o, .int (zI (x))]) ++ List.replicate (2 - (lg_sl ([.ref o, .int (zI (x))])).length) Slot.unset).toArray = ls at hl ⊢
  subst hsz
  have hD := hD0.self (sz := sg.heap.size)
  have hFA := apw_A hap (fun k q hk => (hF0 k q hk).lt)
  generalize hAe : va_A [(o, .inr (6, [.int (zI (↑sy)), .ref mA, .ref mR, .ref mW, .int (zI (↑tc)), .ref mC, .ref mS, .int (zI (↑rc)), .ref mL, .ref mT, .ref mH, .ref mY, .ref mE, .ref mG, .ref mB, .ref mO, .int (zI (tw))]))] sg.heap.size = A at hD hFA ⊢
  have hA : ∀ q : Nat, sg.heap.size ≤ q → A q := fun q h => by rw [← hAe]; exact Or.inr h
  have hS : va_S A sg.heap sg.heap [] := va_S.rf
  have hF := hF0
  have hl : lv_has ls 2 [(0, .ref o), (1, .int (zI (x)))] := hl
  refine lv_aload_n hx hb qd_M_rank_0 rfl (lv_at hl 0 rfl) ?_
  refine lv_aload_n hx hb qd_M_rank_1 rfl (lv_at hl 0 rfl) ?_
  refine lv_iload_n hx hb qd_M_rank_2 rfl (lv_at hl 1 rfl) ?_
  refine rd_callB (W.runV (As := [.int (zI (x))]) (rest := [.ref o]) ⟨hx, hb, hml, hown, hg⟩ (c_M_isSymbol l dC dI cI cZ cT cJ o mA mR mW mC mS mL mT mH mY mE mG mB mO sy tc rc tw ar rk wt co sz lf rg hi hv ef gr bd ol x hsy h32x) ⟨callB_of 1 hg (gw_ok (fun _ h => h) wd_689) rfl rfl rfl (hg _ wd_6) (hg _ wd_686) (by decide +kernel) ⟨Nat.le_of_ble_eq_true rfl, Nat.le_of_ble_eq_true rfl⟩, hg _ wd_688, hg _ se_M_isSymbol⟩ (rd_preV (va_recv (q0 := 0) hK hP rfl rfl) (pw_c (q := (o, .inr (6, [.int (zI (↑sy)), .ref mA, .ref mR, .ref mW, .int (zI (↑tc)), .ref mC, .ref mS, .int (zI (↑rc)), .ref mL, .ref mT, .ref mH, .ref mY, .ref mE, .ref mG, .ref mB, .ref mO, .int (zI (tw))]))) hP 0 rfl (pw_nil)) hK hN) rfl rfl hl.1 rfl (lv_room (Nat.le_of_ble_eq_true rfl)) qd_M_rank_3 ⟨Nat.le_of_ble_eq_true rfl, Nat.le_of_ble_eq_true rfl⟩) (fun r3 hr3 => ?_)
  refine zz_ifeqB (tgt := 13) hx hb qd_M_rank_6 (by decide) (fun h6 => ?_) (fun h6 => ?_)
  · skip
    have hns : ¬ (0 ≤ x ∧ x < sy) := fun z9 => by rw [hr3.mpr z9] at h6; exact Bool.noConfusion h6
    refine lv_iconst (v := zI 1) hx hb qd_M_rank_13 rfl ?_
    refine va_put (D := (dC, dI)) (ci := 6) (v := .int (zI (1))) (ty := .int) (C := "TermOrdersModel") (T := qT_M) (N := 17) hx hb hg qi_M qt_M qo_M qn_M hown hK hP hD hS 0 rfl rfl 16 (by decide) (hg _ wd_634) (fun _ h9 => h9) rfl (by decide +kernel) rfl rfl (Nat.le_of_ble_eq_true rfl) qd_M_rank_14 (fun H14_1 L14_1 hP hD hS => ?_)
    have hP : va_P (dC, dI) qcl [(o, .inr (6, [.int (zI (↑sy)), .ref mA, .ref mR, .ref mW, .int (zI (↑tc)), .ref mC, .ref mS, .int (zI (↑rc)), .ref mL, .ref mT, .ref mH, .ref mY, .ref mE, .ref mG, .ref mB, .ref mO, .int (zI (1))]))] H14_1 := hP
    have hD : va_D A [(o, .inr (6, [.int (zI (↑sy)), .ref mA, .ref mR, .ref mW, .int (zI (↑tc)), .ref mC, .ref mS, .int (zI (↑rc)), .ref mL, .ref mT, .ref mH, .ref mY, .ref mE, .ref mG, .ref mB, .ref mO, .int (zI (1))]))] := hD
    have hF := fz_keep hF0 hFA hS
    refine lv_aload_n hx hb qd_M_rank_17 rfl (lv_at hl 0 rfl) ?_
    refine va_get (D := (dC, dI)) (ci := 6) (v := .int (zI (1))) (C := "TermOrdersModel") (T := qT_M) (N := 17) hx hb hg qi_M hown hK hP 0 rfl rfl 16 (by decide) (hg _ wd_634) (fun _ h9 => h9) rfl qd_M_rank_18 ?_
    refine zz_if_ne (tgt := 33) hx hb qd_M_rank_21 (by decide) (by omega) (fun h21 => ?_) (fun h21 => ?_)
    · skip
      refine lv_iconst (v := zI 0) hx hb qd_M_rank_33 rfl ?_
      exact W.iret (v := zI 0) hx hb hr (fun t9 ht9 hW9 => ⟨⟨0, 1, rfl, (Or.inl ⟨hns, rfl⟩), mwB_i (by rw [ht9]; exact hP) (va_K.moved hW9.alike hK) hD⟩, hS.F ht9⟩) hS.2.2 qd_M_rank_34
    · skip
      exfalso
      omega
  · skip
    have hys := hr3.mp h6
    refine lv_iconst (v := zI 0) hx hb qd_M_rank_9 rfl ?_
    refine lv_goto (tgt := 14) hx hb qd_M_rank_10 (by decide) ?_
    refine va_put (D := (dC, dI)) (ci := 6) (v := .int (zI (0))) (ty := .int) (C := "TermOrdersModel") (T := qT_M) (N := 17) hx hb hg qi_M qt_M qo_M qn_M hown hK hP hD hS 0 rfl rfl 16 (by decide) (hg _ wd_634) (fun _ h9 => h9) rfl (by decide +kernel) rfl rfl (Nat.le_of_ble_eq_true rfl) qd_M_rank_14 (fun H14_2 L14_2 hP hD hS => ?_)
    have hP : va_P (dC, dI) qcl [(o, .inr (6, [.int (zI (↑sy)), .ref mA, .ref mR, .ref mW, .int (zI (↑tc)), .ref mC, .ref mS, .int (zI (↑rc)), .ref mL, .ref mT, .ref mH, .ref mY, .ref mE, .ref mG, .ref mB, .ref mO, .int (zI (0))]))] H14_2 := hP
    have hD : va_D A [(o, .inr (6, [.int (zI (↑sy)), .ref mA, .ref mR, .ref mW, .int (zI (↑tc)), .ref mC, .ref mS, .int (zI (↑rc)), .ref mL, .ref mT, .ref mH, .ref mY, .ref mE, .ref mG, .ref mB, .ref mO, .int (zI (0))]))] := hD
    have hF := fz_keep hF0 hFA hS
    refine lv_aload_n hx hb qd_M_rank_17 rfl (lv_at hl 0 rfl) ?_
    refine va_get (D := (dC, dI)) (ci := 6) (v := .int (zI (0))) (C := "TermOrdersModel") (T := qT_M) (N := 17) hx hb hg qi_M hown hK hP 0 rfl rfl 16 (by decide) (hg _ wd_634) (fun _ h9 => h9) rfl qd_M_rank_18 ?_
    refine zz_if_ne (tgt := 33) hx hb qd_M_rank_21 (by decide) (by omega) (fun h21 => ?_) (fun h21 => ?_)
    · skip
      exfalso
      omega
    · skip
      refine lv_aload_n hx hb qd_M_rank_24 rfl (lv_at hl 0 rfl) ?_
      refine va_get (D := (dC, dI)) (ci := 6) (v := .ref mR) (C := "TermOrdersModel") (T := qT_M) (N := 17) hx hb hg qi_M hown hK hP 0 rfl rfl 2 (by decide) (hg _ wd_620) (fun _ h9 => h9) rfl qd_M_rank_25 ?_
      refine lv_iload_n hx hb qd_M_rank_28 rfl (lv_at hl 1 rfl) ?_
      refine zz_iald hx hb hK hF 0 0 rfl rfl x.toNat (by omega) (by omega) (by omega) qd_M_rank_29 ?_
      refine lv_goto (tgt := 34) hx hb qd_M_rank_30 (by decide) ?_
      exact W.iret (v := zI (rk x.toNat)) hx hb hr (fun t9 ht9 hW9 => ⟨⟨rk x.toNat, 0, rfl, (Or.inr ⟨hys, rfl, rfl⟩), mwB_i (by rw [ht9]; exact hP) (va_K.moved hW9.alike hK) hD⟩, hS.F ht9⟩) hS.2.2 qd_M_rank_34
set_option maxHeartbeats 4000000 in
set_option maxRecDepth 100000 in
theorem c_M_same (l : Launch) (dC : Nat → ClassId) (dI : Nat → Nat → Nat) (cI cZ cT cJ : ClassId) (o mA mR mW mC mS mL mT mH mY mE mG mB mO sy tc rc : Nat) (tw : Int) (ar rk wt co : Nat → Int) (sz lf rg : Nat → Nat) (hi hv : Nat → Int) (ef : Nat → Nat) (gr : Nat → Bool) (bd ol : Nat → Int) (tn : Nat → Nat) (TH TM : Nat → Nat → Int) (TE : Nat → Nat → Nat) (HT : Nat → Nat → Int) (x y : Int) (zh : Nat) (har : ∀ q, q < 5 → 0 ≤ ar q ∧ ar q ≤ 3) (hsy : sy ≤ 5) (htc : tc ≤ 160) (htp : ∀ t, t < tc → okT sy ar (tn t) (TH t) (TM t) (TE t) (HT t) ∧ sz t = tn t ∧ ∀ q, q < tn t → co (16 * t + q) = TH t q) (h32x : -2147483648 ≤ x ∧ x < 2147483648) (h32y : -2147483648 ≤ y ∧ y < 2147483648) : Met l qy_M_same qw_M_same ({ frames := 3, cells := 0, slots := 0, locals := 71 }) (mwP (dC, dI) qcl (qty cI cZ cT cJ) nwL [(o, .inr (6, [.int (zI (↑sy)), .ref mA, .ref mR, .ref mW, .int (zI (↑tc)), .ref mC, .ref mS, .int (zI (↑rc)), .ref mL, .ref mT, .ref mH, .ref mY, .ref mE, .ref mG, .ref mB, .ref mO, .int (zI (tw))]))] [(mA, .inl (cI, 5, .inl (zA ar))), (mC, .inl (cI, 2608, .inl (zA co)))] zh [.ref o, .int (zI (x)), .int (zI (y))]) (mwO (S := (Int)) (fun r uq => (¬ (0 ≤ x ∧ x < tc ∧ 0 ≤ y ∧ y < tc) ∧ uq = 1) ∨ ((0 ≤ x ∧ x < tc ∧ 0 ≤ y ∧ y < tc) ∧ uq = 0 ∧ (r = true ↔ smP (TH x.toNat) (TE x.toNat) 0 (TH y.toNat) (TE y.toNat) 0))) (fun uq tq => mwB (dC, dI) qcl (qty cI cZ cT cJ) (va_A [(o, .inr (6, [.int (zI (↑sy)), .ref mA, .ref mR, .ref mW, .int (zI (↑tc)), .ref mC, .ref mS, .int (zI (↑rc)), .ref mL, .ref mT, .ref mH, .ref mY, .ref mE, .ref mG, .ref mB, .ref mO, .int (zI (tw))]))] zh) [(o, .inr (6, [.int (zI (↑sy)), .ref mA, .ref mR, .ref mW, .int (zI (↑tc)), .ref mC, .ref mS, .int (zI (↑rc)), .ref mL, .ref mT, .ref mH, .ref mY, .ref mE, .ref mG, .ref mB, .ref mO, .int (zI (uq))]))] tq) (va_A [(o, .inr (6, [.int (zI (↑sy)), .ref mA, .ref mR, .ref mW, .int (zI (↑tc)), .ref mC, .ref mS, .int (zI (↑rc)), .ref mL, .ref mT, .ref mH, .ref mY, .ref mE, .ref mG, .ref mB, .ref mO, .int (zI (tw))]))] zh)) 0 0 (va_A [(o, .inr (6, [.int (zI (↑sy)), .ref mA, .ref mR, .ref mW, .int (zI (↑tc)), .ref mC, .ref mS, .int (zI (↑rc)), .ref mL, .ref mT, .ref mH, .ref mY, .ref mE, .ref mG, .ref mB, .ref mO, .int (zI (tw))]))] zh) := by
  refine Met.ofW (cc := qc_M_same) (maxL := 3) (ret := (Option.some Jvm.ClassFile.FieldType.boolean)) (by decide) rfl ?_
  intro pg eg sg mg args below meth cg s₁ B hml hv
  obtain ⟨rfl, hsz, hP, hF0, hK, hN, hD0, hap⟩ := hv
  have hx := B.exec
  have hb := B.bytes
  have hr := B.returns
  have hts := atoms_spec (ws := qw_M_same) B.pre
  have hg : ∀ w ∈ gw, w.before _ sg = true := fun w h => hts w (List.mem_cons_of_mem _ h)
  have hown : sg.vm.findClass "TermOrdersModel" = some mg.cls := findClass_of_methodNamed B.named
  have hlocks := B.notSynchronized
  have hl := lv_entry ([.ref o, .int (zI (x)), .int (zI (y))]) (n := 3) (Nat.le_of_ble_eq_true rfl)
  rw [lg_entry_eq]
  generalize (lg_sl ([.ref o, .int (zI (x)), .int (zI (y))]) ++ List.replicate (3 - (lg_sl ([.ref o, .int (zI (x)), .int (zI (y))])).length) Slot.unset).toArray = ls at hl ⊢
  subst hsz
  have hD := hD0.self (sz := sg.heap.size)
  have hFA := apw_A hap (fun k q hk => (hF0 k q hk).lt)
  generalize hAe : va_A [(o, .inr (6, [.int (zI (↑sy)), .ref mA, .ref mR, .ref mW, .int (zI (↑tc)), .ref mC, .ref mS, .int (zI (↑rc)), .ref mL, .ref mT, .ref mH, .ref mY, .ref mE, .ref mG, .ref mB, .ref mO, .int (zI (tw))]))] sg.heap.size = A at hD hFA ⊢
  have hA : ∀ q : Nat, sg.heap.size ≤ q → A q := fun q h => by rw [← hAe]; exact Or.inr h
  have hS : va_S A sg.heap sg.heap [] := va_S.rf
  have hF := hF0
  have hl : lv_has ls 3 [(0, .ref o), (1, .int (zI (x))), (2, .int (zI (y)))] := hl
  refine lv_aload_n hx hb qd_M_same_0 rfl (lv_at hl 0 rfl) ?_
  refine lv_aload_n hx hb qd_M_same_1 rfl (lv_at hl 0 rfl) ?_
  refine lv_iload_n hx hb qd_M_same_2 rfl (lv_at hl 1 rfl) ?_
  refine rd_callB (W.runV (As := [.int (zI (x))]) (rest := [.ref o]) ⟨hx, hb, hml, hown, hg⟩ (c_M_isTerm l dC dI cI cZ cT cJ o mA mR mW mC mS mL mT mH mY mE mG mB mO sy tc rc tw ar rk wt co sz lf rg hi hv ef gr bd ol x htc h32x) ⟨callB_of 1 hg (gw_ok (fun _ h => h) wd_693) rfl rfl rfl (hg _ wd_6) (hg _ wd_690) (by decide +kernel) ⟨Nat.le_of_ble_eq_true rfl, Nat.le_of_ble_eq_true rfl⟩, hg _ wd_692, hg _ se_M_isTerm⟩ (rd_preV (va_recv (q0 := 0) hK hP rfl rfl) (pw_c (q := (o, .inr (6, [.int (zI (↑sy)), .ref mA, .ref mR, .ref mW, .int (zI (↑tc)), .ref mC, .ref mS, .int (zI (↑rc)), .ref mL, .ref mT, .ref mH, .ref mY, .ref mE, .ref mG, .ref mB, .ref mO, .int (zI (tw))]))) hP 0 rfl (pw_nil)) hK hN) rfl rfl hl.1 rfl (lv_room (Nat.le_of_ble_eq_true rfl)) qd_M_same_3 ⟨Nat.le_of_ble_eq_true rfl, Nat.le_of_ble_eq_true rfl⟩) (fun r3 hr3 => ?_)
  refine zz_ifeqB (tgt := 17) hx hb qd_M_same_6 (by decide) (fun h6 => ?_) (fun h6 => ?_)
  · skip
    have hnx : ¬ (0 ≤ x ∧ x < tc) := fun z9 => by rw [hr3.mpr z9] at h6; exact Bool.noConfusion h6
    refine lv_iconst (v := zI 1) hx hb qd_M_same_17 rfl ?_
    refine lv_goto (tgt := 22) hx hb qd_M_same_18 (by decide) ?_
    refine va_put (D := (dC, dI)) (ci := 6) (v := .int (zI (1))) (ty := .int) (C := "TermOrdersModel") (T := qT_M) (N := 17) hx hb hg qi_M qt_M qo_M qn_M hown hK hP hD hS 0 rfl rfl 16 (by decide) (hg _ wd_634) (fun _ h9 => h9) rfl (by decide +kernel) rfl rfl (Nat.le_of_ble_eq_true rfl) qd_M_same_22 (fun H22_1 L22_1 hP hD hS => ?_)
    have hP : va_P (dC, dI) qcl [(o, .inr (6, [.int (zI (↑sy)), .ref mA, .ref mR, .ref mW, .int (zI (↑tc)), .ref mC, .ref mS, .int (zI (↑rc)), .ref mL, .ref mT, .ref mH, .ref mY, .ref mE, .ref mG, .ref mB, .ref mO, .int (zI (1))]))] H22_1 := hP
    have hD : va_D A [(o, .inr (6, [.int (zI (↑sy)), .ref mA, .ref mR, .ref mW, .int (zI (↑tc)), .ref mC, .ref mS, .int (zI (↑rc)), .ref mL, .ref mT, .ref mH, .ref mY, .ref mE, .ref mG, .ref mB, .ref mO, .int (zI (1))]))] := hD
    have hF := fz_keep hF0 hFA hS
    refine lv_aload_n hx hb qd_M_same_25 rfl (lv_at hl 0 rfl) ?_
    refine va_get (D := (dC, dI)) (ci := 6) (v := .int (zI (1))) (C := "TermOrdersModel") (T := qT_M) (N := 17) hx hb hg qi_M hown hK hP 0 rfl rfl 16 (by decide) (hg _ wd_634) (fun _ h9 => h9) rfl qd_M_same_26 ?_
    refine zz_if_ne (tgt := 53) hx hb qd_M_same_29 (by decide) (by omega) (fun h29 => ?_) (fun h29 => ?_)
    · skip
      refine lv_iconst (v := zI 0) hx hb qd_M_same_53 rfl ?_
      exact W.zret (v := zI (bI false)) (ty := .boolean) hx hb hr (bI_n _) (fun t9 ht9 hW9 => ⟨⟨false, 1, rfl, (by first | exact Or.inl ⟨by omega, rfl⟩ | exact Or.inr ⟨by omega, rfl, bF (fun z9 => by rw [hr43.mpr z9] at h46; exact Bool.noConfusion h46)⟩), mwB_i (by rw [ht9]; exact hP) (va_K.moved hW9.alike hK) hD⟩, hS.F ht9⟩) hS.2.2 qd_M_same_54
    · skip
      exfalso
      omega
  · skip
    have hyx := hr3.mp h6
    refine lv_aload_n hx hb qd_M_same_9 rfl (lv_at hl 0 rfl) ?_
    refine lv_iload_n hx hb qd_M_same_10 rfl (lv_at hl 2 rfl) ?_
    refine rd_callB (W.runV (As := [.int (zI (y))]) (rest := [.ref o]) ⟨hx, hb, hml, hown, hg⟩ (c_M_isTerm l dC dI cI cZ cT cJ o mA mR mW mC mS mL mT mH mY mE mG mB mO sy tc rc tw ar rk wt co sz lf rg hi hv ef gr bd ol y htc h32y) ⟨callB_of 1 hg (gw_ok (fun _ h => h) wd_693) rfl rfl rfl (hg _ wd_6) (hg _ wd_690) (by decide +kernel) ⟨Nat.le_of_ble_eq_true rfl, Nat.le_of_ble_eq_true rfl⟩, hg _ wd_692, hg _ se_M_isTerm⟩ (rd_preV (va_recv (q0 := 0) hK hP rfl rfl) (pw_c (q := (o, .inr (6, [.int (zI (↑sy)), .ref mA, .ref mR, .ref mW, .int (zI (↑tc)), .ref mC, .ref mS, .int (zI (↑rc)), .ref mL, .ref mT, .ref mH, .ref mY, .ref mE, .ref mG, .ref mB, .ref mO, .int (zI (tw))]))) hP 0 rfl (pw_nil)) hK hN) rfl rfl hl.1 rfl (lv_room (Nat.le_of_ble_eq_true rfl)) qd_M_same_11 ⟨Nat.le_of_ble_eq_true rfl, Nat.le_of_ble_eq_true rfl⟩) (fun r11 hr11 => ?_)
    refine zz_ifneB (tgt := 21) hx hb qd_M_same_14 (by decide) (fun h14 => ?_) (fun h14 => ?_)
    · skip
      have hyy := hr11.mp h14
      have hta := htp x.toNat (by omega)
      have htb := htp y.toNat (by omega)
      refine lv_iconst (v := zI 0) hx hb qd_M_same_21 rfl ?_
      refine va_put (D := (dC, dI)) (ci := 6) (v := .int (zI (0))) (ty := .int) (C := "TermOrdersModel") (T := qT_M) (N := 17) hx hb hg qi_M qt_M qo_M qn_M hown hK hP hD hS 0 rfl rfl 16 (by decide) (hg _ wd_634) (fun _ h9 => h9) rfl (by decide +kernel) rfl rfl (Nat.le_of_ble_eq_true rfl) qd_M_same_22 (fun H22_2 L22_2 hP hD hS => ?_)
      have hP : va_P (dC, dI) qcl [(o, .inr (6, [.int (zI (↑sy)), .ref mA, .ref mR, .ref mW, .int (zI (↑tc)), .ref mC, .ref mS, .int (zI (↑rc)), .ref mL, .ref mT, .ref mH, .ref mY, .ref mE, .ref mG, .ref mB, .ref mO, .int (zI (0))]))] H22_2 := hP
      have hD : va_D A [(o, .inr (6, [.int (zI (↑sy)), .ref mA, .ref mR, .ref mW, .int (zI (↑tc)), .ref mC, .ref mS, .int (zI (↑rc)), .ref mL, .ref mT, .ref mH, .ref mY, .ref mE, .ref mG, .ref mB, .ref mO, .int (zI (0))]))] := hD
      have hF := fz_keep hF0 hFA hS
      refine lv_aload_n hx hb qd_M_same_25 rfl (lv_at hl 0 rfl) ?_
      refine va_get (D := (dC, dI)) (ci := 6) (v := .int (zI (0))) (C := "TermOrdersModel") (T := qT_M) (N := 17) hx hb hg qi_M hown hK hP 0 rfl rfl 16 (by decide) (hg _ wd_634) (fun _ h9 => h9) rfl qd_M_same_26 ?_
      refine zz_if_ne (tgt := 53) hx hb qd_M_same_29 (by decide) (by omega) (fun h29 => ?_) (fun h29 => ?_)
      · skip
        exfalso
        omega
      · skip
        refine lv_aload_n hx hb qd_M_same_32 rfl (lv_at hl 0 rfl) ?_
        refine lv_bipush (v := zI 16) hx hb qd_M_same_33 (by decide) ?_
        refine lv_iload_n hx hb qd_M_same_35 rfl (lv_at hl 1 rfl) ?_
        refine zz_imul hx hb (↑(16 * x.toNat)) (by omega) qd_M_same_36 ?_
        refine lv_iconst (v := zI 0) hx hb qd_M_same_37 rfl ?_
        refine zz_top (b := ↑(0 : Nat)) rfl ?_
        refine lv_bipush (v := zI 16) hx hb qd_M_same_38 (by decide) ?_
        refine lv_iload_n hx hb qd_M_same_40 rfl (lv_at hl 2 rfl) ?_
        refine zz_imul hx hb (↑(16 * y.toNat)) (by omega) qd_M_same_41 ?_
        refine lv_iconst (v := zI 0) hx hb qd_M_same_42 rfl ?_
        refine zz_top (b := ↑(0 : Nat)) rfl ?_
        refine rd_callB (W.runV (As := [.int (zI (↑(16 * x.toNat))), .int (zI (↑0)), .int (zI (↑(16 * y.toNat))), .int (zI (↑0))]) (rest := []) ⟨hx, hb, hml, hown, hg⟩ (c_M_alike l dC dI cI cZ cT cJ o mA mR mW mC mS mL mT mH mY mE mG mB mO sy tc rc 0 ar rk wt co sz lf rg hi hv ef gr bd ol (16 * x.toNat) (tn x.toNat) (TH x.toNat) (TM x.toNat) (TE x.toNat) (16 * y.toNat) (tn y.toNat) (TH y.toNat) (TM y.toNat) (TE y.toNat) 0 0 har hta.1.2.1 (by omega) hta.2.2 hta.1.2.2.2.1 (okT_hh hsy hta.1) hta.1.2.2.2.2.1 htb.1.2.1 (by omega) htb.2.2 htb.1.2.2.2.1 (okT_hh hsy htb.1) htb.1.2.2.2.2.1 hta.1.1 htb.1.1) ⟨callB_of 4 hg (gw_ok (fun _ h => h) wd_749) rfl rfl rfl (hg _ wd_6) (hg _ wd_746) (by decide +kernel) ⟨Nat.le_of_ble_eq_true rfl, Nat.le_of_ble_eq_true rfl⟩, hg _ wd_748, hg _ se_M_alike⟩ (rd_preV (va_recv (q0 := 0) hK hP rfl rfl) (pw_c (q := (o, .inr (6, [.int (zI (↑sy)), .ref mA, .ref mR, .ref mW, .int (zI (↑tc)), .ref mC, .ref mS, .int (zI (↑rc)), .ref mL, .ref mT, .ref mH, .ref mY, .ref mE, .ref mG, .ref mB, .ref mO, .int (zI (0))]))) hP 0 rfl (pw_c (q := (mA, .inl (cI, 5, .inl (zA ar)))) hF 0 rfl (pw_c (q := (mC, .inl (cI, 2608, .inl (zA co)))) hF 1 rfl (pw_nil)))) hK hN) rfl rfl hl.1 rfl (lv_room (Nat.le_of_ble_eq_true rfl)) qd_M_same_43 ⟨Nat.le_of_ble_eq_true rfl, Nat.le_of_ble_eq_true rfl⟩) (fun r43 hr43 => ?_)
        refine zz_ifeqB (tgt := 53) hx hb qd_M_same_46 (by decide) (fun h46 => ?_) (fun h46 => ?_)
        · skip
          refine lv_iconst (v := zI 0) hx hb qd_M_same_53 rfl ?_
          exact W.zret (v := zI (bI false)) (ty := .boolean) hx hb hr (bI_n _) (fun t9 ht9 hW9 => ⟨⟨false, 0, rfl, (by first | exact Or.inl ⟨by omega, rfl⟩ | exact Or.inr ⟨by omega, rfl, bF (fun z9 => by rw [hr43.mpr z9] at h46; exact Bool.noConfusion h46)⟩), mwB_i (by rw [ht9]; exact hP) (va_K.moved hW9.alike hK) hD⟩, hS.F ht9⟩) hS.2.2 qd_M_same_54
        · skip
          refine lv_iconst (v := zI 1) hx hb qd_M_same_49 rfl ?_
          refine lv_goto (tgt := 54) hx hb qd_M_same_50 (by decide) ?_
          exact W.zret (v := zI (bI true)) (ty := .boolean) hx hb hr (bI_n _) (fun t9 ht9 hW9 => ⟨⟨true, 0, rfl, (Or.inr ⟨by omega, rfl, bT (hr43.mp h46)⟩), mwB_i (by rw [ht9]; exact hP) (va_K.moved hW9.alike hK) hD⟩, hS.F ht9⟩) hS.2.2 qd_M_same_54
    · skip
      have hny : ¬ (0 ≤ y ∧ y < tc) := fun z9 => by rw [hr11.mpr z9] at h14; exact Bool.noConfusion h14
      refine lv_iconst (v := zI 1) hx hb qd_M_same_17 rfl ?_
      refine lv_goto (tgt := 22) hx hb qd_M_same_18 (by decide) ?_
      refine va_put (D := (dC, dI)) (ci := 6) (v := .int (zI (1))) (ty := .int) (C := "TermOrdersModel") (T := qT_M) (N := 17) hx hb hg qi_M qt_M qo_M qn_M hown hK hP hD hS 0 rfl rfl 16 (by decide) (hg _ wd_634) (fun _ h9 => h9) rfl (by decide +kernel) rfl rfl (Nat.le_of_ble_eq_true rfl) qd_M_same_22 (fun H22_3 L22_3 hP hD hS => ?_)
      have hP : va_P (dC, dI) qcl [(o, .inr (6, [.int (zI (↑sy)), .ref mA, .ref mR, .ref mW, .int (zI (↑tc)), .ref mC, .ref mS, .int (zI (↑rc)), .ref mL, .ref mT, .ref mH, .ref mY, .ref mE, .ref mG, .ref mB, .ref mO, .int (zI (1))]))] H22_3 := hP
      have hD : va_D A [(o, .inr (6, [.int (zI (↑sy)), .ref mA, .ref mR, .ref mW, .int (zI (↑tc)), .ref mC, .ref mS, .int (zI (↑rc)), .ref mL, .ref mT, .ref mH, .ref mY, .ref mE, .ref mG, .ref mB, .ref mO, .int (zI (1))]))] := hD
      have hF := fz_keep hF0 hFA hS
      refine lv_aload_n hx hb qd_M_same_25 rfl (lv_at hl 0 rfl) ?_
      refine va_get (D := (dC, dI)) (ci := 6) (v := .int (zI (1))) (C := "TermOrdersModel") (T := qT_M) (N := 17) hx hb hg qi_M hown hK hP 0 rfl rfl 16 (by decide) (hg _ wd_634) (fun _ h9 => h9) rfl qd_M_same_26 ?_
      refine zz_if_ne (tgt := 53) hx hb qd_M_same_29 (by decide) (by omega) (fun h29 => ?_) (fun h29 => ?_)
      · skip
        refine lv_iconst (v := zI 0) hx hb qd_M_same_53 rfl ?_
        exact W.zret (v := zI (bI false)) (ty := .boolean) hx hb hr (bI_n _) (fun t9 ht9 hW9 => ⟨⟨false, 1, rfl, (by first | exact Or.inl ⟨by omega, rfl⟩ | exact Or.inr ⟨by omega, rfl, bF (fun z9 => by rw [hr43.mpr z9] at h46; exact Bool.noConfusion h46)⟩), mwB_i (by rw [ht9]; exact hP) (va_K.moved hW9.alike hK) hD⟩, hS.F ht9⟩) hS.2.2 qd_M_same_54
      · skip
        exfalso
        omega
set_option maxHeartbeats 4000000 in
set_option maxRecDepth 100000 in
theorem c_M_admissible (l : Launch) (dC : Nat → ClassId) (dI : Nat → Nat → Nat) (cI cZ cT cJ : ClassId) (o mA mR mW mC mS mL mT mH mY mE mG mB mO sy tc rc : Nat) (tw : Int) (ar rk wt co : Nat → Int) (sz lf rg : Nat → Nat) (hi hv : Nat → Int) (ef : Nat → Nat) (gr : Nat → Bool) (bd ol : Nat → Int) (zh : Nat) (hsy : sy ≤ 5) (hrk : ∀ q, q < 5 → 0 ≤ rk q ∧ rk q ≤ 4) (har : ∀ q, q < 5 → 0 ≤ ar q ∧ ar q ≤ 3) (hwt : ∀ q, q < 5 → 0 ≤ wt q ∧ wt q ≤ 9) : Met l qy_M_admissible qw_M_admissible ({ frames := 1, cells := 0, slots := 0, locals := 22 }) (mwP (dC, dI) qcl (qty cI cZ cT cJ) nwL [(o, .inr (6, [.int (zI (↑sy)), .ref mA, .ref mR, .ref mW, .int (zI (↑tc)), .ref mC, .ref mS, .int (zI (↑rc)), .ref mL, .ref mT, .ref mH, .ref mY, .ref mE, .ref mG, .ref mB, .ref mO, .int (zI (tw))]))] [(mA, .inl (cI, 5, .inl (zA ar))), (mR, .inl (cI, 5, .inl (zA rk))), (mW, .inl (cI, 5, .inl (zA wt)))] zh [.ref o]) (mwO (S := (Int)) (fun r uq => uq = 0 ∧ (r = true ↔ ∀ x, x < sy → ¬ (ar x = 0 ∧ wt x = 0) ∧ ∀ t, t < sy → ¬ (ar x = 1 ∧ wt x = 0 ∧ t ≠ x ∧ rk x ≤ rk t))) (fun uq tq => mwB (dC, dI) qcl (qty cI cZ cT cJ) (va_A [(o, .inr (6, [.int (zI (↑sy)), .ref mA, .ref mR, .ref mW, .int (zI (↑tc)), .ref mC, .ref mS, .int (zI (↑rc)), .ref mL, .ref mT, .ref mH, .ref mY, .ref mE, .ref mG, .ref mB, .ref mO, .int (zI (tw))]))] zh) [(o, .inr (6, [.int (zI (↑sy)), .ref mA, .ref mR, .ref mW, .int (zI (↑tc)), .ref mC, .ref mS, .int (zI (↑rc)), .ref mL, .ref mT, .ref mH, .ref mY, .ref mE, .ref mG, .ref mB, .ref mO, .int (zI (uq))]))] tq) (va_A [(o, .inr (6, [.int (zI (↑sy)), .ref mA, .ref mR, .ref mW, .int (zI (↑tc)), .ref mC, .ref mS, .int (zI (↑rc)), .ref mL, .ref mT, .ref mH, .ref mY, .ref mE, .ref mG, .ref mB, .ref mO, .int (zI (tw))]))] zh)) 0 0 (va_A [(o, .inr (6, [.int (zI (↑sy)), .ref mA, .ref mR, .ref mW, .int (zI (↑tc)), .ref mC, .ref mS, .int (zI (↑rc)), .ref mL, .ref mT, .ref mH, .ref mY, .ref mE, .ref mG, .ref mB, .ref mO, .int (zI (tw))]))] zh) := by
  refine Met.ofW (cc := qc_M_admissible) (maxL := 1) (ret := (Option.some Jvm.ClassFile.FieldType.boolean)) (by decide) rfl ?_
  intro pg eg sg mg args below meth cg s₁ B hml hv
  obtain ⟨rfl, hsz, hP, hF0, hK, hN, hD0, hap⟩ := hv
  have hx := B.exec
  have hb := B.bytes
  have hr := B.returns
  have hts := atoms_spec (ws := qw_M_admissible) B.pre
  have hg : ∀ w ∈ gw, w.before _ sg = true := fun w h => hts w (List.mem_cons_of_mem _ h)
  have hown : sg.vm.findClass "TermOrdersModel" = some mg.cls := findClass_of_methodNamed B.named
  have hlocks := B.notSynchronized
  have hl := lv_entry ([.ref o]) (n := 1) (Nat.le_of_ble_eq_true rfl)
  rw [lg_entry_eq]
  generalize (lg_sl ([.ref o]) ++ List.replicate (1 - (lg_sl ([.ref o])).length) Slot.unset).toArray = ls at hl ⊢
  subst hsz
  have hD := hD0.self (sz := sg.heap.size)
  have hFA := apw_A hap (fun k q hk => (hF0 k q hk).lt)
  generalize hAe : va_A [(o, .inr (6, [.int (zI (↑sy)), .ref mA, .ref mR, .ref mW, .int (zI (↑tc)), .ref mC, .ref mS, .int (zI (↑rc)), .ref mL, .ref mT, .ref mH, .ref mY, .ref mE, .ref mG, .ref mB, .ref mO, .int (zI (tw))]))] sg.heap.size = A at hD hFA ⊢
  have hA : ∀ q : Nat, sg.heap.size ≤ q → A q := fun q h => by rw [← hAe]; exact Or.inr h
  have hS : va_S A sg.heap sg.heap [] := va_S.rf
  have hF := hF0
  have hl : lv_has ls 1 [(0, .ref o)] := hl
  refine lv_aload_n hx hb qd_M_admissible_0 rfl (lv_at hl 0 rfl) ?_
  refine lv_iconst (v := zI 0) hx hb qd_M_admissible_1 rfl ?_
  refine va_put (D := (dC, dI)) (ci := 6) (v := .int (zI (0))) (ty := .int) (C := "TermOrdersModel") (T := qT_M) (N := 17) hx hb hg qi_M qt_M qo_M qn_M hown hK hP hD hS 0 rfl rfl 16 (by decide) (hg _ wd_634) (fun _ h9 => h9) rfl (by decide +kernel) rfl rfl (Nat.le_of_ble_eq_true rfl) qd_M_admissible_2 (fun H2_1 L2_1 hP hD hS => ?_)
  have hP : va_P (dC, dI) qcl [(o, .inr (6, [.int (zI (↑sy)), .ref mA, .ref mR, .ref mW, .int (zI (↑tc)), .ref mC, .ref mS, .int (zI (↑rc)), .ref mL, .ref mT, .ref mH, .ref mY, .ref mE, .ref mG, .ref mB, .ref mO, .int (zI (0))]))] H2_1 := hP
  have hD : va_D A [(o, .inr (6, [.int (zI (↑sy)), .ref mA, .ref mR, .ref mW, .int (zI (↑tc)), .ref mC, .ref mS, .int (zI (↑rc)), .ref mL, .ref mT, .ref mH, .ref mY, .ref mE, .ref mG, .ref mB, .ref mO, .int (zI (0))]))] := hD
  have hF := fz_keep hF0 hFA hS
  refine lv_aload_n hx hb qd_M_admissible_5 rfl (lv_at hl 0 rfl) ?_
  refine rd_callB (W.runV (As := []) (rest := []) ⟨hx, hb, hml, hown, hg⟩ (c_M_isAdmissible l dC dI cI cZ cT cJ o mA mR mW mC mS mL mT mH mY mE mG mB mO sy tc rc 0 ar rk wt co sz lf rg hi hv ef gr bd ol hsy hrk har hwt) ⟨callB_of 0 hg (gw_ok (fun _ h => h) wd_773) rfl rfl rfl (hg _ wd_6) (hg _ wd_770) (by decide +kernel) ⟨Nat.le_of_ble_eq_true rfl, Nat.le_of_ble_eq_true rfl⟩, hg _ wd_772, hg _ se_M_isAdmissible⟩ (rd_preV (va_recv (q0 := 0) hK hP rfl rfl) (pw_c (q := (o, .inr (6, [.int (zI (↑sy)), .ref mA, .ref mR, .ref mW, .int (zI (↑tc)), .ref mC, .ref mS, .int (zI (↑rc)), .ref mL, .ref mT, .ref mH, .ref mY, .ref mE, .ref mG, .ref mB, .ref mO, .int (zI (0))]))) hP 0 rfl (pw_c (q := (mA, .inl (cI, 5, .inl (zA ar)))) hF 0 rfl (pw_c (q := (mR, .inl (cI, 5, .inl (zA rk)))) hF 1 rfl (pw_c (q := (mW, .inl (cI, 5, .inl (zA wt)))) hF 2 rfl (pw_nil))))) hK hN) rfl rfl hl.1 rfl (lv_room (Nat.le_of_ble_eq_true rfl)) qd_M_admissible_6 ⟨Nat.le_of_ble_eq_true rfl, Nat.le_of_ble_eq_true rfl⟩) (fun r6 hr6 => ?_)
  exact W.zret (v := zI (bI r6)) (ty := .boolean) hx hb hr (bI_n _) (fun t9 ht9 hW9 => ⟨⟨r6, 0, rfl, ⟨rfl, hr6⟩, mwB_i (by rw [ht9]; exact hP) (va_K.moved hW9.alike hK) hD⟩, hS.F ht9⟩) hS.2.2 qd_M_admissible_9
