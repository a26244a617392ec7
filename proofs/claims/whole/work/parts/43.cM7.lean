set_option maxHeartbeats 4000000 in
set_option maxRecDepth 100000 in
theorem c_M_greater (l : Launch) (dC : Nat → ClassId) (dI : Nat → Nat → Nat) (cI cZ cT cJ : ClassId) (o mA mR mW mC mS mL mT mH mY mE mG mB mO sy tc rc : Nat) (tw : Int) (ar rk wt co : Nat → Int) (sz lf rg : Nat → Nat) (hi hv : Nat → Int) (ef : Nat → Nat) (gr : Nat → Bool) (bd ol : Nat → Int) (tn : Nat → Nat) (TH TM : Nat → Nat → Int) (TE : Nat → Nat → Nat) (HT : Nat → Nat → Int) (x y z : Int) (zh : Nat) (har : ∀ q, q < 5 → 0 ≤ ar q ∧ ar q ≤ 3) (hrk : ∀ q, q < 5 → 0 ≤ rk q ∧ rk q ≤ 4) (hwt : ∀ q, q < 5 → 0 ≤ wt q ∧ wt q ≤ 9) (hsy : sy ≤ 5) (htc : tc ≤ 160) (htp : ∀ t, t < tc → okT sy ar (tn t) (TH t) (TM t) (TE t) (HT t) ∧ sz t = tn t ∧ ∀ q, q < tn t → co (16 * t + q) = TH t q) (h32x : -2147483648 ≤ x ∧ x < 2147483648) (h32y : -2147483648 ≤ y ∧ y < 2147483648) (h32z : -2147483648 ≤ z ∧ z < 2147483648) : Met l qy_M_greater qw_M_greater ({ frames := 6, cells := 0, slots := 0, locals := 154 }) (mwP (dC, dI) qcl (qty cI cZ cT cJ) nwL [(o, .inr (6, [.int (zI (↑sy)), .ref mA, .ref mR, .ref mW, .int (zI (↑tc)), .ref mC, .ref mS, .int (zI (↑rc)), .ref mL, .ref mT, .ref mH, .ref mY, .ref mE, .ref mG, .ref mB, .ref mO, .int (zI (tw))])), (mE, .inl (cI, 32, .inl (zA (eI ef)))), (mY, .inl (cI, 32, .inl (zA hv))), (mG, .inl (cZ, 256, .inl (zB gr)))] [(mA, .inl (cI, 5, .inl (zA ar))), (mR, .inl (cI, 5, .inl (zA rk))), (mW, .inl (cI, 5, .inl (zA wt))), (mC, .inl (cI, 2608, .inl (zA co))), (mS, .inl (cI, 163, .inl (zA (eI sz))))] zh [.ref o, .int (zI (x)), .int (zI (y)), .int (zI (z))]) (mwO (S := (Int) × (Nat → Nat) × (Nat → Int) × (Nat → Bool)) (fun r uq => (¬ (0 ≤ x ∧ x ≤ 1 ∧ 0 ≤ y ∧ y < tc ∧ 0 ≤ z ∧ z < tc) ∧ uq.1 = 1) ∨ ((0 ≤ x ∧ x ≤ 1 ∧ 0 ≤ y ∧ y < tc ∧ 0 ≤ z ∧ z < tc) ∧ uq.1 = 0 ∧ (r = true ↔ gtO x rk wt (TH y.toNat) (TE y.toNat) (TM y.toNat) (tn y.toNat) (TH z.toNat) (TE z.toNat) (TM z.toNat) (tn z.toNat)))) (fun uq tq => mwB (dC, dI) qcl (qty cI cZ cT cJ) (va_A [(o, .inr (6, [.int (zI (↑sy)), .ref mA, .ref mR, .ref mW, .int (zI (↑tc)), .ref mC, .ref mS, .int (zI (↑rc)), .ref mL, .ref mT, .ref mH, .ref mY, .ref mE, .ref mG, .ref mB, .ref mO, .int (zI (tw))])), (mE, .inl (cI, 32, .inl (zA (eI ef)))), (mY, .inl (cI, 32, .inl (zA hv))), (mG, .inl (cZ, 256, .inl (zB gr)))] zh) [(o, .inr (6, [.int (zI (↑sy)), .ref mA, .ref mR, .ref mW, .int (zI (↑tc)), .ref mC, .ref mS, .int (zI (↑rc)), .ref mL, .ref mT, .ref mH, .ref mY, .ref mE, .ref mG, .ref mB, .ref mO, .int (zI (uq.1))])), (mE, .inl (cI, 32, .inl (zA (eI uq.2.1)))), (mY, .inl (cI, 32, .inl (zA uq.2.2.1))), (mG, .inl (cZ, 256, .inl (zB uq.2.2.2)))] tq) (va_A [(o, .inr (6, [.int (zI (↑sy)), .ref mA, .ref mR, .ref mW, .int (zI (↑tc)), .ref mC, .ref mS, .int (zI (↑rc)), .ref mL, .ref mT, .ref mH, .ref mY, .ref mE, .ref mG, .ref mB, .ref mO, .int (zI (tw))])), (mE, .inl (cI, 32, .inl (zA (eI ef)))), (mY, .inl (cI, 32, .inl (zA hv))), (mG, .inl (cZ, 256, .inl (zB gr)))] zh)) 0 0 (va_A [(o, .inr (6, [.int (zI (↑sy)), .ref mA, .ref mR, .ref mW, .int (zI (↑tc)), .ref mC, .ref mS, .int (zI (↑rc)), .ref mL, .ref mT, .ref mH, .ref mY, .ref mE, .ref mG, .ref mB, .ref mO, .int (zI (tw))])), (mE, .inl (cI, 32, .inl (zA (eI ef)))), (mY, .inl (cI, 32, .inl (zA hv))), (mG, .inl (cZ, 256, .inl (zB gr)))] zh) := by
  refine Met.ofW (cc := qc_M_greater) (maxL := 4) (ret := (Option.some Jvm.ClassFile.FieldType.boolean)) (by decide) rfl ?_
  intro pg eg sg mg args below meth cg s₁ B hml hv
  obtain ⟨rfl, hsz, hP, hF0, hK, hN, hD0, hap⟩ := hv
  have hx := B.exec
  have hb := B.bytes
  have hr := B.returns
  have hts := atoms_spec (ws := qw_M_greater) B.pre
  have hg : ∀ w ∈ gw, w.before _ sg = true := fun w h => hts w (List.mem_cons_of_mem _ h)
  have hown : sg.vm.findClass "TermOrdersModel" = some mg.cls := findClass_of_methodNamed B.named
  have hlocks := B.notSynchronized
  have hl := lv_entry ([.ref o, .int (zI (x)), .int (zI (y)), .int (zI (z))]) (n := 4) (Nat.le_of_ble_eq_true rfl)
  rw [lg_entry_eq]
  generalize (lg_sl ([.ref o, .int (zI (x)), .int (zI (y)), .int (zI (z))]) ++ List.replicate (4 - (lg_sl ([.ref o, .int (zI (x)), .int (zI (y)), .int (zI (z))])).length) Slot.unset).toArray = ls at hl ⊢
  subst hsz
  have hD := hD0.self (sz := sg.heap.size)
  have hFA := apw_A hap (fun k q hk => (hF0 k q hk).lt)
  generalize hAe : va_A [(o, .inr (6, [.int (zI (↑sy)), .ref mA, .ref mR, .ref mW, .int (zI (↑tc)), .ref mC, .ref mS, .int (zI (↑rc)), .ref mL, .ref mT, .ref mH, .ref mY, .ref mE, .ref mG, .ref mB, .ref mO, .int (zI (tw))])), (mE, .inl (cI, 32, .inl (zA (eI ef)))), (mY, .inl (cI, 32, .inl (zA hv))), (mG, .inl (cZ, 256, .inl (zB gr)))] sg.heap.size = A at hD hFA ⊢
  have hA : ∀ q : Nat, sg.heap.size ≤ q → A q := fun q h => by rw [← hAe]; exact Or.inr h
  have hS : va_S A sg.heap sg.heap [] := va_S.rf
  have hF := hF0
  have hl : lv_has ls 4 [(0, .ref o), (1, .int (zI (x))), (2, .int (zI (y))), (3, .int (zI (z)))] := hl
  refine lv_aload_n hx hb qd_M_greater_0 rfl (lv_at hl 0 rfl) ?_
  refine lv_iload_n hx hb qd_M_greater_1 rfl (lv_at hl 1 rfl) ?_
  refine zz_if_lt (tgt := 26) hx hb qd_M_greater_2 (by decide) (by omega) (fun h2 => ?_) (fun h2 => ?_)
  · skip
    refine lv_iconst (v := zI 1) hx hb qd_M_greater_26 rfl ?_
    refine lv_goto (tgt := 31) hx hb qd_M_greater_27 (by decide) ?_
    refine va_put (D := (dC, dI)) (ci := 6) (v := .int (zI (1))) (ty := .int) (C := "TermOrdersModel") (T := qT_M) (N := 17) hx hb hg qi_M qt_M qo_M qn_M hown hK hP hD hS 0 rfl rfl 16 (by decide) (hg _ wd_634) (fun _ h9 => h9) rfl (by decide +kernel) rfl rfl (Nat.le_of_ble_eq_true rfl) qd_M_greater_31 (fun H31_1 L31_1 hP hD hS => ?_)
    have hP : va_P (dC, dI) qcl [(o, .inr (6, [.int (zI (↑sy)), .ref mA, .ref mR, .ref mW, .int (zI (↑tc)), .ref mC, .ref mS, .int (zI (↑rc)), .ref mL, .ref mT, .ref mH, .ref mY, .ref mE, .ref mG, .ref mB, .ref mO, .int (zI (1))])), (mE, .inl (cI, 32, .inl (zA (eI ef)))), (mY, .inl (cI, 32, .inl (zA hv))), (mG, .inl (cZ, 256, .inl (zB gr)))] H31_1 := hP
    have hD : va_D A [(o, .inr (6, [.int (zI (↑sy)), .ref mA, .ref mR, .ref mW, .int (zI (↑tc)), .ref mC, .ref mS, .int (zI (↑rc)), .ref mL, .ref mT, .ref mH, .ref mY, .ref mE, .ref mG, .ref mB, .ref mO, .int (zI (1))])), (mE, .inl (cI, 32, .inl (zA (eI ef)))), (mY, .inl (cI, 32, .inl (zA hv))), (mG, .inl (cZ, 256, .inl (zB gr)))] := hD
    have hF := fz_keep hF0 hFA hS
    refine lv_aload_n hx hb qd_M_greater_34 rfl (lv_at hl 0 rfl) ?_
    refine va_get (D := (dC, dI)) (ci := 6) (v := .int (zI (1))) (C := "TermOrdersModel") (T := qT_M) (N := 17) hx hb hg qi_M hown hK hP 0 rfl rfl 16 (by decide) (hg _ wd_634) (fun _ h9 => h9) rfl qd_M_greater_35 ?_
    refine zz_if_ne (tgt := 55) hx hb qd_M_greater_38 (by decide) (by omega) (fun h38 => ?_) (fun h38 => ?_)
    · skip
      refine lv_iconst (v := zI 0) hx hb qd_M_greater_55 rfl ?_
      exact W.zret (v := zI (bI false)) (ty := .boolean) hx hb hr (bI_n _) (fun t9 ht9 hW9 => ⟨⟨false, (1, ef, hv, gr), rfl, (Or.inl ⟨by omega, rfl⟩), mwB_i (by rw [ht9]; exact hP) (va_K.moved hW9.alike hK) hD⟩, hS.F ht9⟩) hS.2.2 qd_M_greater_56
    · skip
      exfalso
      omega
  · skip
    refine lv_iload_n hx hb qd_M_greater_5 rfl (lv_at hl 1 rfl) ?_
    refine lv_iconst (v := zI 1) hx hb qd_M_greater_6 rfl ?_
    refine zz_icmp_gt (tgt := 26) hx hb qd_M_greater_7 (by decide) (by omega) (by omega) (fun h7 => ?_) (fun h7 => ?_)
    · skip
      refine lv_iconst (v := zI 1) hx hb qd_M_greater_26 rfl ?_
      refine lv_goto (tgt := 31) hx hb qd_M_greater_27 (by decide) ?_
      refine va_put (D := (dC, dI)) (ci := 6) (v := .int (zI (1))) (ty := .int) (C := "TermOrdersModel") (T := qT_M) (N := 17) hx hb hg qi_M qt_M qo_M qn_M hown hK hP hD hS 0 rfl rfl 16 (by decide) (hg _ wd_634) (fun _ h9 => h9) rfl (by decide +kernel) rfl rfl (Nat.le_of_ble_eq_true rfl) qd_M_greater_31 (fun H31_2 L31_2 hP hD hS => ?_)
      have hP : va_P (dC, dI) qcl [(o, .inr (6, [.int (zI (↑sy)), .ref mA, .ref mR, .ref mW, .int (zI (↑tc)), .ref mC, .ref mS, .int (zI (↑rc)), .ref mL, .ref mT, .ref mH, .ref mY, .ref mE, .ref mG, .ref mB, .ref mO, .int (zI (1))])), (mE, .inl (cI, 32, .inl (zA (eI ef)))), (mY, .inl (cI, 32, .inl (zA hv))), (mG, .inl (cZ, 256, .inl (zB gr)))] H31_2 := hP
      have hD : va_D A [(o, .inr (6, [.int (zI (↑sy)), .ref mA, .ref mR, .ref mW, .int (zI (↑tc)), .ref mC, .ref mS, .int (zI (↑rc)), .ref mL, .ref mT, .ref mH, .ref mY, .ref mE, .ref mG, .ref mB, .ref mO, .int (zI (1))])), (mE, .inl (cI, 32, .inl (zA (eI ef)))), (mY, .inl (cI, 32, .inl (zA hv))), (mG, .inl (cZ, 256, .inl (zB gr)))] := hD
      have hF := fz_keep hF0 hFA hS
      refine lv_aload_n hx hb qd_M_greater_34 rfl (lv_at hl 0 rfl) ?_
      refine va_get (D := (dC, dI)) (ci := 6) (v := .int (zI (1))) (C := "TermOrdersModel") (T := qT_M) (N := 17) hx hb hg qi_M hown hK hP 0 rfl rfl 16 (by decide) (hg _ wd_634) (fun _ h9 => h9) rfl qd_M_greater_35 ?_
      refine zz_if_ne (tgt := 55) hx hb qd_M_greater_38 (by decide) (by omega) (fun h38 => ?_) (fun h38 => ?_)
      · skip
        refine lv_iconst (v := zI 0) hx hb qd_M_greater_55 rfl ?_
        exact W.zret (v := zI (bI false)) (ty := .boolean) hx hb hr (bI_n _) (fun t9 ht9 hW9 => ⟨⟨false, (1, ef, hv, gr), rfl, (Or.inl ⟨by omega, rfl⟩), mwB_i (by rw [ht9]; exact hP) (va_K.moved hW9.alike hK) hD⟩, hS.F ht9⟩) hS.2.2 qd_M_greater_56
      · skip
        exfalso
        omega
    · skip
      refine lv_aload_n hx hb qd_M_greater_10 rfl (lv_at hl 0 rfl) ?_
      refine lv_iload_n hx hb qd_M_greater_11 rfl (lv_at hl 2 rfl) ?_
      refine rd_callB (W.runV (As := [.int (zI (y))]) (rest := [.ref o]) ⟨hx, hb, hml, hown, hg⟩ (c_M_isTerm l dC dI cI cZ cT cJ o mA mR mW mC mS mL mT mH mY mE mG mB mO sy tc rc tw ar rk wt co sz lf rg hi hv ef gr bd ol y htc h32y) ⟨callB_of 1 hg (gw_ok (fun _ h => h) wd_693) rfl rfl rfl (hg _ wd_6) (hg _ wd_690) (by decide +kernel) ⟨Nat.le_of_ble_eq_true rfl, Nat.le_of_ble_eq_true rfl⟩, hg _ wd_692, hg _ se_M_isTerm⟩ (rd_preV (va_recv (q0 := 0) hK hP rfl rfl) (pw_c (q := (o, .inr (6, [.int (zI (↑sy)), .ref mA, .ref mR, .ref mW, .int (zI (↑tc)), .ref mC, .ref mS, .int (zI (↑rc)), .ref mL, .ref mT, .ref mH, .ref mY, .ref mE, .ref mG, .ref mB, .ref mO, .int (zI (tw))]))) hP 0 rfl (pw_nil)) hK hN) rfl rfl hl.1 rfl (lv_room (Nat.le_of_ble_eq_true rfl)) qd_M_greater_12 ⟨Nat.le_of_ble_eq_true rfl, Nat.le_of_ble_eq_true rfl⟩) (fun r12 hr12 => ?_)
      refine zz_ifeqB (tgt := 26) hx hb qd_M_greater_15 (by decide) (fun h15 => ?_) (fun h15 => ?_)
      · skip
        have hny : ¬ (0 ≤ y ∧ y < tc) := fun z9 => by rw [hr12.mpr z9] at h15; exact Bool.noConfusion h15
        refine lv_iconst (v := zI 1) hx hb qd_M_greater_26 rfl ?_
        refine lv_goto (tgt := 31) hx hb qd_M_greater_27 (by decide) ?_
        refine va_put (D := (dC, dI)) (ci := 6) (v := .int (zI (1))) (ty := .int) (C := "TermOrdersModel") (T := qT_M) (N := 17) hx hb hg qi_M qt_M qo_M qn_M hown hK hP hD hS 0 rfl rfl 16 (by decide) (hg _ wd_634) (fun _ h9 => h9) rfl (by decide +kernel) rfl rfl (Nat.le_of_ble_eq_true rfl) qd_M_greater_31 (fun H31_3 L31_3 hP hD hS => ?_)
        have hP : va_P (dC, dI) qcl [(o, .inr (6, [.int (zI (↑sy)), .ref mA, .ref mR, .ref mW, .int (zI (↑tc)), .ref mC, .ref mS, .int (zI (↑rc)), .ref mL, .ref mT, .ref mH, .ref mY, .ref mE, .ref mG, .ref mB, .ref mO, .int (zI (1))])), (mE, .inl (cI, 32, .inl (zA (eI ef)))), (mY, .inl (cI, 32, .inl (zA hv))), (mG, .inl (cZ, 256, .inl (zB gr)))] H31_3 := hP
        have hD : va_D A [(o, .inr (6, [.int (zI (↑sy)), .ref mA, .ref mR, .ref mW, .int (zI (↑tc)), .ref mC, .ref mS, .int (zI (↑rc)), .ref mL, .ref mT, .ref mH, .ref mY, .ref mE, .ref mG, .ref mB, .ref mO, .int (zI (1))])), (mE, .inl (cI, 32, .inl (zA (eI ef)))), (mY, .inl (cI, 32, .inl (zA hv))), (mG, .inl (cZ, 256, .inl (zB gr)))] := hD
        have hF := fz_keep hF0 hFA hS
        refine lv_aload_n hx hb qd_M_greater_34 rfl (lv_at hl 0 rfl) ?_
        refine va_get (D := (dC, dI)) (ci := 6) (v := .int (zI (1))) (C := "TermOrdersModel") (T := qT_M) (N := 17) hx hb hg qi_M hown hK hP 0 rfl rfl 16 (by decide) (hg _ wd_634) (fun _ h9 => h9) rfl qd_M_greater_35 ?_
        refine zz_if_ne (tgt := 55) hx hb qd_M_greater_38 (by decide) (by omega) (fun h38 => ?_) (fun h38 => ?_)
        · skip
          refine lv_iconst (v := zI 0) hx hb qd_M_greater_55 rfl ?_
          exact W.zret (v := zI (bI false)) (ty := .boolean) hx hb hr (bI_n _) (fun t9 ht9 hW9 => ⟨⟨false, (1, ef, hv, gr), rfl, (Or.inl ⟨by omega, rfl⟩), mwB_i (by rw [ht9]; exact hP) (va_K.moved hW9.alike hK) hD⟩, hS.F ht9⟩) hS.2.2 qd_M_greater_56
        · skip
          exfalso
          omega
      · skip
        have hyy := hr12.mp h15
        refine lv_aload_n hx hb qd_M_greater_18 rfl (lv_at hl 0 rfl) ?_
        refine lv_iload_n hx hb qd_M_greater_19 rfl (lv_at hl 3 rfl) ?_
        refine rd_callB (W.runV (As := [.int (zI (z))]) (rest := [.ref o]) ⟨hx, hb, hml, hown, hg⟩ (c_M_isTerm l dC dI cI cZ cT cJ o mA mR mW mC mS mL mT mH mY mE mG mB mO sy tc rc tw ar rk wt co sz lf rg hi hv ef gr bd ol z htc h32z) ⟨callB_of 1 hg (gw_ok (fun _ h => h) wd_693) rfl rfl rfl (hg _ wd_6) (hg _ wd_690) (by decide +kernel) ⟨Nat.le_of_ble_eq_true rfl, Nat.le_of_ble_eq_true rfl⟩, hg _ wd_692, hg _ se_M_isTerm⟩ (rd_preV (va_recv (q0 := 0) hK hP rfl rfl) (pw_c (q := (o, .inr (6, [.int (zI (↑sy)), .ref mA, .ref mR, .ref mW, .int (zI (↑tc)), .ref mC, .ref mS, .int (zI (↑rc)), .ref mL, .ref mT, .ref mH, .ref mY, .ref mE, .ref mG, .ref mB, .ref mO, .int (zI (tw))]))) hP 0 rfl (pw_nil)) hK hN) rfl rfl hl.1 rfl (lv_room (Nat.le_of_ble_eq_true rfl)) qd_M_greater_20 ⟨Nat.le_of_ble_eq_true rfl, Nat.le_of_ble_eq_true rfl⟩) (fun r20 hr20 => ?_)
        refine zz_ifneB (tgt := 30) hx hb qd_M_greater_23 (by decide) (fun h23 => ?_) (fun h23 => ?_)
        · skip
          have hyz := hr20.mp h23
          have hta := htp y.toNat (by omega)
          have htb := htp z.toNat (by omega)
          refine lv_iconst (v := zI 0) hx hb qd_M_greater_30 rfl ?_
          refine va_put (D := (dC, dI)) (ci := 6) (v := .int (zI (0))) (ty := .int) (C := "TermOrdersModel") (T := qT_M) (N := 17) hx hb hg qi_M qt_M qo_M qn_M hown hK hP hD hS 0 rfl rfl 16 (by decide) (hg _ wd_634) (fun _ h9 => h9) rfl (by decide +kernel) rfl rfl (Nat.le_of_ble_eq_true rfl) qd_M_greater_31 (fun H31_4 L31_4 hP hD hS => ?_)
          have hP : va_P (dC, dI) qcl [(o, .inr (6, [.int (zI (↑sy)), .ref mA, .ref mR, .ref mW, .int (zI (↑tc)), .ref mC, .ref mS, .int (zI (↑rc)), .ref mL, .ref mT, .ref mH, .ref mY, .ref mE, .ref mG, .ref mB, .ref mO, .int (zI (0))])), (mE, .inl (cI, 32, .inl (zA (eI ef)))), (mY, .inl (cI, 32, .inl (zA hv))), (mG, .inl (cZ, 256, .inl (zB gr)))] H31_4 := hP
          have hD : va_D A [(o, .inr (6, [.int (zI (↑sy)), .ref mA, .ref mR, .ref mW, .int (zI (↑tc)), .ref mC, .ref mS, .int (zI (↑rc)), .ref mL, .ref mT, .ref mH, .ref mY, .ref mE, .ref mG, .ref mB, .ref mO, .int (zI (0))])), (mE, .inl (cI, 32, .inl (zA (eI ef)))), (mY, .inl (cI, 32, .inl (zA hv))), (mG, .inl (cZ, 256, .inl (zB gr)))] := hD
          have hF := fz_keep hF0 hFA hS
          refine lv_aload_n hx hb qd_M_greater_34 rfl (lv_at hl 0 rfl) ?_
          refine va_get (D := (dC, dI)) (ci := 6) (v := .int (zI (0))) (C := "TermOrdersModel") (T := qT_M) (N := 17) hx hb hg qi_M hown hK hP 0 rfl rfl 16 (by decide) (hg _ wd_634) (fun _ h9 => h9) rfl qd_M_greater_35 ?_
          refine zz_if_ne (tgt := 55) hx hb qd_M_greater_38 (by decide) (by omega) (fun h38 => ?_) (fun h38 => ?_)
          · skip
            exfalso
            omega
          · skip
            refine lv_aload_n hx hb qd_M_greater_41 rfl (lv_at hl 0 rfl) ?_
            refine lv_iload_n hx hb qd_M_greater_42 rfl (lv_at hl 1 rfl) ?_
            refine lv_iload_n hx hb qd_M_greater_43 rfl (lv_at hl 2 rfl) ?_
            refine zz_top (b := ↑y.toNat) (by omega) ?_
            refine lv_iload_n hx hb qd_M_greater_44 rfl (lv_at hl 3 rfl) ?_
            refine zz_top (b := ↑z.toNat) (by omega) ?_
            have hPc := hP.sub (ws' := [(mE, .inl (cI, 32, .inl (zA (eI ef)))), (mY, .inl (cI, 32, .inl (zA hv))), (mG, .inl (cZ, 256, .inl (zB gr)))]) [1, 2, 3] rfl
            have hDc := hD.sub (ws' := [(mE, .inl (cI, 32, .inl (zA (eI ef)))), (mY, .inl (cI, 32, .inl (zA hv))), (mG, .inl (cZ, 256, .inl (zB gr)))]) [1, 2, 3] (by decide) rfl
            have hFr := va_free (wc := [(mE, .inl (cI, 32, .inl (zA (eI ef)))), (mY, .inl (cI, 32, .inl (zA hv))), (mG, .inl (cZ, 256, .inl (zB gr)))]) hD hS hA [1, 2, 3] rfl
            refine mw_callO (va_runV (As := [.int (zI (x)), .int (zI (↑y.toNat)), .int (zI (↑z.toNat))]) (rest := []) ⟨hx, hb, hml, hown, hg⟩ (c_M_isGreater l dC dI cI cZ cT cJ o mA mR mW mC mS mL mT mH mY mE mG mB mO sy tc rc 0 ar rk wt co sz lf rg hi hv ef gr bd ol y.toNat z.toNat (tn y.toNat) (TH y.toNat) (TM y.toNat) (TE y.toNat) (tn z.toNat) (TH z.toNat) (TM z.toNat) (TE z.toNat) x H31_4.size har hrk hwt (by omega) (by omega) hta.1.2.1 hta.2.1 hta.2.2 hta.1.2.2.2.1 (okT_hh hsy hta.1) hta.1.2.2.2.2.1 hta.1.1 htb.1.2.1 htb.2.1 htb.2.2 htb.1.2.2.2.1 (okT_hh hsy htb.1) htb.1.2.2.2.2.1 htb.1.1 (by omega)) ⟨callB_of 3 hg (gw_ok (fun _ h => h) wd_737) rfl rfl rfl (hg _ wd_6) (hg _ wd_734) (by decide +kernel) ⟨Nat.le_of_ble_eq_true rfl, Nat.le_of_ble_eq_true rfl⟩, hg _ wd_736, hg _ se_M_isGreater⟩ (mw_preV (va_recv (q0 := 0) hK hP rfl rfl) hPc (pw_c (q := (o, .inr (6, [.int (zI (↑sy)), .ref mA, .ref mR, .ref mW, .int (zI (↑tc)), .ref mC, .ref mS, .int (zI (↑rc)), .ref mL, .ref mT, .ref mH, .ref mY, .ref mE, .ref mG, .ref mB, .ref mO, .int (zI (0))]))) hP 0 rfl (pw_c (q := (mA, .inl (cI, 5, .inl (zA ar)))) hF 0 rfl (pw_c (q := (mR, .inl (cI, 5, .inl (zA rk)))) hF 1 rfl (pw_c (q := (mW, .inl (cI, 5, .inl (zA wt)))) hF 2 rfl (pw_c (q := (mC, .inl (cI, 2608, .inl (zA co)))) hF 3 rfl (pw_c (q := (mS, .inl (cI, 163, .inl (zA (eI sz))))) hF 4 rfl (pw_nil))))))) hK hN hDc (apw_c (q := (o, .inr (6, [.int (zI (↑sy)), .ref mA, .ref mR, .ref mW, .int (zI (↑tc)), .ref mC, .ref mS, .int (zI (↑rc)), .ref mL, .ref mT, .ref mH, .ref mY, .ref mE, .ref mG, .ref mB, .ref mO, .int (zI (0))]))) (apw_m hD [1, 2, 3] rfl 0 rfl (by decide)) (apw_c (q := (mA, .inl (cI, 5, .inl (zA ar)))) (apw_f hD [1, 2, 3] rfl (hFA 0 _ rfl)) (apw_c (q := (mR, .inl (cI, 5, .inl (zA rk)))) (apw_f hD [1, 2, 3] rfl (hFA 1 _ rfl)) (apw_c (q := (mW, .inl (cI, 5, .inl (zA wt)))) (apw_f hD [1, 2, 3] rfl (hFA 2 _ rfl)) (apw_c (q := (mC, .inl (cI, 2608, .inl (zA co)))) (apw_f hD [1, 2, 3] rfl (hFA 3 _ rfl)) (apw_c (q := (mS, .inl (cI, 163, .inl (zA (eI sz))))) (apw_f hD [1, 2, 3] rfl (hFA 4 _ rfl)) (apw_nil)))))))) rfl rfl hl.1 rfl (lv_room (Nat.le_of_ble_eq_true rfl)) qd_M_greater_45 ⟨Nat.le_of_ble_eq_true rfl, Nat.le_of_ble_eq_true rfl⟩) hS (fun q _ h => hFr q h) hFr (fun r45 u9 t9 H45_5 L45_5 ht9 hv9 hr45 hB9 hz9 hk9 hS => ?_)
            obtain ⟨e3, v3, g3⟩ := u9
            try dsimp only at hr45 hB9
            obtain ⟨hP, hD⟩ := mw_join (wr := [(o, .inr (6, [.int (zI (↑sy)), .ref mA, .ref mR, .ref mW, .int (zI (↑tc)), .ref mC, .ref mS, .int (zI (↑rc)), .ref mL, .ref mT, .ref mH, .ref mY, .ref mE, .ref mG, .ref mB, .ref mO, .int (zI (0))]))]) (w1 := [(mE, .inl (cI, 32, .inl (zA (eI e3)))), (mY, .inl (cI, 32, .inl (zA v3))), (mG, .inl (cZ, 256, .inl (zB g3)))]) hP hD [1, 2, 3] [0] rfl rfl (by decide) (by decide) hk9 hFr ht9 hB9
            have hP := hP.sub (ws' := [(o, .inr (6, [.int (zI (↑sy)), .ref mA, .ref mR, .ref mW, .int (zI (↑tc)), .ref mC, .ref mS, .int (zI (↑rc)), .ref mL, .ref mT, .ref mH, .ref mY, .ref mE, .ref mG, .ref mB, .ref mO, .int (zI (0))])), (mE, .inl (cI, 32, .inl (zA (eI e3)))), (mY, .inl (cI, 32, .inl (zA v3))), (mG, .inl (cZ, 256, .inl (zB g3)))]) [0, 1, 2, 3] rfl
            have hD := hD.sub (ws' := [(o, .inr (6, [.int (zI (↑sy)), .ref mA, .ref mR, .ref mW, .int (zI (↑tc)), .ref mC, .ref mS, .int (zI (↑rc)), .ref mL, .ref mT, .ref mH, .ref mY, .ref mE, .ref mG, .ref mB, .ref mO, .int (zI (0))])), (mE, .inl (cI, 32, .inl (zA (eI e3)))), (mY, .inl (cI, 32, .inl (zA v3))), (mG, .inl (cZ, 256, .inl (zB g3)))]) [0, 1, 2, 3] (by decide) rfl
            have hF := fz_keep hF0 hFA hS
            refine zz_ifeqB (tgt := 55) hx hb qd_M_greater_48 (by decide) (fun h48 => ?_) (fun h48 => ?_)
            · skip
              refine lv_iconst (v := zI 0) hx hb qd_M_greater_55 rfl ?_
              exact W.zret (v := zI (bI false)) (ty := .boolean) hx hb hr (bI_n _) (fun t9 ht9 hW9 => ⟨⟨false, (0, e3, v3, g3), rfl, (Or.inr ⟨by omega, rfl, by first | exact bT (hr45.mp h48) | exact bF (fun z9 => by rw [hr45.mpr z9] at h48; exact Bool.noConfusion h48)⟩), mwB_i (by rw [ht9]; exact hP) (va_K.moved hW9.alike hK) hD⟩, hS.F ht9⟩) hS.2.2 qd_M_greater_56
            · skip
              refine lv_iconst (v := zI 1) hx hb qd_M_greater_51 rfl ?_
              refine lv_goto (tgt := 56) hx hb qd_M_greater_52 (by decide) ?_
              exact W.zret (v := zI (bI true)) (ty := .boolean) hx hb hr (bI_n _) (fun t9 ht9 hW9 => ⟨⟨true, (0, e3, v3, g3), rfl, (Or.inr ⟨by omega, rfl, by first | exact bT (hr45.mp h48) | exact bF (fun z9 => by rw [hr45.mpr z9] at h48; exact Bool.noConfusion h48)⟩), mwB_i (by rw [ht9]; exact hP) (va_K.moved hW9.alike hK) hD⟩, hS.F ht9⟩) hS.2.2 qd_M_greater_56
        · skip
          have hnz : ¬ (0 ≤ z ∧ z < tc) := fun z9 => by rw [hr20.mpr z9] at h23; exact Bool.noConfusion h23
          refine lv_iconst (v := zI 1) hx hb qd_M_greater_26 rfl ?_
          refine lv_goto (tgt := 31) hx hb qd_M_greater_27 (by decide) ?_
          refine va_put (D := (dC, dI)) (ci := 6) (v := .int (zI (1))) (ty := .int) (C := "TermOrdersModel") (T := qT_M) (N := 17) hx hb hg qi_M qt_M qo_M qn_M hown hK hP hD hS 0 rfl rfl 16 (by decide) (hg _ wd_634) (fun _ h9 => h9) rfl (by decide +kernel) rfl rfl (Nat.le_of_ble_eq_true rfl) qd_M_greater_31 (fun H31_6 L31_6 hP hD hS => ?_)
          have hP : va_P (dC, dI) qcl [(o, .inr (6, [.int (zI (↑sy)), .ref mA, .ref mR, .ref mW, .int (zI (↑tc)), .ref mC, .ref mS, .int (zI (↑rc)), .ref mL, .ref mT, .ref mH, .ref mY, .ref mE, .ref mG, .ref mB, .ref mO, .int (zI (1))])), (mE, .inl (cI, 32, .inl (zA (eI ef)))), (mY, .inl (cI, 32, .inl (zA hv))), (mG, .inl (cZ, 256, .inl (zB gr)))] H31_6 := hP
          have hD : va_D A [(o, .inr (6, [.int (zI (↑sy)), .ref mA, .ref mR, .ref mW, .int (zI (↑tc)), .ref mC, .ref mS, .int (zI (↑rc)), .ref mL, .ref mT, .ref mH, .ref mY, .ref mE, .ref mG, .ref mB, .ref mO, .int (zI (1))])), (mE, .inl (cI, 32, .inl (zA (eI ef)))), (mY, .inl (cI, 32, .inl (zA hv))), (mG, .inl (cZ, 256, .inl (zB gr)))] := hD
          have hF := fz_keep hF0 hFA hS
          refine lv_aload_n hx hb qd_M_greater_34 rfl (lv_at hl 0 rfl) ?_
          refine va_get (D := (dC, dI)) (ci := 6) (v := .int (zI (1))) (C := "TermOrdersModel") (T := qT_M) (N := 17) hx hb hg qi_M hown hK hP 0 rfl rfl 16 (by decide) (hg _ wd_634) (fun _ h9 => h9) rfl qd_M_greater_35 ?_
          refine zz_if_ne (tgt := 55) hx hb qd_M_greater_38 (by decide) (by omega) (fun h38 => ?_) (fun h38 => ?_)
          · skip
            refine lv_iconst (v := zI 0) hx hb qd_M_greater_55 rfl ?_
            exact W.zret (v := zI (bI false)) (ty := .boolean) hx hb hr (bI_n _) (fun t9 ht9 hW9 => ⟨⟨false, (1, ef, hv, gr), rfl, (Or.inl ⟨by omega, rfl⟩), mwB_i (by rw [ht9]; exact hP) (va_K.moved hW9.alike hK) hD⟩, hS.F ht9⟩) hS.2.2 qd_M_greater_56
          · skip
            exfalso
            omega
set_option maxHeartbeats 4000000 in
set_option maxRecDepth 100000 in
theorem c_M_oriented (l : Launch) (dC : Nat → ClassId) (dI : Nat → Nat → Nat) (cI cZ cT cJ : ClassId) (o mA mR mW mC mS mL mT mH mY mE mG mB mO sy tc rc : Nat) (tw : Int) (ar rk wt co : Nat → Int) (sz lf rg : Nat → Nat) (hi hv : Nat → Int) (ef : Nat → Nat) (gr : Nat → Bool) (bd ol : Nat → Int) (tn : Nat → Nat) (TH TM : Nat → Nat → Int) (TE : Nat → Nat → Nat) (HT : Nat → Nat → Int) (x : Int) (zh : Nat) (har : ∀ q, q < 5 → 0 ≤ ar q ∧ ar q ≤ 3) (hrk : ∀ q, q < 5 → 0 ≤ rk q ∧ rk q ≤ 4) (hwt : ∀ q, q < 5 → 0 ≤ wt q ∧ wt q ≤ 9) (hsy : sy ≤ 5) (htc : tc ≤ 160) (htp : ∀ t, t < tc → okT sy ar (tn t) (TH t) (TM t) (TE t) (HT t) ∧ sz t = tn t ∧ ∀ q, q < tn t → co (16 * t + q) = TH t q) (hrc : rc ≤ 8) (hlr : ∀ r, r < rc → lf r < tc ∧ rg r < tc ∧ ∀ q, q < tn (rg r) → TH (rg r) q < 0 → ∃ k, k < tn (lf r) ∧ TH (lf r) k = TH (rg r) q) (h32x : -2147483648 ≤ x ∧ x < 2147483648) : Met l qy_M_oriented qw_M_oriented ({ frames := 7, cells := 0, slots := 0, locals := 177 }) (mwP (dC, dI) qcl (qty cI cZ cT cJ) nwL [(o, .inr (6, [.int (zI (↑sy)), .ref mA, .ref mR, .ref mW, .int (zI (↑tc)), .ref mC, .ref mS, .int (zI (↑rc)), .ref mL, .ref mT, .ref mH, .ref mY, .ref mE, .ref mG, .ref mB, .ref mO, .int (zI (tw))])), (mE, .inl (cI, 32, .inl (zA (eI ef)))), (mY, .inl (cI, 32, .inl (zA hv))), (mG, .inl (cZ, 256, .inl (zB gr)))] [(mA, .inl (cI, 5, .inl (zA ar))), (mR, .inl (cI, 5, .inl (zA rk))), (mW, .inl (cI, 5, .inl (zA wt))), (mC, .inl (cI, 2608, .inl (zA co))), (mS, .inl (cI, 163, .inl (zA (eI sz)))), (mL, .inl (cI, 8, .inl (zA (eI lf)))), (mT, .inl (cI, 8, .inl (zA (eI rg))))] zh [.ref o, .int (zI (x))]) (va_Qi (S := (Int) × (Nat → Nat) × (Nat → Int) × (Nat → Bool)) (fun r uq => (¬ (0 ≤ x ∧ x ≤ 1) ∧ uq.1 = 1) ∨ ((0 ≤ x ∧ x ≤ 1) ∧ uq.1 = 0 ∧ r = obI (fun r => gtO x rk wt (TH (lf r)) (TE (lf r)) (TM (lf r)) (tn (lf r)) (TH (rg r)) (TE (rg r)) (TM (rg r)) (tn (rg r))) rc)) (fun uq tq => mwB (dC, dI) qcl (qty cI cZ cT cJ) (va_A [(o, .inr (6, [.int (zI (↑sy)), .ref mA, .ref mR, .ref mW, .int (zI (↑tc)), .ref mC, .ref mS, .int (zI (↑rc)), .ref mL, .ref mT, .ref mH, .ref mY, .ref mE, .ref mG, .ref mB, .ref mO, .int (zI (tw))])), (mE, .inl (cI, 32, .inl (zA (eI ef)))), (mY, .inl (cI, 32, .inl (zA hv))), (mG, .inl (cZ, 256, .inl (zB gr)))] zh) [(o, .inr (6, [.int (zI (↑sy)), .ref mA, .ref mR, .ref mW, .int (zI (↑tc)), .ref mC, .ref mS, .int (zI (↑rc)), .ref mL, .ref mT, .ref mH, .ref mY, .ref mE, .ref mG, .ref mB, .ref mO, .int (zI (uq.1))])), (mE, .inl (cI, 32, .inl (zA (eI uq.2.1)))), (mY, .inl (cI, 32, .inl (zA uq.2.2.1))), (mG, .inl (cZ, 256, .inl (zB uq.2.2.2)))] tq) (va_A [(o, .inr (6, [.int (zI (↑sy)), .ref mA, .ref mR, .ref mW, .int (zI (↑tc)), .ref mC, .ref mS, .int (zI (↑rc)), .ref mL, .ref mT, .ref mH, .ref mY, .ref mE, .ref mG, .ref mB, .ref mO, .int (zI (tw))])), (mE, .inl (cI, 32, .inl (zA (eI ef)))), (mY, .inl (cI, 32, .inl (zA hv))), (mG, .inl (cZ, 256, .inl (zB gr)))] zh)) 0 0 (va_A [(o, .inr (6, [.int (zI (↑sy)), .ref mA, .ref mR, .ref mW, .int (zI (↑tc)), .ref mC, .ref mS, .int (zI (↑rc)), .ref mL, .ref mT, .ref mH, .ref mY, .ref mE, .ref mG, .ref mB, .ref mO, .int (zI (tw))])), (mE, .inl (cI, 32, .inl (zA (eI ef)))), (mY, .inl (cI, 32, .inl (zA hv))), (mG, .inl (cZ, 256, .inl (zB gr)))] zh) := by
  refine Met.ofW (cc := qc_M_oriented) (maxL := 2) (ret := (Option.some Jvm.ClassFile.FieldType.int)) (by decide) rfl ?_
  intro pg eg sg mg args below meth cg s₁ B hml hv
  obtain ⟨rfl, hsz, hP, hF0, hK, hN, hD0, hap⟩ := hv
  have hx := B.exec
  have hb := B.bytes
  have hr := B.returns
  have hts := atoms_spec (ws := qw_M_oriented) B.pre
  have hg : ∀ w ∈ gw, w.before _ sg = true := fun w h => hts w (List.mem_cons_of_mem _ h)
  have hown : sg.vm.findClass "TermOrdersModel" = some mg.cls := findClass_of_methodNamed B.named
  have hlocks := B.notSynchronized
  have hl := lv_entry ([.ref o, .int (zI (x))]) (n := 2) (Nat.le_of_ble_eq_true rfl)
  rw [lg_entry_eq]
  generalize (lg_sl ([.ref o, .int (zI (x))]) ++ List.replicate (2 - (lg_sl ([.ref o, .int (zI (x))])).length) Slot.unset).toArray = ls at hl ⊢
  subst hsz
  have hD := hD0.self (sz := sg.heap.size)
  have hFA := apw_A hap (fun k q hk => (hF0 k q hk).lt)
  generalize hAe : va_A [(o, .inr (6, [.int (zI (↑sy)), .ref mA, .ref mR, .ref mW, .int (zI (↑tc)), .ref mC, .ref mS, .int (zI (↑rc)), .ref mL, .ref mT, .ref mH, .ref mY, .ref mE, .ref mG, .ref mB, .ref mO, .int (zI (tw))])), (mE, .inl (cI, 32, .inl (zA (eI ef)))), (mY, .inl (cI, 32, .inl (zA hv))), (mG, .inl (cZ, 256, .inl (zB gr)))] sg.heap.size = A at hD hFA ⊢
  have hA : ∀ q : Nat, sg.heap.size ≤ q → A q := fun q h => by rw [← hAe]; exact Or.inr h
  have hS : va_S A sg.heap sg.heap [] := va_S.rf
  have hF := hF0
  have hl : lv_has ls 2 [(0, .ref o), (1, .int (zI (x)))] := hl
  refine lv_aload_n hx hb qd_M_oriented_0 rfl (lv_at hl 0 rfl) ?_
  refine lv_iload_n hx hb qd_M_oriented_1 rfl (lv_at hl 1 rfl) ?_
  refine zz_if_lt (tgt := 10) hx hb qd_M_oriented_2 (by decide) (by omega) (fun h2 => ?_) (fun h2 => ?_)
  · skip
    refine lv_iconst (v := zI 1) hx hb qd_M_oriented_10 rfl ?_
    refine lv_goto (tgt := 15) hx hb qd_M_oriented_11 (by decide) ?_
    refine va_put (D := (dC, dI)) (ci := 6) (v := .int (zI (1))) (ty := .int) (C := "TermOrdersModel") (T := qT_M) (N := 17) hx hb hg qi_M qt_M qo_M qn_M hown hK hP hD hS 0 rfl rfl 16 (by decide) (hg _ wd_634) (fun _ h9 => h9) rfl (by decide +kernel) rfl rfl (Nat.le_of_ble_eq_true rfl) qd_M_oriented_15 (fun H15_1 L15_1 hP hD hS => ?_)
    have hP : va_P (dC, dI) qcl [(o, .inr (6, [.int (zI (↑sy)), .ref mA, .ref mR, .ref mW, .int (zI (↑tc)), .ref mC, .ref mS, .int (zI (↑rc)), .ref mL, .ref mT, .ref mH, .ref mY, .ref mE, .ref mG, .ref mB, .ref mO, .int (zI (1))])), (mE, .inl (cI, 32, .inl (zA (eI ef)))), (mY, .inl (cI, 32, .inl (zA hv))), (mG, .inl (cZ, 256, .inl (zB gr)))] H15_1 := hP
    have hD : va_D A [(o, .inr (6, [.int (zI (↑sy)), .ref mA, .ref mR, .ref mW, .int (zI (↑tc)), .ref mC, .ref mS, .int (zI (↑rc)), .ref mL, .ref mT, .ref mH, .ref mY, .ref mE, .ref mG, .ref mB, .ref mO, .int (zI (1))])), (mE, .inl (cI, 32, .inl (zA (eI ef)))), (mY, .inl (cI, 32, .inl (zA hv))), (mG, .inl (cZ, 256, .inl (zB gr)))] := hD
    have hF := fz_keep hF0 hFA hS
    refine lv_aload_n hx hb qd_M_oriented_18 rfl (lv_at hl 0 rfl) ?_
    refine va_get (D := (dC, dI)) (ci := 6) (v := .int (zI (1))) (C := "TermOrdersModel") (T := qT_M) (N := 17) hx hb hg qi_M hown hK hP 0 rfl rfl 16 (by decide) (hg _ wd_634) (fun _ h9 => h9) rfl qd_M_oriented_19 ?_
    refine zz_if_ne (tgt := 33) hx hb qd_M_oriented_22 (by decide) (by omega) (fun h22 => ?_) (fun h22 => ?_)
    · skip
      refine lv_iconst (v := zI 0) hx hb qd_M_oriented_33 rfl ?_
      exact W.iret (v := zI 0) hx hb hr (fun t9 ht9 hW9 => ⟨⟨zI 0, (1, ef, hv, gr), rfl, (Or.inl ⟨by omega, rfl⟩), mwB_i (by rw [ht9]; exact hP) (va_K.moved hW9.alike hK) hD⟩, hS.F ht9⟩) hS.2.2 qd_M_oriented_34
    · skip
      exfalso
      omega
  · skip
    refine lv_iload_n hx hb qd_M_oriented_5 rfl (lv_at hl 1 rfl) ?_
    refine lv_iconst (v := zI 1) hx hb qd_M_oriented_6 rfl ?_
    refine zz_icmp_le (tgt := 14) hx hb qd_M_oriented_7 (by decide) (by omega) (by omega) (fun h7 => ?_) (fun h7 => ?_)
    · skip
      refine lv_iconst (v := zI 0) hx hb qd_M_oriented_14 rfl ?_
      refine va_put (D := (dC, dI)) (ci := 6) (v := .int (zI (0))) (ty := .int) (C := "TermOrdersModel") (T := qT_M) (N := 17) hx hb hg qi_M qt_M qo_M qn_M hown hK hP hD hS 0 rfl rfl 16 (by decide) (hg _ wd_634) (fun _ h9 => h9) rfl (by decide +kernel) rfl rfl (Nat.le_of_ble_eq_true rfl) qd_M_oriented_15 (fun H15_2 L15_2 hP hD hS => ?_)
      have hP : va_P (dC, dI) qcl [(o, .inr (6, [.int (zI (↑sy)), .ref mA, .ref mR, .ref mW, .int (zI (↑tc)), .ref mC, .ref mS, .int (zI (↑rc)), .ref mL, .ref mT, .ref mH, .ref mY, .ref mE, .ref mG, .ref mB, .ref mO, .int (zI (0))])), (mE, .inl (cI, 32, .inl (zA (eI ef)))), (mY, .inl (cI, 32, .inl (zA hv))), (mG, .inl (cZ, 256, .inl (zB gr)))] H15_2 := hP
      have hD : va_D A [(o, .inr (6, [.int (zI (↑sy)), .ref mA, .ref mR, .ref mW, .int (zI (↑tc)), .ref mC, .ref mS, .int (zI (↑rc)), .ref mL, .ref mT, .ref mH, .ref mY, .ref mE, .ref mG, .ref mB, .ref mO, .int (zI (0))])), (mE, .inl (cI, 32, .inl (zA (eI ef)))), (mY, .inl (cI, 32, .inl (zA hv))), (mG, .inl (cZ, 256, .inl (zB gr)))] := hD
      have hF := fz_keep hF0 hFA hS
      refine lv_aload_n hx hb qd_M_oriented_18 rfl (lv_at hl 0 rfl) ?_
      refine va_get (D := (dC, dI)) (ci := 6) (v := .int (zI (0))) (C := "TermOrdersModel") (T := qT_M) (N := 17) hx hb hg qi_M hown hK hP 0 rfl rfl 16 (by decide) (hg _ wd_634) (fun _ h9 => h9) rfl qd_M_oriented_19 ?_
      refine zz_if_ne (tgt := 33) hx hb qd_M_oriented_22 (by decide) (by omega) (fun h22 => ?_) (fun h22 => ?_)
      · skip
        exfalso
        omega
      · skip
        refine lv_aload_n hx hb qd_M_oriented_25 rfl (lv_at hl 0 rfl) ?_
        refine lv_iload_n hx hb qd_M_oriented_26 rfl (lv_at hl 1 rfl) ?_
        have hPc := hP.sub (ws' := [(mE, .inl (cI, 32, .inl (zA (eI ef)))), (mY, .inl (cI, 32, .inl (zA hv))), (mG, .inl (cZ, 256, .inl (zB gr)))]) [1, 2, 3] rfl
        have hDc := hD.sub (ws' := [(mE, .inl (cI, 32, .inl (zA (eI ef)))), (mY, .inl (cI, 32, .inl (zA hv))), (mG, .inl (cZ, 256, .inl (zB gr)))]) [1, 2, 3] (by decide) rfl
        have hFr := va_free (wc := [(mE, .inl (cI, 32, .inl (zA (eI ef)))), (mY, .inl (cI, 32, .inl (zA hv))), (mG, .inl (cZ, 256, .inl (zB gr)))]) hD hS hA [1, 2, 3] rfl
        refine va_calli (va_runV (As := [.int (zI (x))]) (rest := []) ⟨hx, hb, hml, hown, hg⟩ (c_M_orients l dC dI cI cZ cT cJ o mA mR mW mC mS mL mT mH mY mE mG mB mO sy tc rc 0 ar rk wt co sz lf rg hi hv ef gr bd ol tn TH TM TE HT x H15_2.size har hrk hwt hsy htc htp hrc hlr (by omega)) ⟨callB_of 1 hg (gw_ok (fun _ h => h) wd_781) rfl rfl rfl (hg _ wd_6) (hg _ wd_778) (by decide +kernel) ⟨Nat.le_of_ble_eq_true rfl, Nat.le_of_ble_eq_true rfl⟩, hg _ wd_780, hg _ se_M_orients⟩ (mw_preV (va_recv (q0 := 0) hK hP rfl rfl) hPc (pw_c (q := (o, .inr (6, [.int (zI (↑sy)), .ref mA, .ref mR, .ref mW, .int (zI (↑tc)), .ref mC, .ref mS, .int (zI (↑rc)), .ref mL, .ref mT, .ref mH, .ref mY, .ref mE, .ref mG, .ref mB, .ref mO, .int (zI (0))]))) hP 0 rfl (pw_c (q := (mA, .inl (cI, 5, .inl (zA ar)))) hF 0 rfl (pw_c (q := (mR, .inl (cI, 5, .inl (zA rk)))) hF 1 rfl (pw_c (q := (mW, .inl (cI, 5, .inl (zA wt)))) hF 2 rfl (pw_c (q := (mC, .inl (cI, 2608, .inl (zA co)))) hF 3 rfl (pw_c (q := (mS, .inl (cI, 163, .inl (zA (eI sz))))) hF 4 rfl (pw_c (q := (mL, .inl (cI, 8, .inl (zA (eI lf))))) hF 5 rfl (pw_c (q := (mT, .inl (cI, 8, .inl (zA (eI rg))))) hF 6 rfl (pw_nil))))))))) hK hN hDc (apw_c (q := (o, .inr (6, [.int (zI (↑sy)), .ref mA, .ref mR, .ref mW, .int (zI (↑tc)), .ref mC, .ref mS, .int (zI (↑rc)), .ref mL, .ref mT, .ref mH, .ref mY, .ref mE, .ref mG, .ref mB, .ref mO, .int (zI (0))]))) (apw_m hD [1, 2, 3] rfl 0 rfl (by decide)) (apw_c (q := (mA, .inl (cI, 5, .inl (zA ar)))) (apw_f hD [1, 2, 3] rfl (hFA 0 _ rfl)) (apw_c (q := (mR, .inl (cI, 5, .inl (zA rk)))) (apw_f hD [1, 2, 3] rfl (hFA 1 _ rfl)) (apw_c (q := (mW, .inl (cI, 5, .inl (zA wt)))) (apw_f hD [1, 2, 3] rfl (hFA 2 _ rfl)) (apw_c (q := (mC, .inl (cI, 2608, .inl (zA co)))) (apw_f hD [1, 2, 3] rfl (hFA 3 _ rfl)) (apw_c (q := (mS, .inl (cI, 163, .inl (zA (eI sz))))) (apw_f hD [1, 2, 3] rfl (hFA 4 _ rfl)) (apw_c (q := (mL, .inl (cI, 8, .inl (zA (eI lf))))) (apw_f hD [1, 2, 3] rfl (hFA 5 _ rfl)) (apw_c (q := (mT, .inl (cI, 8, .inl (zA (eI rg))))) (apw_f hD [1, 2, 3] rfl (hFA 6 _ rfl)) (apw_nil)))))))))) rfl rfl hl.1 rfl (lv_room (Nat.le_of_ble_eq_true rfl)) qd_M_oriented_27 ⟨Nat.le_of_ble_eq_true rfl, Nat.le_of_ble_eq_true rfl⟩) hS (fun q _ h => hFr q h) hFr (fun r27 u9 t9 H27_3 L27_3 ht9 hv9 hr27 hB9 hz9 hk9 hS => ?_)
        obtain ⟨e3, v3, g3⟩ := u9
        try dsimp only at hr27 hB9
        obtain ⟨hP, hD⟩ := mw_join (wr := [(o, .inr (6, [.int (zI (↑sy)), .ref mA, .ref mR, .ref mW, .int (zI (↑tc)), .ref mC, .ref mS, .int (zI (↑rc)), .ref mL, .ref mT, .ref mH, .ref mY, .ref mE, .ref mG, .ref mB, .ref mO, .int (zI (0))]))]) (w1 := [(mE, .inl (cI, 32, .inl (zA (eI e3)))), (mY, .inl (cI, 32, .inl (zA v3))), (mG, .inl (cZ, 256, .inl (zB g3)))]) hP hD [1, 2, 3] [0] rfl rfl (by decide) (by decide) hk9 hFr ht9 hB9
        have hP := hP.sub (ws' := [(o, .inr (6, [.int (zI (↑sy)), .ref mA, .ref mR, .ref mW, .int (zI (↑tc)), .ref mC, .ref mS, .int (zI (↑rc)), .ref mL, .ref mT, .ref mH, .ref mY, .ref mE, .ref mG, .ref mB, .ref mO, .int (zI (0))])), (mE, .inl (cI, 32, .inl (zA (eI e3)))), (mY, .inl (cI, 32, .inl (zA v3))), (mG, .inl (cZ, 256, .inl (zB g3)))]) [0, 1, 2, 3] rfl
        have hD := hD.sub (ws' := [(o, .inr (6, [.int (zI (↑sy)), .ref mA, .ref mR, .ref mW, .int (zI (↑tc)), .ref mC, .ref mS, .int (zI (↑rc)), .ref mL, .ref mT, .ref mH, .ref mY, .ref mE, .ref mG, .ref mB, .ref mO, .int (zI (0))])), (mE, .inl (cI, 32, .inl (zA (eI e3)))), (mY, .inl (cI, 32, .inl (zA v3))), (mG, .inl (cZ, 256, .inl (zB g3)))]) [0, 1, 2, 3] (by decide) rfl
        have hF := fz_keep hF0 hFA hS
        refine lv_goto (tgt := 34) hx hb qd_M_oriented_30 (by decide) ?_
        exact W.iret (v := r27) hx hb hr (fun t9 ht9 hW9 => ⟨⟨r27, (0, e3, v3, g3), rfl, (Or.inr ⟨by omega, rfl, hr27⟩), mwB_i (by rw [ht9]; exact hP) (va_K.moved hW9.alike hK) hD⟩, hS.F ht9⟩) hS.2.2 qd_M_oriented_34
    · skip
      refine lv_iconst (v := zI 1) hx hb qd_M_oriented_10 rfl ?_
      refine lv_goto (tgt := 15) hx hb qd_M_oriented_11 (by decide) ?_
      refine va_put (D := (dC, dI)) (ci := 6) (v := .int (zI (1))) (ty := .int) (C := "TermOrdersModel") (T := qT_M) (N := 17) hx hb hg qi_M qt_M qo_M qn_M hown hK hP hD hS 0 rfl rfl 16 (by decide) (hg _ wd_634) (fun _ h9 => h9) rfl (by decide +kernel) rfl rfl (Nat.le_of_ble_eq_true rfl) qd_M_oriented_15 (fun H15_4 L15_4 hP hD hS => ?_)
      have hP : va_P (dC, dI) qcl [(o, .inr (6, [.int (zI (↑sy)), .ref mA, .ref mR, .ref mW, .int (zI (↑tc)), .ref mC, .ref mS, .int (zI (↑rc)), .ref mL, .ref mT, .ref mH, .ref mY, .ref mE, .ref mG, .ref mB, .ref mO, .int (zI (1))])), (mE, .inl (cI, 32, .inl (zA (eI ef)))), (mY, .inl (cI, 32, .inl (zA hv))), (mG, .inl (cZ, 256, .inl (zB gr)))] H15_4 := hP
      have hD : va_D A [(o, .inr (6, [.int (zI (↑sy)), .ref mA, .ref mR, .ref mW, .int (zI (↑tc)), .ref mC, .ref mS, .int (zI (↑rc)), .ref mL, .ref mT, .ref mH, .ref mY, .ref mE, .ref mG, .ref mB, .ref mO, .int (zI (1))])), (mE, .inl (cI, 32, .inl (zA (eI ef)))), (mY, .inl (cI, 32, .inl (zA hv))), (mG, .inl (cZ, 256, .inl (zB gr)))] := hD
      have hF := fz_keep hF0 hFA hS
      refine lv_aload_n hx hb qd_M_oriented_18 rfl (lv_at hl 0 rfl) ?_
      refine va_get (D := (dC, dI)) (ci := 6) (v := .int (zI (1))) (C := "TermOrdersModel") (T := qT_M) (N := 17) hx hb hg qi_M hown hK hP 0 rfl rfl 16 (by decide) (hg _ wd_634) (fun _ h9 => h9) rfl qd_M_oriented_19 ?_
      refine zz_if_ne (tgt := 33) hx hb qd_M_oriented_22 (by decide) (by omega) (fun h22 => ?_) (fun h22 => ?_)
      · skip
        refine lv_iconst (v := zI 0) hx hb qd_M_oriented_33 rfl ?_
        exact W.iret (v := zI 0) hx hb hr (fun t9 ht9 hW9 => ⟨⟨zI 0, (1, ef, hv, gr), rfl, (Or.inl ⟨by omega, rfl⟩), mwB_i (by rw [ht9]; exact hP) (va_K.moved hW9.alike hK) hD⟩, hS.F ht9⟩) hS.2.2 qd_M_oriented_34
      · skip
        exfalso
        omega
set_option maxHeartbeats 4000000 in
set_option maxRecDepth 100000 in
theorem c_M_place (l : Launch) (dC : Nat → ClassId) (dI : Nat → Nat → Nat) (cI cZ cT cJ : ClassId) (o mA mR mW mC mS mL mT mH mY mE mG mB mO sy tc rc : Nat) (tw : Int) (ar rk wt co : Nat → Int) (sz lf rg : Nat → Nat) (hi hv : Nat → Int) (ef : Nat → Nat) (gr : Nat → Bool) (bd ol : Nat → Int) (tn : Nat → Nat) (TH TM : Nat → Nat → Int) (TE : Nat → Nat → Nat) (HT : Nat → Nat → Int) (x y : Int) (zh : Nat) (hsy : sy ≤ 5) (htc : tc ≤ 160) (htp : ∀ t, t < tc → okT sy ar (tn t) (TH t) (TM t) (TE t) (HT t) ∧ sz t = tn t ∧ ∀ q, q < tn t → co (16 * t + q) = TH t q) (h32x : -2147483648 ≤ x ∧ x < 2147483648) (h32y : -2147483648 ≤ y ∧ y < 2147483648) : Met l qy_M_place qw_M_place ({ frames := 1, cells := 0, slots := 0, locals := 21 }) (mwP (dC, dI) qcl (qty cI cZ cT cJ) nwL [(o, .inr (6, [.int (zI (↑sy)), .ref mA, .ref mR, .ref mW, .int (zI (↑tc)), .ref mC, .ref mS, .int (zI (↑rc)), .ref mL, .ref mT, .ref mH, .ref mY, .ref mE, .ref mG, .ref mB, .ref mO, .int (zI (tw))]))] [(mC, .inl (cI, 2608, .inl (zA co))), (mS, .inl (cI, 163, .inl (zA (eI sz))))] zh [.ref o, .int (zI (x)), .int (zI (y))]) (mwI (S := (Int)) (fun r uq => (¬ (0 ≤ x ∧ x < tc) ∧ uq = 1) ∨ ((0 ≤ x ∧ x < tc) ∧ ¬ (0 ≤ y ∧ y < tn x.toNat) ∧ uq = 2) ∨ ((0 ≤ x ∧ x < tc) ∧ (0 ≤ y ∧ y < tn x.toNat) ∧ uq = 0 ∧ r = TH x.toNat y.toNat)) (fun uq tq => mwB (dC, dI) qcl (qty cI cZ cT cJ) (va_A [(o, .inr (6, [.int (zI (↑sy)), .ref mA, .ref mR, .ref mW, .int (zI (↑tc)), .ref mC, .ref mS, .int (zI (↑rc)), .ref mL, .ref mT, .ref mH, .ref mY, .ref mE, .ref mG, .ref mB, .ref mO, .int (zI (tw))]))] zh) [(o, .inr (6, [.int (zI (↑sy)), .ref mA, .ref mR, .ref mW, .int (zI (↑tc)), .ref mC, .ref mS, .int (zI (↑rc)), .ref mL, .ref mT, .ref mH, .ref mY, .ref mE, .ref mG, .ref mB, .ref mO, .int (zI (uq))]))] tq) (va_A [(o, .inr (6, [.int (zI (↑sy)), .ref mA, .ref mR, .ref mW, .int (zI (↑tc)), .ref mC, .ref mS, .int (zI (↑rc)), .ref mL, .ref mT, .ref mH, .ref mY, .ref mE, .ref mG, .ref mB, .ref mO, .int (zI (tw))]))] zh)) 0 0 (va_A [(o, .inr (6, [.int (zI (↑sy)), .ref mA, .ref mR, .ref mW, .int (zI (↑tc)), .ref mC, .ref mS, .int (zI (↑rc)), .ref mL, .ref mT, .ref mH, .ref mY, .ref mE, .ref mG, .ref mB, .ref mO, .int (zI (tw))]))] zh) := by
  refine Met.ofW (cc := qc_M_place) (maxL := 3) (ret := (Option.some Jvm.ClassFile.FieldType.int)) (by decide) rfl ?_
  intro pg eg sg mg args below meth cg s₁ B hml hv
  obtain ⟨rfl, hsz, hP, hF0, hK, hN, hD0, hap⟩ := hv
  have hx := B.exec
  have hb := B.bytes
  have hr := B.returns
  have hts := atoms_spec (ws := qw_M_place) B.pre
  have hg : ∀ w ∈ gw, w.before _ sg = true := fun w h => hts w (List.mem_cons_of_mem _ h)
  have hown : sg.vm.findClass "TermOrdersModel" = some mg.cls := findClass_of_methodNamed B.named
  have hlocks := B.notSynchronized
  have hl := lv_entry ([.ref o, .int (zI (x)), .int (zI (y))]) (n := 3) (Nat.le_of_ble_eq_true rfl)
  rw [lg_entry_eq]
  generalize (lg_sl ([.ref o, .int (zI (x)), .int (zI (y))]) ++ List.replicate (3 - (lg_sl ([.ref o, .int (zI (x)), .int (zI (y))])).length) Slot.unset).toArray = ls at hl ⊢
  subst hsz
  have hD := hD0.self (sz := sg.heap.size)
  have hFA := apw_A hap (fun k q hk => (hF0 k q hk).lt)
  generalize hAe : va_A [(o, .inr (6, [.int (zI (↑sy)), .ref mA, .ref mR, .ref mW, .int (zI (↑tc)), .ref mC, .ref mS, .int (zI (↑rc)), .ref mL, .ref mT, .ref mH, .ref mY, .ref mE, .ref mG, .ref mB, .ref mO, .int (zI (tw))]))] sg.heap.size = A at hD hFA ⊢
  have hA : ∀ q : Nat, sg.heap.size ≤ q → A q := fun q h => by rw [← hAe]; exact Or.inr h
  have hS : va_S A sg.heap sg.heap [] := va_S.rf
  have hF := hF0
  have hl : lv_has ls 3 [(0, .ref o), (1, .int (zI (x))), (2, .int (zI (y)))] := hl
  refine lv_aload_n hx hb qd_M_place_0 rfl (lv_at hl 0 rfl) ?_
  refine lv_aload_n hx hb qd_M_place_1 rfl (lv_at hl 0 rfl) ?_
  refine lv_iload_n hx hb qd_M_place_2 rfl (lv_at hl 1 rfl) ?_
  refine rd_callB (W.runV (As := [.int (zI (x))]) (rest := [.ref o]) ⟨hx, hb, hml, hown, hg⟩ (c_M_isTerm l dC dI cI cZ cT cJ o mA mR mW mC mS mL mT mH mY mE mG mB mO sy tc rc tw ar rk wt co sz lf rg hi hv ef gr bd ol x htc h32x) ⟨callB_of 1 hg (gw_ok (fun _ h => h) wd_693) rfl rfl rfl (hg _ wd_6) (hg _ wd_690) (by decide +kernel) ⟨Nat.le_of_ble_eq_true rfl, Nat.le_of_ble_eq_true rfl⟩, hg _ wd_692, hg _ se_M_isTerm⟩ (rd_preV (va_recv (q0 := 0) hK hP rfl rfl) (pw_c (q := (o, .inr (6, [.int (zI (↑sy)), .ref mA, .ref mR, .ref mW, .int (zI (↑tc)), .ref mC, .ref mS, .int (zI (↑rc)), .ref mL, .ref mT, .ref mH, .ref mY, .ref mE, .ref mG, .ref mB, .ref mO, .int (zI (tw))]))) hP 0 rfl (pw_nil)) hK hN) rfl rfl hl.1 rfl (lv_room (Nat.le_of_ble_eq_true rfl)) qd_M_place_3 ⟨Nat.le_of_ble_eq_true rfl, Nat.le_of_ble_eq_true rfl⟩) (fun r3 hr3 => ?_)
  refine zz_ifneB (tgt := 13) hx hb qd_M_place_6 (by decide) (fun h6 => ?_) (fun h6 => ?_)
  · skip
    have hyx := hr3.mp h6
    have hta := htp x.toNat (by omega)
    have hza := hta.2.1
    have h16 := hta.1.2.1
    refine lv_iload_n hx hb qd_M_place_13 rfl (lv_at hl 2 rfl) ?_
    refine zz_if_lt (tgt := 27) hx hb qd_M_place_14 (by decide) (by omega) (fun h14 => ?_) (fun h14 => ?_)
    · skip
      refine lv_iconst (v := zI 2) hx hb qd_M_place_27 rfl ?_
      refine lv_goto (tgt := 32) hx hb qd_M_place_28 (by decide) ?_
      refine va_put (D := (dC, dI)) (ci := 6) (v := .int (zI (2))) (ty := .int) (C := "TermOrdersModel") (T := qT_M) (N := 17) hx hb hg qi_M qt_M qo_M qn_M hown hK hP hD hS 0 rfl rfl 16 (by decide) (hg _ wd_634) (fun _ h9 => h9) rfl (by decide +kernel) rfl rfl (Nat.le_of_ble_eq_true rfl) qd_M_place_32 (fun H32_1 L32_1 hP hD hS => ?_)
      have hP : va_P (dC, dI) qcl [(o, .inr (6, [.int (zI (↑sy)), .ref mA, .ref mR, .ref mW, .int (zI (↑tc)), .ref mC, .ref mS, .int (zI (↑rc)), .ref mL, .ref mT, .ref mH, .ref mY, .ref mE, .ref mG, .ref mB, .ref mO, .int (zI (2))]))] H32_1 := hP
      have hD : va_D A [(o, .inr (6, [.int (zI (↑sy)), .ref mA, .ref mR, .ref mW, .int (zI (↑tc)), .ref mC, .ref mS, .int (zI (↑rc)), .ref mL, .ref mT, .ref mH, .ref mY, .ref mE, .ref mG, .ref mB, .ref mO, .int (zI (2))]))] := hD
      have hF := fz_keep hF0 hFA hS
      refine lv_aload_n hx hb qd_M_place_35 rfl (lv_at hl 0 rfl) ?_
      refine va_get (D := (dC, dI)) (ci := 6) (v := .int (zI (2))) (C := "TermOrdersModel") (T := qT_M) (N := 17) hx hb hg qi_M hown hK hP 0 rfl rfl 16 (by decide) (hg _ wd_634) (fun _ h9 => h9) rfl qd_M_place_36 ?_
      refine zz_if_ne (tgt := 56) hx hb qd_M_place_39 (by decide) (by omega) (fun h39 => ?_) (fun h39 => ?_)
      · skip
        refine lv_iconst (v := zI 0) hx hb qd_M_place_56 rfl ?_
        exact W.iret (v := zI 0) hx hb hr (fun t9 ht9 hW9 => ⟨⟨0, 2, rfl, (Or.inr (Or.inl ⟨by omega, by omega, rfl⟩)), mwB_i (by rw [ht9]; exact hP) (va_K.moved hW9.alike hK) hD⟩, hS.F ht9⟩) hS.2.2 qd_M_place_57
      · skip
        exfalso
        omega
    · skip
      refine lv_iload_n hx hb qd_M_place_17 rfl (lv_at hl 2 rfl) ?_
      refine lv_aload_n hx hb qd_M_place_18 rfl (lv_at hl 0 rfl) ?_
      refine va_get (D := (dC, dI)) (ci := 6) (v := .ref mS) (C := "TermOrdersModel") (T := qT_M) (N := 17) hx hb hg qi_M hown hK hP 0 rfl rfl 6 (by decide) (hg _ wd_624) (fun _ h9 => h9) rfl qd_M_place_19 ?_
      refine lv_iload_n hx hb qd_M_place_22 rfl (lv_at hl 1 rfl) ?_
      refine zz_eald hx hb hK hF 1 0 rfl rfl x.toNat (by omega) (by omega) (by omega) qd_M_place_23 ?_
      refine zz_top (b := ↑(tn x.toNat)) (by rw [hza]) ?_
      refine zz_icmp_lt (tgt := 31) hx hb qd_M_place_24 (by decide) (by omega) (by omega) (fun h24 => ?_) (fun h24 => ?_)
      · skip
        refine lv_iconst (v := zI 0) hx hb qd_M_place_31 rfl ?_
        refine va_put (D := (dC, dI)) (ci := 6) (v := .int (zI (0))) (ty := .int) (C := "TermOrdersModel") (T := qT_M) (N := 17) hx hb hg qi_M qt_M qo_M qn_M hown hK hP hD hS 0 rfl rfl 16 (by decide) (hg _ wd_634) (fun _ h9 => h9) rfl (by decide +kernel) rfl rfl (Nat.le_of_ble_eq_true rfl) qd_M_place_32 (fun H32_2 L32_2 hP hD hS => ?_)
        have hP : va_P (dC, dI) qcl [(o, .inr (6, [.int (zI (↑sy)), .ref mA, .ref mR, .ref mW, .int (zI (↑tc)), .ref mC, .ref mS, .int (zI (↑rc)), .ref mL, .ref mT, .ref mH, .ref mY, .ref mE, .ref mG, .ref mB, .ref mO, .int (zI (0))]))] H32_2 := hP
        have hD : va_D A [(o, .inr (6, [.int (zI (↑sy)), .ref mA, .ref mR, .ref mW, .int (zI (↑tc)), .ref mC, .ref mS, .int (zI (↑rc)), .ref mL, .ref mT, .ref mH, .ref mY, .ref mE, .ref mG, .ref mB, .ref mO, .int (zI (0))]))] := hD
        have hF := fz_keep hF0 hFA hS
        refine lv_aload_n hx hb qd_M_place_35 rfl (lv_at hl 0 rfl) ?_
        refine va_get (D := (dC, dI)) (ci := 6) (v := .int (zI (0))) (C := "TermOrdersModel") (T := qT_M) (N := 17) hx hb hg qi_M hown hK hP 0 rfl rfl 16 (by decide) (hg _ wd_634) (fun _ h9 => h9) rfl qd_M_place_36 ?_
        refine zz_if_ne (tgt := 56) hx hb qd_M_place_39 (by decide) (by omega) (fun h39 => ?_) (fun h39 => ?_)
        · skip
          exfalso
          omega
        · skip
          refine lv_aload_n hx hb qd_M_place_42 rfl (lv_at hl 0 rfl) ?_
          refine va_get (D := (dC, dI)) (ci := 6) (v := .ref mC) (C := "TermOrdersModel") (T := qT_M) (N := 17) hx hb hg qi_M hown hK hP 0 rfl rfl 5 (by decide) (hg _ wd_623) (fun _ h9 => h9) rfl qd_M_place_43 ?_
          refine lv_bipush (v := zI 16) hx hb qd_M_place_46 (by decide) ?_
          refine lv_iload_n hx hb qd_M_place_48 rfl (lv_at hl 1 rfl) ?_
          refine zz_imul hx hb (16 * x) rfl qd_M_place_49 ?_
          refine lv_iload_n hx hb qd_M_place_50 rfl (lv_at hl 2 rfl) ?_
          refine zz_iadd hx hb ((16 * x) + y) rfl qd_M_place_51 ?_
          refine zz_iald hx hb hK hF 0 0 rfl rfl (16 * x.toNat + y.toNat) (by omega) (by omega) (by omega) qd_M_place_52 ?_
          refine zz_top (b := TH x.toNat y.toNat) (hta.2.2 _ (by omega)) ?_
          refine lv_goto (tgt := 57) hx hb qd_M_place_53 (by decide) ?_
          exact W.iret (v := zI (TH x.toNat y.toNat)) hx hb hr (fun t9 ht9 hW9 => ⟨⟨TH x.toNat y.toNat, 0, rfl, (Or.inr (Or.inr ⟨by omega, by omega, rfl, rfl⟩)), mwB_i (by rw [ht9]; exact hP) (va_K.moved hW9.alike hK) hD⟩, hS.F ht9⟩) hS.2.2 qd_M_place_57
      · skip
        refine lv_iconst (v := zI 2) hx hb qd_M_place_27 rfl ?_
        refine lv_goto (tgt := 32) hx hb qd_M_place_28 (by decide) ?_
        refine va_put (D := (dC, dI)) (ci := 6) (v := .int (zI (2))) (ty := .int) (C := "TermOrdersModel") (T := qT_M) (N := 17) hx hb hg qi_M qt_M qo_M qn_M hown hK hP hD hS 0 rfl rfl 16 (by decide) (hg _ wd_634) (fun _ h9 => h9) rfl (by decide +kernel) rfl rfl (Nat.le_of_ble_eq_true rfl) qd_M_place_32 (fun H32_3 L32_3 hP hD hS => ?_)
        have hP : va_P (dC, dI) qcl [(o, .inr (6, [.int (zI (↑sy)), .ref mA, .ref mR, .ref mW, .int (zI (↑tc)), .ref mC, .ref mS, .int (zI (↑rc)), .ref mL, .ref mT, .ref mH, .ref mY, .ref mE, .ref mG, .ref mB, .ref mO, .int (zI (2))]))] H32_3 := hP
        have hD : va_D A [(o, .inr (6, [.int (zI (↑sy)), .ref mA, .ref mR, .ref mW, .int (zI (↑tc)), .ref mC, .ref mS, .int (zI (↑rc)), .ref mL, .ref mT, .ref mH, .ref mY, .ref mE, .ref mG, .ref mB, .ref mO, .int (zI (2))]))] := hD
        have hF := fz_keep hF0 hFA hS
        refine lv_aload_n hx hb qd_M_place_35 rfl (lv_at hl 0 rfl) ?_
        refine va_get (D := (dC, dI)) (ci := 6) (v := .int (zI (2))) (C := "TermOrdersModel") (T := qT_M) (N := 17) hx hb hg qi_M hown hK hP 0 rfl rfl 16 (by decide) (hg _ wd_634) (fun _ h9 => h9) rfl qd_M_place_36 ?_
        refine zz_if_ne (tgt := 56) hx hb qd_M_place_39 (by decide) (by omega) (fun h39 => ?_) (fun h39 => ?_)
        · skip
          refine lv_iconst (v := zI 0) hx hb qd_M_place_56 rfl ?_
          exact W.iret (v := zI 0) hx hb hr (fun t9 ht9 hW9 => ⟨⟨0, 2, rfl, (Or.inr (Or.inl ⟨by omega, by omega, rfl⟩)), mwB_i (by rw [ht9]; exact hP) (va_K.moved hW9.alike hK) hD⟩, hS.F ht9⟩) hS.2.2 qd_M_place_57
        · skip
          exfalso
          omega
  · skip
    have hnx : ¬ (0 ≤ x ∧ x < tc) := fun z9 => by rw [hr3.mpr z9] at h6; exact Bool.noConfusion h6
    refine lv_iconst (v := zI 1) hx hb qd_M_place_9 rfl ?_
    refine lv_goto (tgt := 32) hx hb qd_M_place_10 (by decide) ?_
    refine va_put (D := (dC, dI)) (ci := 6) (v := .int (zI (1))) (ty := .int) (C := "TermOrdersModel") (T := qT_M) (N := 17) hx hb hg qi_M qt_M qo_M qn_M hown hK hP hD hS 0 rfl rfl 16 (by decide) (hg _ wd_634) (fun _ h9 => h9) rfl (by decide +kernel) rfl rfl (Nat.le_of_ble_eq_true rfl) qd_M_place_32 (fun H32_4 L32_4 hP hD hS => ?_)
    have hP : va_P (dC, dI) qcl [(o, .inr (6, [.int (zI (↑sy)), .ref mA, .ref mR, .ref mW, .int (zI (↑tc)), .ref mC, .ref mS, .int (zI (↑rc)), .ref mL, .ref mT, .ref mH, .ref mY, .ref mE, .ref mG, .ref mB, .ref mO, .int (zI (1))]))] H32_4 := hP
    have hD : va_D A [(o, .inr (6, [.int (zI (↑sy)), .ref mA, .ref mR, .ref mW, .int (zI (↑tc)), .ref mC, .ref mS, .int (zI (↑rc)), .ref mL, .ref mT, .ref mH, .ref mY, .ref mE, .ref mG, .ref mB, .ref mO, .int (zI (1))]))] := hD
    have hF := fz_keep hF0 hFA hS
    refine lv_aload_n hx hb qd_M_place_35 rfl (lv_at hl 0 rfl) ?_
    refine va_get (D := (dC, dI)) (ci := 6) (v := .int (zI (1))) (C := "TermOrdersModel") (T := qT_M) (N := 17) hx hb hg qi_M hown hK hP 0 rfl rfl 16 (by decide) (hg _ wd_634) (fun _ h9 => h9) rfl qd_M_place_36 ?_
    refine zz_if_ne (tgt := 56) hx hb qd_M_place_39 (by decide) (by omega) (fun h39 => ?_) (fun h39 => ?_)
    · skip
      refine lv_iconst (v := zI 0) hx hb qd_M_place_56 rfl ?_
      exact W.iret (v := zI 0) hx hb hr (fun t9 ht9 hW9 => ⟨⟨0, 1, rfl, (Or.inl ⟨by omega, rfl⟩), mwB_i (by rw [ht9]; exact hP) (va_K.moved hW9.alike hK) hD⟩, hS.F ht9⟩) hS.2.2 qd_M_place_57
    · skip
      exfalso
      omega
set_option maxHeartbeats 4000000 in
set_option maxRecDepth 100000 in
theorem c_M_count (l : Launch) (dC : Nat → ClassId) (dI : Nat → Nat → Nat) (cI cZ cT cJ : ClassId) (o mA mR mW mC mS mL mT mH mY mE mG mB mO sy tc rc : Nat) (tw : Int) (ar rk wt co : Nat → Int) (sz lf rg : Nat → Nat) (hi hv : Nat → Int) (ef : Nat → Nat) (gr : Nat → Bool) (bd ol : Nat → Int) (x : Int) (zh : Nat) (h32x : -2147483648 ≤ x ∧ x < 2147483648) : Met l qy_M_count qw_M_count ({ frames := 0, cells := 0, slots := 0, locals := 0 }) (mwP (dC, dI) qcl (qty cI cZ cT cJ) nwL [(o, .inr (6, [.int (zI (↑sy)), .ref mA, .ref mR, .ref mW, .int (zI (↑tc)), .ref mC, .ref mS, .int (zI (↑rc)), .ref mL, .ref mT, .ref mH, .ref mY, .ref mE, .ref mG, .ref mB, .ref mO, .int (zI (tw))]))] [] zh [.ref o, .int (zI (x))]) (mwI (S := Unit) (fun r uq => r = (if x = 0 then (sy : Int) else if x = 1 then (tc : Int) else if x = 2 then (rc : Int) else -1)) (fun uq tq => mwB (dC, dI) qcl (qty cI cZ cT cJ) (va_A [(o, .inr (6, [.int (zI (↑sy)), .ref mA, .ref mR, .ref mW, .int (zI (↑tc)), .ref mC, .ref mS, .int (zI (↑rc)), .ref mL, .ref mT, .ref mH, .ref mY, .ref mE, .ref mG, .ref mB, .ref mO, .int (zI (tw))]))] zh) [(o, .inr (6, [.int (zI (↑sy)), .ref mA, .ref mR, .ref mW, .int (zI (↑tc)), .ref mC, .ref mS, .int (zI (↑rc)), .ref mL, .ref mT, .ref mH, .ref mY, .ref mE, .ref mG, .ref mB, .ref mO, .int (zI (0))]))] tq) (va_A [(o, .inr (6, [.int (zI (↑sy)), .ref mA, .ref mR, .ref mW, .int (zI (↑tc)), .ref mC, .ref mS, .int (zI (↑rc)), .ref mL, .ref mT, .ref mH, .ref mY, .ref mE, .ref mG, .ref mB, .ref mO, .int (zI (tw))]))] zh)) 0 0 (va_A [(o, .inr (6, [.int (zI (↑sy)), .ref mA, .ref mR, .ref mW, .int (zI (↑tc)), .ref mC, .ref mS, .int (zI (↑rc)), .ref mL, .ref mT, .ref mH, .ref mY, .ref mE, .ref mG, .ref mB, .ref mO, .int (zI (tw))]))] zh) := by
  refine Met.ofW (cc := qc_M_count) (maxL := 2) (ret := (Option.some Jvm.ClassFile.FieldType.int)) (by decide) rfl ?_
  intro pg eg sg mg args below meth cg s₁ B hml hv
  obtain ⟨rfl, hsz, hP, hF0, hK, hN, hD0, hap⟩ := hv
  have hx := B.exec
  have hb := B.bytes
  have hr := B.returns
  have hts := atoms_spec (ws := qw_M_count) B.pre
  have hg : ∀ w ∈ gw, w.before _ sg = true := fun w h => hts w (List.mem_cons_of_mem _ h)
  have hown : sg.vm.findClass "TermOrdersModel" = some mg.cls := findClass_of_methodNamed B.named
  have hlocks := B.notSynchronized
  have hl := lv_entry ([.ref o, .int (zI (x))]) (n := 2) (Nat.le_of_ble_eq_true rfl)
  rw [lg_entry_eq]
  generalize (lg_sl ([.ref o, .int (zI (x))]) ++ List.replicate (2 - (lg_sl ([.ref o, .int (zI (x))])).length) Slot.unset).toArray = ls at hl ⊢
  subst hsz
  have hD := hD0.self (sz := sg.heap.size)
  have hFA := apw_A hap (fun k q hk => (hF0 k q hk).lt)
  generalize hAe : va_A [(o, .inr (6, [.int (zI (↑sy)), .ref mA, .ref mR, .ref mW, .int (zI (↑tc)), .ref mC, .ref mS, .int (zI (↑rc)), .ref mL, .ref mT, .ref mH, .ref mY, .ref mE, .ref mG, .ref mB, .ref mO, .int (zI (tw))]))] sg.heap.size = A at hD hFA ⊢
  have hA : ∀ q : Nat, sg.heap.size ≤ q → A q := fun q h => by rw [← hAe]; exact Or.inr h
  have hS : va_S A sg.heap sg.heap [] := va_S.rf
  have hF := hF0
  have hl : lv_has ls 2 [(0, .ref o), (1, .int (zI (x)))] := hl
  refine lv_aload_n hx hb qd_M_count_0 rfl (lv_at hl 0 rfl) ?_
  refine lv_iconst (v := zI 0) hx hb qd_M_count_1 rfl ?_
  refine va_put (D := (dC, dI)) (ci := 6) (v := .int (zI (0))) (ty := .int) (C := "TermOrdersModel") (T := qT_M) (N := 17) hx hb hg qi_M qt_M qo_M qn_M hown hK hP hD hS 0 rfl rfl 16 (by decide) (hg _ wd_634) (fun _ h9 => h9) rfl (by decide +kernel) rfl rfl (Nat.le_of_ble_eq_true rfl) qd_M_count_2 (fun H2_1 L2_1 hP hD hS => ?_)
  have hP : va_P (dC, dI) qcl [(o, .inr (6, [.int (zI (↑sy)), .ref mA, .ref mR, .ref mW, .int (zI (↑tc)), .ref mC, .ref mS, .int (zI (↑rc)), .ref mL, .ref mT, .ref mH, .ref mY, .ref mE, .ref mG, .ref mB, .ref mO, .int (zI (0))]))] H2_1 := hP
  have hD : va_D A [(o, .inr (6, [.int (zI (↑sy)), .ref mA, .ref mR, .ref mW, .int (zI (↑tc)), .ref mC, .ref mS, .int (zI (↑rc)), .ref mL, .ref mT, .ref mH, .ref mY, .ref mE, .ref mG, .ref mB, .ref mO, .int (zI (0))]))] := hD
  refine lv_iload_n hx hb qd_M_count_5 rfl (lv_at hl 1 rfl) ?_
  refine zz_if_ne (tgt := 16) hx hb qd_M_count_6 (by decide) (by omega) (fun h6 => ?_) (fun h6 => ?_)
  · skip
    refine lv_iload_n hx hb qd_M_count_16 rfl (lv_at hl 1 rfl) ?_
    refine lv_iconst (v := zI 1) hx hb qd_M_count_17 rfl ?_
    refine zz_icmp_ne (tgt := 28) hx hb qd_M_count_18 (by decide) (by omega) (by omega) (fun h18 => ?_) (fun h18 => ?_)
    · skip
      refine lv_iload_n hx hb qd_M_count_28 rfl (lv_at hl 1 rfl) ?_
      refine lv_iconst (v := zI 2) hx hb qd_M_count_29 rfl ?_
      refine zz_icmp_ne (tgt := 40) hx hb qd_M_count_30 (by decide) (by omega) (by omega) (fun h30 => ?_) (fun h30 => ?_)
      · skip
        refine lv_iconst (v := zI (-1)) hx hb qd_M_count_40 rfl ?_
        exact W.iret (v := zI ((-1))) hx hb hr (fun t9 ht9 hW9 => ⟨⟨(-1), (), rfl, (by rw [if_neg (by omega), if_neg (by omega), if_neg (by omega)]), mwB_i (by rw [ht9]; exact hP) (va_K.moved hW9.alike hK) hD⟩, hS.F ht9⟩) hS.2.2 qd_M_count_41
      · skip
        refine lv_aload_n hx hb qd_M_count_33 rfl (lv_at hl 0 rfl) ?_
        refine va_get (D := (dC, dI)) (ci := 6) (v := .int (zI (↑rc))) (C := "TermOrdersModel") (T := qT_M) (N := 17) hx hb hg qi_M hown hK hP 0 rfl rfl 7 (by decide) (hg _ wd_625) (fun _ h9 => h9) rfl qd_M_count_34 ?_
        refine lv_goto (tgt := 41) hx hb qd_M_count_37 (by decide) ?_
        exact W.iret (v := zI (↑rc)) hx hb hr (fun t9 ht9 hW9 => ⟨⟨↑rc, (), rfl, (by rw [if_neg (by omega), if_neg (by omega), if_pos (by omega)]), mwB_i (by rw [ht9]; exact hP) (va_K.moved hW9.alike hK) hD⟩, hS.F ht9⟩) hS.2.2 qd_M_count_41
    · skip
      refine lv_aload_n hx hb qd_M_count_21 rfl (lv_at hl 0 rfl) ?_
      refine va_get (D := (dC, dI)) (ci := 6) (v := .int (zI (↑tc))) (C := "TermOrdersModel") (T := qT_M) (N := 17) hx hb hg qi_M hown hK hP 0 rfl rfl 4 (by decide) (hg _ wd_622) (fun _ h9 => h9) rfl qd_M_count_22 ?_
      refine lv_goto (tgt := 41) hx hb qd_M_count_25 (by decide) ?_
      exact W.iret (v := zI (↑tc)) hx hb hr (fun t9 ht9 hW9 => ⟨⟨↑tc, (), rfl, (by rw [if_neg (by omega), if_pos (by omega)]), mwB_i (by rw [ht9]; exact hP) (va_K.moved hW9.alike hK) hD⟩, hS.F ht9⟩) hS.2.2 qd_M_count_41
  · skip
    refine lv_aload_n hx hb qd_M_count_9 rfl (lv_at hl 0 rfl) ?_
    refine va_get (D := (dC, dI)) (ci := 6) (v := .int (zI (↑sy))) (C := "TermOrdersModel") (T := qT_M) (N := 17) hx hb hg qi_M hown hK hP 0 rfl rfl 0 (by decide) (hg _ wd_618) (fun _ h9 => h9) rfl qd_M_count_10 ?_
    refine lv_goto (tgt := 41) hx hb qd_M_count_13 (by decide) ?_
    exact W.iret (v := zI (↑sy)) hx hb hr (fun t9 ht9 hW9 => ⟨⟨↑sy, (), rfl, (by rw [if_pos (by omega)]), mwB_i (by rw [ht9]; exact hP) (va_K.moved hW9.alike hK) hD⟩, hS.F ht9⟩) hS.2.2 qd_M_count_41
set_option maxHeartbeats 4000000 in
set_option maxRecDepth 100000 in
theorem c_M_about (l : Launch) (dC : Nat → ClassId) (dI : Nat → Nat → Nat) (cI cZ cT cJ : ClassId) (o mA mR mW mC mS mL mT mH mY mE mG mB mO sy tc rc : Nat) (tw : Int) (ar rk wt co : Nat → Int) (sz lf rg : Nat → Nat) (hi hv : Nat → Int) (ef : Nat → Nat) (gr : Nat → Bool) (bd ol : Nat → Int) (tn : Nat → Nat) (TH TM : Nat → Nat → Int) (TE : Nat → Nat → Nat) (HT : Nat → Nat → Int) (x y : Int) (zh : Nat) (har : ∀ q, q < 5 → 0 ≤ ar q ∧ ar q ≤ 3) (hwt : ∀ q, q < 5 → 0 ≤ wt q ∧ wt q ≤ 9) (hsy : sy ≤ 5) (htc : tc ≤ 160) (htp : ∀ t, t < tc → okT sy ar (tn t) (TH t) (TM t) (TE t) (HT t) ∧ sz t = tn t ∧ ∀ q, q < tn t → co (16 * t + q) = TH t q) (h32x : -2147483648 ≤ x ∧ x < 2147483648) (h32y : -2147483648 ≤ y ∧ y < 2147483648) : Met l qy_M_about qw_M_about ({ frames := 3, cells := 0, slots := 0, locals := 71 }) (mwP (dC, dI) qcl (qty cI cZ cT cJ) nwL [(o, .inr (6, [.int (zI (↑sy)), .ref mA, .ref mR, .ref mW, .int (zI (↑tc)), .ref mC, .ref mS, .int (zI (↑rc)), .ref mL, .ref mT, .ref mH, .ref mY, .ref mE, .ref mG, .ref mB, .ref mO, .int (zI (tw))])), (mH, .inl (cI, 16, .inl (zA hi)))] [(mA, .inl (cI, 5, .inl (zA ar))), (mW, .inl (cI, 5, .inl (zA wt))), (mC, .inl (cI, 2608, .inl (zA co))), (mS, .inl (cI, 163, .inl (zA (eI sz))))] zh [.ref o, .int (zI (x)), .int (zI (y))]) (mwI (S := (Int) × (Nat → Int)) (fun r uq => (¬ (0 ≤ x ∧ x < tc ∧ 0 ≤ y ∧ y ≤ 3) ∧ uq.1 = 1) ∨ ((0 ≤ x ∧ x < tc ∧ 0 ≤ y ∧ y ≤ 3) ∧ uq.1 = 0 ∧ r = (if y = 0 then TH x.toNat 0 else if y = 1 then HT x.toNat 0 else if y = 2 then (tn x.toNat : Int) else wsum (TH x.toNat) wt 0 (tn x.toNat)))) (fun uq tq => mwB (dC, dI) qcl (qty cI cZ cT cJ) (va_A [(o, .inr (6, [.int (zI (↑sy)), .ref mA, .ref mR, .ref mW, .int (zI (↑tc)), .ref mC, .ref mS, .int (zI (↑rc)), .ref mL, .ref mT, .ref mH, .ref mY, .ref mE, .ref mG, .ref mB, .ref mO, .int (zI (tw))])), (mH, .inl (cI, 16, .inl (zA hi)))] zh) [(o, .inr (6, [.int (zI (↑sy)), .ref mA, .ref mR, .ref mW, .int (zI (↑tc)), .ref mC, .ref mS, .int (zI (↑rc)), .ref mL, .ref mT, .ref mH, .ref mY, .ref mE, .ref mG, .ref mB, .ref mO, .int (zI (uq.1))])), (mH, .inl (cI, 16, .inl (zA uq.2)))] tq) (va_A [(o, .inr (6, [.int (zI (↑sy)), .ref mA, .ref mR, .ref mW, .int (zI (↑tc)), .ref mC, .ref mS, .int (zI (↑rc)), .ref mL, .ref mT, .ref mH, .ref mY, .ref mE, .ref mG, .ref mB, .ref mO, .int (zI (tw))])), (mH, .inl (cI, 16, .inl (zA hi)))] zh)) 0 0 (va_A [(o, .inr (6, [.int (zI (↑sy)), .ref mA, .ref mR, .ref mW, .int (zI (↑tc)), .ref mC, .ref mS, .int (zI (↑rc)), .ref mL, .ref mT, .ref mH, .ref mY, .ref mE, .ref mG, .ref mB, .ref mO, .int (zI (tw))])), (mH, .inl (cI, 16, .inl (zA hi)))] zh) := by
  refine Met.ofW (cc := qc_M_about) (maxL := 4) (ret := (Option.some Jvm.ClassFile.FieldType.int)) (by decide) rfl ?_
  intro pg eg sg mg args below meth cg s₁ B hml hv
  obtain ⟨rfl, hsz, hP, hF0, hK, hN, hD0, hap⟩ := hv
  have hx := B.exec
  have hb := B.bytes
  have hr := B.returns
  have hts := atoms_spec (ws := qw_M_about) B.pre
  have hg : ∀ w ∈ gw, w.before _ sg = true := fun w h => hts w (List.mem_cons_of_mem _ h)
  have hown : sg.vm.findClass "TermOrdersModel" = some mg.cls := findClass_of_methodNamed B.named
  have hlocks := B.notSynchronized
  have hl := lv_entry ([.ref o, .int (zI (x)), .int (zI (y))]) (n := 4) (Nat.le_of_ble_eq_true rfl)
  rw [lg_entry_eq]
  generalize (lg_sl ([.ref o, .int (zI (x)), .int (zI (y))]) ++ List.replicate (4 - (lg_sl ([.ref o, .int (zI (x)), .int (zI (y))])).length) Slot.unset).toArray = ls at hl ⊢
  subst hsz
  have hD := hD0.self (sz := sg.heap.size)
  have hFA := apw_A hap (fun k q hk => (hF0 k q hk).lt)
  generalize hAe : va_A [(o, .inr (6, [.int (zI (↑sy)), .ref mA, .ref mR, .ref mW, .int (zI (↑tc)), .ref mC, .ref mS, .int (zI (↑rc)), .ref mL, .ref mT, .ref mH, .ref mY, .ref mE, .ref mG, .ref mB, .ref mO, .int (zI (tw))])), (mH, .inl (cI, 16, .inl (zA hi)))] sg.heap.size = A at hD hFA ⊢
  have hA : ∀ q : Nat, sg.heap.size ≤ q → A q := fun q h => by rw [← hAe]; exact Or.inr h
  have hS : va_S A sg.heap sg.heap [] := va_S.rf
  have hF := hF0
  have hl : lv_has ls 4 [(0, .ref o), (1, .int (zI (x))), (2, .int (zI (y)))] := hl
  refine lv_aload_n hx hb qd_M_about_0 rfl (lv_at hl 0 rfl) ?_
  refine lv_aload_n hx hb qd_M_about_1 rfl (lv_at hl 0 rfl) ?_
  refine lv_iload_n hx hb qd_M_about_2 rfl (lv_at hl 1 rfl) ?_
  refine rd_callB (W.runV (As := [.int (zI (x))]) (rest := [.ref o]) ⟨hx, hb, hml, hown, hg⟩ (c_M_isTerm l dC dI cI cZ cT cJ o mA mR mW mC mS mL mT mH mY mE mG mB mO sy tc rc tw ar rk wt co sz lf rg hi hv ef gr bd ol x htc h32x) ⟨callB_of 1 hg (gw_ok (fun _ h => h) wd_693) rfl rfl rfl (hg _ wd_6) (hg _ wd_690) (by decide +kernel) ⟨Nat.le_of_ble_eq_true rfl, Nat.le_of_ble_eq_true rfl⟩, hg _ wd_692, hg _ se_M_isTerm⟩ (rd_preV (va_recv (q0 := 0) hK hP rfl rfl) (pw_c (q := (o, .inr (6, [.int (zI (↑sy)), .ref mA, .ref mR, .ref mW, .int (zI (↑tc)), .ref mC, .ref mS, .int (zI (↑rc)), .ref mL, .ref mT, .ref mH, .ref mY, .ref mE, .ref mG, .ref mB, .ref mO, .int (zI (tw))]))) hP 0 rfl (pw_nil)) hK hN) rfl rfl hl.1 rfl (lv_room (Nat.le_of_ble_eq_true rfl)) qd_M_about_3 ⟨Nat.le_of_ble_eq_true rfl, Nat.le_of_ble_eq_true rfl⟩) (fun r3 hr3 => ?_)
  refine zz_ifeqB (tgt := 18) hx hb qd_M_about_6 (by decide) (fun h6 => ?_) (fun h6 => ?_)
  · skip
    have hnx : ¬ (0 ≤ x ∧ x < tc) := fun z9 => by rw [hr3.mpr z9] at h6; exact Bool.noConfusion h6
    refine lv_iconst (v := zI 1) hx hb qd_M_about_18 rfl ?_
    refine lv_goto (tgt := 23) hx hb qd_M_about_19 (by decide) ?_
    refine va_put (D := (dC, dI)) (ci := 6) (v := .int (zI (1))) (ty := .int) (C := "TermOrdersModel") (T := qT_M) (N := 17) hx hb hg qi_M qt_M qo_M qn_M hown hK hP hD hS 0 rfl rfl 16 (by decide) (hg _ wd_634) (fun _ h9 => h9) rfl (by decide +kernel) rfl rfl (Nat.le_of_ble_eq_true rfl) qd_M_about_23 (fun H23_1 L23_1 hP hD hS => ?_)
    have hP : va_P (dC, dI) qcl [(o, .inr (6, [.int (zI (↑sy)), .ref mA, .ref mR, .ref mW, .int (zI (↑tc)), .ref mC, .ref mS, .int (zI (↑rc)), .ref mL, .ref mT, .ref mH, .ref mY, .ref mE, .ref mG, .ref mB, .ref mO, .int (zI (1))])), (mH, .inl (cI, 16, .inl (zA hi)))] H23_1 := hP
    have hD : va_D A [(o, .inr (6, [.int (zI (↑sy)), .ref mA, .ref mR, .ref mW, .int (zI (↑tc)), .ref mC, .ref mS, .int (zI (↑rc)), .ref mL, .ref mT, .ref mH, .ref mY, .ref mE, .ref mG, .ref mB, .ref mO, .int (zI (1))])), (mH, .inl (cI, 16, .inl (zA hi)))] := hD
    have hF := fz_keep hF0 hFA hS
    refine lv_aload_n hx hb qd_M_about_26 rfl (lv_at hl 0 rfl) ?_
    refine va_get (D := (dC, dI)) (ci := 6) (v := .int (zI (1))) (C := "TermOrdersModel") (T := qT_M) (N := 17) hx hb hg qi_M hown hK hP 0 rfl rfl 16 (by decide) (hg _ wd_634) (fun _ h9 => h9) rfl qd_M_about_27 ?_
    refine zz_if_eq (tgt := 35) hx hb qd_M_about_30 (by decide) (by omega) (fun h30 => ?_) (fun h30 => ?_)
    · skip
      exfalso
      omega
    · skip
      refine lv_iconst (v := zI 0) hx hb qd_M_about_33 rfl ?_
      exact W.iret (v := zI 0) hx hb hr (fun t9 ht9 hW9 => ⟨⟨0, (1, hi), rfl, (Or.inl ⟨by omega, rfl⟩), mwB_i (by rw [ht9]; exact hP) (va_K.moved hW9.alike hK) hD⟩, hS.F ht9⟩) hS.2.2 qd_M_about_34
  · skip
    have hyx := hr3.mp h6
    obtain ⟨hok, hza, hc9⟩ := htp x.toNat (by omega)
    have h16 := hok.2.1
    have hp0 := hok.1
    refine lv_iload_n hx hb qd_M_about_9 rfl (lv_at hl 2 rfl) ?_
    refine zz_if_lt (tgt := 18) hx hb qd_M_about_10 (by decide) (by omega) (fun h10 => ?_) (fun h10 => ?_)
    · skip
      refine lv_iconst (v := zI 1) hx hb qd_M_about_18 rfl ?_
      refine lv_goto (tgt := 23) hx hb qd_M_about_19 (by decide) ?_
      refine va_put (D := (dC, dI)) (ci := 6) (v := .int (zI (1))) (ty := .int) (C := "TermOrdersModel") (T := qT_M) (N := 17) hx hb hg qi_M qt_M qo_M qn_M hown hK hP hD hS 0 rfl rfl 16 (by decide) (hg _ wd_634) (fun _ h9 => h9) rfl (by decide +kernel) rfl rfl (Nat.le_of_ble_eq_true rfl) qd_M_about_23 (fun H23_2 L23_2 hP hD hS => ?_)
      have hP : va_P (dC, dI) qcl [(o, .inr (6, [.int (zI (↑sy)), .ref mA, .ref mR, .ref mW, .int (zI (↑tc)), .ref mC, .ref mS, .int (zI (↑rc)), .ref mL, .ref mT, .ref mH, .ref mY, .ref mE, .ref mG, .ref mB, .ref mO, .int (zI (1))])), (mH, .inl (cI, 16, .inl (zA hi)))] H23_2 := hP
      have hD : va_D A [(o, .inr (6, [.int (zI (↑sy)), .ref mA, .ref mR, .ref mW, .int (zI (↑tc)), .ref mC, .ref mS, .int (zI (↑rc)), .ref mL, .ref mT, .ref mH, .ref mY, .ref mE, .ref mG, .ref mB, .ref mO, .int (zI (1))])), (mH, .inl (cI, 16, .inl (zA hi)))] := hD
      have hF := fz_keep hF0 hFA hS
      refine lv_aload_n hx hb qd_M_about_26 rfl (lv_at hl 0 rfl) ?_
      refine va_get (D := (dC, dI)) (ci := 6) (v := .int (zI (1))) (C := "TermOrdersModel") (T := qT_M) (N := 17) hx hb hg qi_M hown hK hP 0 rfl rfl 16 (by decide) (hg _ wd_634) (fun _ h9 => h9) rfl qd_M_about_27 ?_
      refine zz_if_eq (tgt := 35) hx hb qd_M_about_30 (by decide) (by omega) (fun h30 => ?_) (fun h30 => ?_)
      · skip
        exfalso
        omega
      · skip
        refine lv_iconst (v := zI 0) hx hb qd_M_about_33 rfl ?_
        exact W.iret (v := zI 0) hx hb hr (fun t9 ht9 hW9 => ⟨⟨0, (1, hi), rfl, (Or.inl ⟨by omega, rfl⟩), mwB_i (by rw [ht9]; exact hP) (va_K.moved hW9.alike hK) hD⟩, hS.F ht9⟩) hS.2.2 qd_M_about_34
    · skip
      refine lv_iload_n hx hb qd_M_about_13 rfl (lv_at hl 2 rfl) ?_
      refine lv_iconst (v := zI 3) hx hb qd_M_about_14 rfl ?_
      refine zz_icmp_le (tgt := 22) hx hb qd_M_about_15 (by decide) (by omega) (by omega) (fun h15 => ?_) (fun h15 => ?_)
      · skip
        refine lv_iconst (v := zI 0) hx hb qd_M_about_22 rfl ?_
        refine va_put (D := (dC, dI)) (ci := 6) (v := .int (zI (0))) (ty := .int) (C := "TermOrdersModel") (T := qT_M) (N := 17) hx hb hg qi_M qt_M qo_M qn_M hown hK hP hD hS 0 rfl rfl 16 (by decide) (hg _ wd_634) (fun _ h9 => h9) rfl (by decide +kernel) rfl rfl (Nat.le_of_ble_eq_true rfl) qd_M_about_23 (fun H23_3 L23_3 hP hD hS => ?_)
        have hP : va_P (dC, dI) qcl [(o, .inr (6, [.int (zI (↑sy)), .ref mA, .ref mR, .ref mW, .int (zI (↑tc)), .ref mC, .ref mS, .int (zI (↑rc)), .ref mL, .ref mT, .ref mH, .ref mY, .ref mE, .ref mG, .ref mB, .ref mO, .int (zI (0))])), (mH, .inl (cI, 16, .inl (zA hi)))] H23_3 := hP
        have hD : va_D A [(o, .inr (6, [.int (zI (↑sy)), .ref mA, .ref mR, .ref mW, .int (zI (↑tc)), .ref mC, .ref mS, .int (zI (↑rc)), .ref mL, .ref mT, .ref mH, .ref mY, .ref mE, .ref mG, .ref mB, .ref mO, .int (zI (0))])), (mH, .inl (cI, 16, .inl (zA hi)))] := hD
        have hF := fz_keep hF0 hFA hS
        refine lv_aload_n hx hb qd_M_about_26 rfl (lv_at hl 0 rfl) ?_
        refine va_get (D := (dC, dI)) (ci := 6) (v := .int (zI (0))) (C := "TermOrdersModel") (T := qT_M) (N := 17) hx hb hg qi_M hown hK hP 0 rfl rfl 16 (by decide) (hg _ wd_634) (fun _ h9 => h9) rfl qd_M_about_27 ?_
        refine zz_if_eq (tgt := 35) hx hb qd_M_about_30 (by decide) (by omega) (fun h30 => ?_) (fun h30 => ?_)
        · skip
          refine lv_bipush (v := zI 16) hx hb qd_M_about_35 (by decide) ?_
          refine lv_iload_n hx hb qd_M_about_37 rfl (lv_at hl 1 rfl) ?_
          refine zz_imul hx hb (↑(16 * x.toNat)) (by omega) qd_M_about_38 ?_
          refine lv_istore_n (lv' := [(3, .int (zI (↑(16 * x.toNat)))), (0, .ref o), (1, .int (zI (x))), (2, .int (zI (y)))]) hx hb qd_M_about_39 rfl hl (by decide) rfl (fun ls hl => ?_)
          refine lv_iload_n hx hb qd_M_about_40 rfl (lv_at hl 3 rfl) ?_
          refine zz_if_ne (tgt := 53) hx hb qd_M_about_41 (by decide) (by omega) (fun h41 => ?_) (fun h41 => ?_)
          · skip
            refine lv_iload_n hx hb qd_M_about_53 rfl (lv_at hl 3 rfl) ?_
            refine lv_iconst (v := zI 1) hx hb qd_M_about_54 rfl ?_
            refine zz_icmp_ne (tgt := 72) hx hb qd_M_about_55 (by decide) (by omega) (by omega) (fun h55 => ?_) (fun h55 => ?_)
            · skip
              refine lv_iload_n hx hb qd_M_about_72 rfl (lv_at hl 3 rfl) ?_
              refine lv_iconst (v := zI 2) hx hb qd_M_about_73 rfl ?_
              refine zz_icmp_ne (tgt := 86) hx hb qd_M_about_74 (by decide) (by omega) (by omega) (fun h74 => ?_) (fun h74 => ?_)
              · skip
                refine lv_aload_n hx hb qd_M_about_86 rfl (lv_at hl 1 rfl) ?_
                refine lv_iload_n hx hb qd_M_about_87 rfl (lv_at hl 0 rfl) ?_
                refine lv_iconst (v := zI 0) hx hb qd_M_about_88 rfl ?_
                refine zz_top (b := ↑(0 : Nat)) rfl ?_
                refine lv_aload_n hx hb qd_M_about_89 rfl (lv_at hl 1 rfl) ?_
                refine va_get (D := (dC, dI)) (ci := 6) (v := .ref mS) (C := "TermOrdersModel") (T := qT_M) (N := 17) hx hb hg qi_M hown hK hP 0 rfl rfl 6 (by decide) (hg _ wd_624) (fun _ h9 => h9) rfl qd_M_about_90 ?_
                refine lv_iload_n hx hb qd_M_about_93 rfl (lv_at hl 2 rfl) ?_
                refine zz_eald hx hb hK hF 3 0 rfl rfl x.toNat (by omega) (by omega) (by omega) qd_M_about_94 ?_
                refine zz_top (b := ↑(tn x.toNat)) (by rw [hza]) ?_
                refine rd_callI (W.runV (As := [.int (zI (↑(16 * x.toNat))), .int (zI (↑0)), .int (zI (↑(tn x.toNat)))]) (rest := []) ⟨hx, hb, hml, hown, hg⟩ (c_M_weighed l dC dI cI cZ cT cJ o mA mR mW mC mS mL mT mH mY mE mG mB mO sy tc rc 0 ar rk wt co sz lf rg hi hv ef gr bd ol (16 * x.toNat) (tn x.toNat) (TH x.toNat) (TM x.toNat) (TE x.toNat) 0 (tn x.toNat) hwt h16 (by omega) hc9 (okT_hh hsy hok) (by omega) (by omega)) ⟨callB_of 3 hg (gw_ok (fun _ h => h) wd_741) rfl rfl rfl (hg _ wd_6) (hg _ wd_738) (by decide +kernel) ⟨Nat.le_of_ble_eq_true rfl, Nat.le_of_ble_eq_true rfl⟩, hg _ wd_740, hg _ se_M_weighed⟩ (rd_preV (va_recv (q0 := 0) hK hP rfl rfl) (pw_c (q := (o, .inr (6, [.int (zI (↑sy)), .ref mA, .ref mR, .ref mW, .int (zI (↑tc)), .ref mC, .ref mS, .int (zI (↑rc)), .ref mL, .ref mT, .ref mH, .ref mY, .ref mE, .ref mG, .ref mB, .ref mO, .int (zI (0))]))) hP 0 rfl (pw_c (q := (mW, .inl (cI, 5, .inl (zA wt)))) hF 1 rfl (pw_c (q := (mC, .inl (cI, 2608, .inl (zA co)))) hF 2 rfl (pw_nil)))) hK hN) rfl rfl hl.1 rfl (lv_room (Nat.le_of_ble_eq_true rfl)) qd_M_about_95 ⟨Nat.le_of_ble_eq_true rfl, Nat.le_of_ble_eq_true rfl⟩) (fun r95 hr95 => ?_)
                have e95 : r95 = wsum (TH x.toNat) wt 0 (tn x.toNat) := hr95
                subst e95
                exact W.iret (v := zI (wsum (TH x.toNat) wt 0 (tn x.toNat))) hx hb hr (fun t9 ht9 hW9 => ⟨⟨wsum (TH x.toNat) wt 0 (tn x.toNat), (0, hi), rfl, (Or.inr ⟨by omega, rfl, by rw [if_neg (by omega), if_neg (by omega), if_neg (by omega)]⟩), mwB_i (by rw [ht9]; exact hP) (va_K.moved hW9.alike hK) hD⟩, hS.F ht9⟩) hS.2.2 qd_M_about_98
              · skip
                refine lv_aload_n hx hb qd_M_about_77 rfl (lv_at hl 1 rfl) ?_
                refine va_get (D := (dC, dI)) (ci := 6) (v := .ref mS) (C := "TermOrdersModel") (T := qT_M) (N := 17) hx hb hg qi_M hown hK hP 0 rfl rfl 6 (by decide) (hg _ wd_624) (fun _ h9 => h9) rfl qd_M_about_78 ?_
                refine lv_iload_n hx hb qd_M_about_81 rfl (lv_at hl 2 rfl) ?_
                refine zz_eald hx hb hK hF 3 0 rfl rfl x.toNat (by omega) (by omega) (by omega) qd_M_about_82 ?_
                refine zz_top (b := ↑(tn x.toNat)) (by rw [hza]) ?_
                refine lv_goto (tgt := 98) hx hb qd_M_about_83 (by decide) ?_
                exact W.iret (v := zI (↑(tn x.toNat))) hx hb hr (fun t9 ht9 hW9 => ⟨⟨↑(tn x.toNat), (0, hi), rfl, (Or.inr ⟨by omega, rfl, by rw [if_neg (by omega), if_neg (by omega), if_pos (by omega)]⟩), mwB_i (by rw [ht9]; exact hP) (va_K.moved hW9.alike hK) hD⟩, hS.F ht9⟩) hS.2.2 qd_M_about_98
            · skip
              refine lv_aload_n hx hb qd_M_about_58 rfl (lv_at hl 1 rfl) ?_
              refine lv_iload_n hx hb qd_M_about_59 rfl (lv_at hl 0 rfl) ?_
              refine lv_aload_n hx hb qd_M_about_60 rfl (lv_at hl 1 rfl) ?_
              refine va_get (D := (dC, dI)) (ci := 6) (v := .ref mS) (C := "TermOrdersModel") (T := qT_M) (N := 17) hx hb hg qi_M hown hK hP 0 rfl rfl 6 (by decide) (hg _ wd_624) (fun _ h9 => h9) rfl qd_M_about_61 ?_
              refine lv_iload_n hx hb qd_M_about_64 rfl (lv_at hl 2 rfl) ?_
              refine zz_eald hx hb hK hF 3 0 rfl rfl x.toNat (by omega) (by omega) (by omega) qd_M_about_65 ?_
              refine zz_top (b := ↑(tn x.toNat)) (by rw [hza]) ?_
              have hPc := hP.sub (ws' := [(mH, .inl (cI, 16, .inl (zA hi)))]) [1] rfl
              have hDc := hD.sub (ws' := [(mH, .inl (cI, 16, .inl (zA hi)))]) [1] (by decide) rfl
              have hFr := va_free (wc := [(mH, .inl (cI, 16, .inl (zA hi)))]) hD hS hA [1] rfl
              refine mw_callI (va_runV (As := [.int (zI (↑(16 * x.toNat))), .int (zI (↑(tn x.toNat)))]) (rest := []) ⟨hx, hb, hml, hown, hg⟩ (c_M_height l dC dI cI cZ cT cJ o mA mR mW mC mS mL mT mH mY mE mG mB mO sy tc rc 0 ar rk wt co sz lf rg hi hv ef gr bd ol (16 * x.toNat) (tn x.toNat) (TH x.toNat) (TM x.toNat) (TE x.toNat) (HT x.toNat) H23_3.size har h16 (by omega) hc9 hok.2.2.2.1 (okT_hh hsy hok) hok.2.2.2.2.1 hok.2.2.2.2.2.2.1 hp0) ⟨callB_of 2 hg (gw_ok (fun _ h => h) wd_705) rfl rfl rfl (hg _ wd_6) (hg _ wd_702) (by decide +kernel) ⟨Nat.le_of_ble_eq_true rfl, Nat.le_of_ble_eq_true rfl⟩, hg _ wd_704, hg _ se_M_height⟩ (mw_preV (va_recv (q0 := 0) hK hP rfl rfl) hPc (pw_c (q := (o, .inr (6, [.int (zI (↑sy)), .ref mA, .ref mR, .ref mW, .int (zI (↑tc)), .ref mC, .ref mS, .int (zI (↑rc)), .ref mL, .ref mT, .ref mH, .ref mY, .ref mE, .ref mG, .ref mB, .ref mO, .int (zI (0))]))) hP 0 rfl (pw_c (q := (mA, .inl (cI, 5, .inl (zA ar)))) hF 0 rfl (pw_c (q := (mC, .inl (cI, 2608, .inl (zA co)))) hF 2 rfl (pw_nil)))) hK hN hDc (apw_c (q := (o, .inr (6, [.int (zI (↑sy)), .ref mA, .ref mR, .ref mW, .int (zI (↑tc)), .ref mC, .ref mS, .int (zI (↑rc)), .ref mL, .ref mT, .ref mH, .ref mY, .ref mE, .ref mG, .ref mB, .ref mO, .int (zI (0))]))) (apw_m hD [1] rfl 0 rfl (by decide)) (apw_c (q := (mA, .inl (cI, 5, .inl (zA ar)))) (apw_f hD [1] rfl (hFA 0 _ rfl)) (apw_c (q := (mC, .inl (cI, 2608, .inl (zA co)))) (apw_f hD [1] rfl (hFA 2 _ rfl)) (apw_nil))))) rfl rfl hl.1 rfl (lv_room (Nat.le_of_ble_eq_true rfl)) qd_M_about_66 ⟨Nat.le_of_ble_eq_true rfl, Nat.le_of_ble_eq_true rfl⟩) hS (fun q _ h => hFr q h) hFr (fun r66 hi3 t9 H66_4 L66_4 ht9 hv9 hr66 hB9 hz9 hk9 hS => ?_)
              try dsimp only at hr66 hB9
              obtain ⟨hP, hD⟩ := mw_join (wr := [(o, .inr (6, [.int (zI (↑sy)), .ref mA, .ref mR, .ref mW, .int (zI (↑tc)), .ref mC, .ref mS, .int (zI (↑rc)), .ref mL, .ref mT, .ref mH, .ref mY, .ref mE, .ref mG, .ref mB, .ref mO, .int (zI (0))]))]) (w1 := [(mH, .inl (cI, 16, .inl (zA hi3)))]) hP hD [1] [0] rfl rfl (by decide) (by decide) hk9 hFr ht9 hB9
              have hP := hP.sub (ws' := [(o, .inr (6, [.int (zI (↑sy)), .ref mA, .ref mR, .ref mW, .int (zI (↑tc)), .ref mC, .ref mS, .int (zI (↑rc)), .ref mL, .ref mT, .ref mH, .ref mY, .ref mE, .ref mG, .ref mB, .ref mO, .int (zI (0))])), (mH, .inl (cI, 16, .inl (zA hi3)))]) [0, 1] rfl
              have hD := hD.sub (ws' := [(o, .inr (6, [.int (zI (↑sy)), .ref mA, .ref mR, .ref mW, .int (zI (↑tc)), .ref mC, .ref mS, .int (zI (↑rc)), .ref mL, .ref mT, .ref mH, .ref mY, .ref mE, .ref mG, .ref mB, .ref mO, .int (zI (0))])), (mH, .inl (cI, 16, .inl (zA hi3)))]) [0, 1] (by decide) rfl
              have hF := fz_keep hF0 hFA hS
              subst hr66
              refine lv_goto (tgt := 98) hx hb qd_M_about_69 (by decide) ?_
              exact W.iret (v := zI ((HT x.toNat 0))) hx hb hr (fun t9 ht9 hW9 => ⟨⟨(HT x.toNat 0), (0, hi3), rfl, (Or.inr ⟨by omega, rfl, by rw [if_neg (by omega), if_pos (by omega)]⟩), mwB_i (by rw [ht9]; exact hP) (va_K.moved hW9.alike hK) hD⟩, hS.F ht9⟩) hS.2.2 qd_M_about_98
          · skip
            refine lv_aload_n hx hb qd_M_about_44 rfl (lv_at hl 1 rfl) ?_
            refine va_get (D := (dC, dI)) (ci := 6) (v := .ref mC) (C := "TermOrdersModel") (T := qT_M) (N := 17) hx hb hg qi_M hown hK hP 0 rfl rfl 5 (by decide) (hg _ wd_623) (fun _ h9 => h9) rfl qd_M_about_45 ?_
            refine lv_iload_n hx hb qd_M_about_48 rfl (lv_at hl 0 rfl) ?_
            refine zz_iald hx hb hK hF 2 0 rfl rfl (16 * x.toNat) (by omega) (by omega) (by omega) qd_M_about_49 ?_
            refine zz_top (b := TH x.toNat 0) (hc9 0 hp0) ?_
            refine lv_goto (tgt := 98) hx hb qd_M_about_50 (by decide) ?_
            exact W.iret (v := zI (TH x.toNat 0)) hx hb hr (fun t9 ht9 hW9 => ⟨⟨TH x.toNat 0, (0, hi), rfl, (Or.inr ⟨by omega, rfl, by rw [if_pos (by omega)]⟩), mwB_i (by rw [ht9]; exact hP) (va_K.moved hW9.alike hK) hD⟩, hS.F ht9⟩) hS.2.2 qd_M_about_98
        · skip
          exfalso
          omega
      · skip
        refine lv_iconst (v := zI 1) hx hb qd_M_about_18 rfl ?_
        refine lv_goto (tgt := 23) hx hb qd_M_about_19 (by decide) ?_
        refine va_put (D := (dC, dI)) (ci := 6) (v := .int (zI (1))) (ty := .int) (C := "TermOrdersModel") (T := qT_M) (N := 17) hx hb hg qi_M qt_M qo_M qn_M hown hK hP hD hS 0 rfl rfl 16 (by decide) (hg _ wd_634) (fun _ h9 => h9) rfl (by decide +kernel) rfl rfl (Nat.le_of_ble_eq_true rfl) qd_M_about_23 (fun H23_5 L23_5 hP hD hS => ?_)
        have hP : va_P (dC, dI) qcl [(o, .inr (6, [.int (zI (↑sy)), .ref mA, .ref mR, .ref mW, .int (zI (↑tc)), .ref mC, .ref mS, .int (zI (↑rc)), .ref mL, .ref mT, .ref mH, .ref mY, .ref mE, .ref mG, .ref mB, .ref mO, .int (zI (1))])), (mH, .inl (cI, 16, .inl (zA hi)))] H23_5 := hP
        have hD : va_D A [(o, .inr (6, [.int (zI (↑sy)), .ref mA, .ref mR, .ref mW, .int (zI (↑tc)), .ref mC, .ref mS, .int (zI (↑rc)), .ref mL, .ref mT, .ref mH, .ref mY, .ref mE, .ref mG, .ref mB, .ref mO, .int (zI (1))])), (mH, .inl (cI, 16, .inl (zA hi)))] := hD
        have hF := fz_keep hF0 hFA hS
        refine lv_aload_n hx hb qd_M_about_26 rfl (lv_at hl 0 rfl) ?_
        refine va_get (D := (dC, dI)) (ci := 6) (v := .int (zI (1))) (C := "TermOrdersModel") (T := qT_M) (N := 17) hx hb hg qi_M hown hK hP 0 rfl rfl 16 (by decide) (hg _ wd_634) (fun _ h9 => h9) rfl qd_M_about_27 ?_
        refine zz_if_eq (tgt := 35) hx hb qd_M_about_30 (by decide) (by omega) (fun h30 => ?_) (fun h30 => ?_)
        · skip
          exfalso
          omega
        · skip
          refine lv_iconst (v := zI 0) hx hb qd_M_about_33 rfl ?_
          exact W.iret (v := zI 0) hx hb hr (fun t9 ht9 hW9 => ⟨⟨0, (1, hi), rfl, (Or.inl ⟨by omega, rfl⟩), mwB_i (by rw [ht9]; exact hP) (va_K.moved hW9.alike hK) hD⟩, hS.F ht9⟩) hS.2.2 qd_M_about_34
