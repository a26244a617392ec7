theorem ins_mono {hr ht : Nat → Int} {et : Nat → Nat} {b : Nat → Int} {i : Nat} : ∀ {n : Nat}, i ≤ n → (ins hr ht et b i).length ≤ (ins hr ht et b n).length := by
  intro n h
  induction n with
  | zero => rw [show i = 0 by omega]; exact Nat.le_refl _
  | succ n ih =>
    by_cases e : i = n + 1
    · rw [e]; exact Nat.le_refl _
    · have := ih (by omega)
      show _ ≤ (ins hr ht et b n ++ _).length
      rw [List.length_append]
      omega
set_option maxHeartbeats 4000000 in
set_option maxRecDepth 100000 in
theorem c_M_step (l : Launch) (dC : Nat → ClassId) (dI : Nat → Nat → Nat) (cI cZ cT cJ : ClassId) (o mA mR mW mC mS mL mT mH mY mE mG mB mO sy tc rc : Nat) (tw : Int) (ar rk wt co : Nat → Int) (sz lf rg : Nat → Nat) (hi hv : Nat → Int) (ef : Nat → Nat) (gr : Nat → Bool) (bd ol : Nat → Int) (tn : Nat → Nat) (TH TM : Nat → Nat → Int) (TE : Nat → Nat → Nat) (HT : Nat → Nat → Int) (x : Int) (tm : Nat → Int) (te : Nat → Nat) (t : Nat → Int) (zh : Nat) (har : ∀ q, q < 5 → 0 ≤ ar q ∧ ar q ≤ 3) (hsy : sy ≤ 5) (htc : tc ≤ 160) (htp : ∀ t, t < tc → okT sy ar (tn t) (TH t) (TM t) (TE t) (HT t) ∧ sz t = tn t ∧ ∀ q, q < tn t → co (16 * t + q) = TH t q) (hrc : rc ≤ 8) (hlr : ∀ r, r < rc → lf r < tc ∧ rg r < tc ∧ ∀ q, q < tn (rg r) → TH (rg r) q < 0 → ∃ k, k < tn (lf r) ∧ TH (lf r) k = TH (rg r) q) (h32x : -2147483648 ≤ x ∧ x < 2147483648) (hnt : (0 ≤ x ∧ x < tc) → ∀ (k r0 q : Nat) (b : Nat → Int), (inF (fun p => ∃ r, r < rc ∧ MA (TH (lf r)) (tn (lf r)) (TH x.toNat) (TE x.toNat) p) (TE x.toNat) (tn x.toNat) k ∧ r0 < rc ∧ MR (TH (lf r0)) (TH x.toNat) (TE x.toNat) k (tn (lf r0)) q b ∧ (∀ s, s < r0 → ¬ MA (TH (lf s)) (tn (lf s)) (TH x.toNat) (TE x.toNat) k)) → newT sy ar (seg (TH x.toNat) 0 k ++ ins (TH (rg r0)) (TH x.toNat) (TE x.toNat) b (tn (rg r0)) ++ seg (TH x.toNat) (TE x.toNat k) (tn x.toNat)) tm te t) : Met l qy_M_step qw_M_step ({ frames := 6, cells := 0, slots := 0, locals := 148 }) (mwP (dC, dI) qcl (qty cI cZ cT cJ) nwL [(o, .inr (6, [.int (zI (↑sy)), .ref mA, .ref mR, .ref mW, .int (zI (↑tc)), .ref mC, .ref mS, .int (zI (↑rc)), .ref mL, .ref mT, .ref mH, .ref mY, .ref mE, .ref mG, .ref mB, .ref mO, .int (zI (tw))])), (mC, .inl (cI, 2608, .inl (zA co))), (mS, .inl (cI, 163, .inl (zA (eI sz)))), (mH, .inl (cI, 16, .inl (zA hi))), (mB, .inl (cI, 4, .inl (zA bd)))] [(mA, .inl (cI, 5, .inl (zA ar))), (mL, .inl (cI, 8, .inl (zA (eI lf)))), (mT, .inl (cI, 8, .inl (zA (eI rg))))] zh [.ref o, .int (zI (x))]) (mwI (S := (Int) × (Nat) × (Nat → Int) × (Nat → Nat) × (Nat → Int) × (Nat → Int)) (fun r uq => (¬ (0 ≤ x ∧ x < tc) ∧ uq.1 = 1 ∧ uq.2.1 = tc ∧ uq.2.2.2.1 = sz ∧ ∀ j, j < 2560 → uq.2.2.1 j = co j) ∨ ((0 ≤ x ∧ x < tc) ∧ (∀ k, k < tn x.toNat → ¬ (fun p => ∃ r, r < rc ∧ MA (TH (lf r)) (tn (lf r)) (TH x.toNat) (TE x.toNat) p) k) ∧ uq.1 = 0 ∧ r = -1 ∧ uq.2.1 = tc ∧ uq.2.2.2.1 = sz ∧ ∀ j, j < 2560 → uq.2.2.1 j = co j) ∨ ((0 ≤ x ∧ x < tc) ∧ ∃ (k r0 q : Nat) (b : Nat → Int), (inF (fun p => ∃ r, r < rc ∧ MA (TH (lf r)) (tn (lf r)) (TH x.toNat) (TE x.toNat) p) (TE x.toNat) (tn x.toNat) k ∧ r0 < rc ∧ MR (TH (lf r0)) (TH x.toNat) (TE x.toNat) k (tn (lf r0)) q b ∧ (∀ s, s < r0 → ¬ MA (TH (lf s)) (tn (lf s)) (TH x.toNat) (TE x.toNat) k)) ∧ kpM (seg (TH x.toNat) 0 k ++ ins (TH (rg r0)) (TH x.toNat) (TE x.toNat) b (tn (rg r0)) ++ seg (TH x.toNat) (TE x.toNat k) (tn x.toNat)) (t 0) tc co sz uq.1 uq.2.1 uq.2.2.1 uq.2.2.2.1 r)) (fun uq tq => mwB (dC, dI) qcl (qty cI cZ cT cJ) (va_A [(o, .inr (6, [.int (zI (↑sy)), .ref mA, .ref mR, .ref mW, .int (zI (↑tc)), .ref mC, .ref mS, .int (zI (↑rc)), .ref mL, .ref mT, .ref mH, .ref mY, .ref mE, .ref mG, .ref mB, .ref mO, .int (zI (tw))])), (mC, .inl (cI, 2608, .inl (zA co))), (mS, .inl (cI, 163, .inl (zA (eI sz)))), (mH, .inl (cI, 16, .inl (zA hi))), (mB, .inl (cI, 4, .inl (zA bd)))] zh) [(o, .inr (6, [.int (zI (↑sy)), .ref mA, .ref mR, .ref mW, .int (zI (↑uq.2.1)), .ref mC, .ref mS, .int (zI (↑rc)), .ref mL, .ref mT, .ref mH, .ref mY, .ref mE, .ref mG, .ref mB, .ref mO, .int (zI (uq.1))])), (mC, .inl (cI, 2608, .inl (zA uq.2.2.1))), (mS, .inl (cI, 163, .inl (zA (eI uq.2.2.2.1)))), (mH, .inl (cI, 16, .inl (zA uq.2.2.2.2.1))), (mB, .inl (cI, 4, .inl (zA uq.2.2.2.2.2)))] tq) (va_A [(o, .inr (6, [.int (zI (↑sy)), .ref mA, .ref mR, .ref mW, .int (zI (↑tc)), .ref mC, .ref mS, .int (zI (↑rc)), .ref mL, .ref mT, .ref mH, .ref mY, .ref mE, .ref mG, .ref mB, .ref mO, .int (zI (tw))])), (mC, .inl (cI, 2608, .inl (zA co))), (mS, .inl (cI, 163, .inl (zA (eI sz)))), (mH, .inl (cI, 16, .inl (zA hi))), (mB, .inl (cI, 4, .inl (zA bd)))] zh)) 0 0 (va_A [(o, .inr (6, [.int (zI (↑sy)), .ref mA, .ref mR, .ref mW, .int (zI (↑tc)), .ref mC, .ref mS, .int (zI (↑rc)), .ref mL, .ref mT, .ref mH, .ref mY, .ref mE, .ref mG, .ref mB, .ref mO, .int (zI (tw))])), (mC, .inl (cI, 2608, .inl (zA co))), (mS, .inl (cI, 163, .inl (zA (eI sz)))), (mH, .inl (cI, 16, .inl (zA hi))), (mB, .inl (cI, 4, .inl (zA bd)))] zh) := by
  refine Met.ofW (cc := qc_M_step) (maxL := 10) (ret := (Option.some Jvm.ClassFile.FieldType.int)) (by decide) rfl ?_
  intro pg eg sg mg args below meth cg s₁ B hml hv
  obtain ⟨rfl, hsz, hP, hF0, hK, hN, hD0, hap⟩ := hv
  have hx := B.exec
  have hb := B.bytes
  have hr := B.returns
  have hts := atoms_spec (ws := qw_M_step) B.pre
  have hg : ∀ w ∈ gw, w.before _ sg = true := fun w h => hts w (List.mem_cons_of_mem _ h)
  have hown : sg.vm.findClass "TermOrdersModel" = some mg.cls := findClass_of_methodNamed B.named
  have hlocks := B.notSynchronized
  have hl := lv_entry ([.ref o, .int (zI (x))]) (n := 10) (Nat.le_of_ble_eq_true rfl)
  rw [lg_entry_eq]
  generalize (lg_sl ([.ref o, .int (zI (x))]) ++ List.replicate (10 - (lg_sl ([.ref o, .int (zI (x))])).length) Slot.unset).toArray = ls at hl ⊢
  subst hsz
  have hD := hD0.self (sz := sg.heap.size)
  have hFA := apw_A hap (fun k q hk => (hF0 k q hk).lt)
  generalize hAe : va_A [(o, .inr (6, [.int (zI (↑sy)), .ref mA, .ref mR, .ref mW, .int (zI (↑tc)), .ref mC, .ref mS, .int (zI (↑rc)), .ref mL, .ref mT, .ref mH, .ref mY, .ref mE, .ref mG, .ref mB, .ref mO, .int (zI (tw))])), (mC, .inl (cI, 2608, .inl (zA co))), (mS, .inl (cI, 163, .inl (zA (eI sz)))), (mH, .inl (cI, 16, .inl (zA hi))), (mB, .inl (cI, 4, .inl (zA bd)))] sg.heap.size = A at hD hFA ⊢
  have hA : ∀ q : Nat, sg.heap.size ≤ q → A q := fun q h => by rw [← hAe]; exact Or.inr h
  have hS : va_S A sg.heap sg.heap [] := va_S.rf
  have hF := hF0
  have hl : lv_has ls 10 [(0, .ref o), (1, .int (zI (x)))] := hl
  refine lv_aload_n hx hb qd_M_step_0 rfl (lv_at hl 0 rfl) ?_
  refine lv_aload_n hx hb qd_M_step_1 rfl (lv_at hl 0 rfl) ?_
  refine lv_iload_n hx hb qd_M_step_2 rfl (lv_at hl 1 rfl) ?_
  refine rd_callB (W.runV (As := [.int (zI (x))]) (rest := [.ref o]) ⟨hx, hb, hml, hown, hg⟩ (c_M_isTerm l dC dI cI cZ cT cJ o mA mR mW mC mS mL mT mH mY mE mG mB mO sy tc rc tw ar rk wt co sz lf rg hi hv ef gr bd ol x htc h32x) ⟨callB_of 1 hg (gw_ok (fun _ h => h) wd_693) rfl rfl rfl (hg _ wd_6) (hg _ wd_690) (by decide +kernel) ⟨Nat.le_of_ble_eq_true rfl, Nat.le_of_ble_eq_true rfl⟩, hg _ wd_692, hg _ se_M_isTerm⟩ (rd_preV (va_recv (q0 := 0) hK hP rfl rfl) (pw_c (q := (o, .inr (6, [.int (zI (↑sy)), .ref mA, .ref mR, .ref mW, .int (zI (↑tc)), .ref mC, .ref mS, .int (zI (↑rc)), .ref mL, .ref mT, .ref mH, .ref mY, .ref mE, .ref mG, .ref mB, .ref mO, .int (zI (tw))]))) hP 0 rfl (pw_nil)) hK hN) rfl rfl hl.1 rfl (lv_room (Nat.le_of_ble_eq_true rfl)) qd_M_step_3 ⟨Nat.le_of_ble_eq_true rfl, Nat.le_of_ble_eq_true rfl⟩) (fun r3 hr3 => ?_)
  refine zz_ifeqB (tgt := 13) hx hb qd_M_step_6 (by decide) (fun h6 => ?_) (fun h6 => ?_)
  · skip
    have hnx : ¬ (0 ≤ x ∧ x < tc) := fun z9 => by rw [hr3.mpr z9] at h6; exact Bool.noConfusion h6
    refine lv_iconst (v := zI 1) hx hb qd_M_step_13 rfl ?_
    refine va_put (D := (dC, dI)) (ci := 6) (v := .int (zI (1))) (ty := .int) (C := "TermOrdersModel") (T := qT_M) (N := 17) hx hb hg qi_M qt_M qo_M qn_M hown hK hP hD hS 0 rfl rfl 16 (by decide) (hg _ wd_634) (fun _ h9 => h9) rfl (by decide +kernel) rfl rfl (Nat.le_of_ble_eq_true rfl) qd_M_step_14 (fun H14_1 L14_1 hP hD hS => ?_)
    have hP : va_P (dC, dI) qcl [(o, .inr (6, [.int (zI (↑sy)), .ref mA, .ref mR, .ref mW, .int (zI (↑tc)), .ref mC, .ref mS, .int (zI (↑rc)), .ref mL, .ref mT, .ref mH, .ref mY, .ref mE, .ref mG, .ref mB, .ref mO, .int (zI (1))])), (mC, .inl (cI, 2608, .inl (zA co))), (mS, .inl (cI, 163, .inl (zA (eI sz)))), (mH, .inl (cI, 16, .inl (zA hi))), (mB, .inl (cI, 4, .inl (zA bd)))] H14_1 := hP
    have hD : va_D A [(o, .inr (6, [.int (zI (↑sy)), .ref mA, .ref mR, .ref mW, .int (zI (↑tc)), .ref mC, .ref mS, .int (zI (↑rc)), .ref mL, .ref mT, .ref mH, .ref mY, .ref mE, .ref mG, .ref mB, .ref mO, .int (zI (1))])), (mC, .inl (cI, 2608, .inl (zA co))), (mS, .inl (cI, 163, .inl (zA (eI sz)))), (mH, .inl (cI, 16, .inl (zA hi))), (mB, .inl (cI, 4, .inl (zA bd)))] := hD
    have hF := fz_keep hF0 hFA hS
    refine lv_aload_n hx hb qd_M_step_17 rfl (lv_at hl 0 rfl) ?_
    refine va_get (D := (dC, dI)) (ci := 6) (v := .int (zI (1))) (C := "TermOrdersModel") (T := qT_M) (N := 17) hx hb hg qi_M hown hK hP 0 rfl rfl 16 (by decide) (hg _ wd_634) (fun _ h9 => h9) rfl qd_M_step_18 ?_
    refine zz_if_ne (tgt := 32) hx hb qd_M_step_21 (by decide) (by omega) (fun h21 => ?_) (fun h21 => ?_)
    · skip
      refine lv_iconst (v := zI (-1)) hx hb qd_M_step_32 rfl ?_
      refine lv_istore_n (lv' := [(2, .int (zI ((-1)))), (0, .ref o), (1, .int (zI (x)))]) hx hb qd_M_step_33 rfl hl (by decide) rfl (fun ls hl => ?_)
      refine lv_aload_n hx hb qd_M_step_34 rfl (lv_at hl 1 rfl) ?_
      refine va_get (D := (dC, dI)) (ci := 6) (v := .int (zI (1))) (C := "TermOrdersModel") (T := qT_M) (N := 17) hx hb hg qi_M hown hK hP 0 rfl rfl 16 (by decide) (hg _ wd_634) (fun _ h9 => h9) rfl qd_M_step_35 ?_
      refine zz_if_ne (tgt := 45) hx hb qd_M_step_38 (by decide) (by omega) (fun h38 => ?_) (fun h38 => ?_)
      · skip
        refine lv_aload_n hx hb qd_M_step_45 rfl (lv_at hl 1 rfl) ?_
        refine va_get (D := (dC, dI)) (ci := 6) (v := .int (zI (1))) (C := "TermOrdersModel") (T := qT_M) (N := 17) hx hb hg qi_M hown hK hP 0 rfl rfl 16 (by decide) (hg _ wd_634) (fun _ h9 => h9) rfl qd_M_step_46 ?_
        refine zz_if_ne (tgt := 56) hx hb qd_M_step_49 (by decide) (by omega) (fun h49 => ?_) (fun h49 => ?_)
        · skip
          refine lv_iconst (v := zI 0) hx hb qd_M_step_56 rfl ?_
          exact W.iret (v := zI 0) hx hb hr (fun t9 ht9 hW9 => ⟨⟨0, (1, tc, co, sz, hi, bd), rfl, (Or.inl ⟨by omega, rfl, rfl, rfl, fun _ _ => rfl⟩), mwB_i (by rw [ht9]; exact hP) (va_K.moved hW9.alike hK) hD⟩, hS.F ht9⟩) hS.2.2 qd_M_step_57
        · skip
          exfalso
          omega
      · skip
        exfalso
        omega
    · skip
      exfalso
      omega
  · skip
    have hyx := hr3.mp h6
    obtain ⟨hox, hzx, hcx⟩ := htp x.toNat (by omega)
    have h16 := hox.2.1
    have hwe := hox.2.2.2.2.1
    refine lv_iconst (v := zI 0) hx hb qd_M_step_9 rfl ?_
    refine lv_goto (tgt := 14) hx hb qd_M_step_10 (by decide) ?_
    refine va_put (D := (dC, dI)) (ci := 6) (v := .int (zI (0))) (ty := .int) (C := "TermOrdersModel") (T := qT_M) (N := 17) hx hb hg qi_M qt_M qo_M qn_M hown hK hP hD hS 0 rfl rfl 16 (by decide) (hg _ wd_634) (fun _ h9 => h9) rfl (by decide +kernel) rfl rfl (Nat.le_of_ble_eq_true rfl) qd_M_step_14 (fun H14_2 L14_2 hP hD hS => ?_)
    have hP : va_P (dC, dI) qcl [(o, .inr (6, [.int (zI (↑sy)), .ref mA, .ref mR, .ref mW, .int (zI (↑tc)), .ref mC, .ref mS, .int (zI (↑rc)), .ref mL, .ref mT, .ref mH, .ref mY, .ref mE, .ref mG, .ref mB, .ref mO, .int (zI (0))])), (mC, .inl (cI, 2608, .inl (zA co))), (mS, .inl (cI, 163, .inl (zA (eI sz)))), (mH, .inl (cI, 16, .inl (zA hi))), (mB, .inl (cI, 4, .inl (zA bd)))] H14_2 := hP
    have hD : va_D A [(o, .inr (6, [.int (zI (↑sy)), .ref mA, .ref mR, .ref mW, .int (zI (↑tc)), .ref mC, .ref mS, .int (zI (↑rc)), .ref mL, .ref mT, .ref mH, .ref mY, .ref mE, .ref mG, .ref mB, .ref mO, .int (zI (0))])), (mC, .inl (cI, 2608, .inl (zA co))), (mS, .inl (cI, 163, .inl (zA (eI sz)))), (mH, .inl (cI, 16, .inl (zA hi))), (mB, .inl (cI, 4, .inl (zA bd)))] := hD
    have hF := fz_keep hF0 hFA hS
    refine lv_aload_n hx hb qd_M_step_17 rfl (lv_at hl 0 rfl) ?_
    refine va_get (D := (dC, dI)) (ci := 6) (v := .int (zI (0))) (C := "TermOrdersModel") (T := qT_M) (N := 17) hx hb hg qi_M hown hK hP 0 rfl rfl 16 (by decide) (hg _ wd_634) (fun _ h9 => h9) rfl qd_M_step_18 ?_
    refine zz_if_ne (tgt := 32) hx hb qd_M_step_21 (by decide) (by omega) (fun h21 => ?_) (fun h21 => ?_)
    · skip
      exfalso
      omega
    · skip
      refine lv_aload_n hx hb qd_M_step_24 rfl (lv_at hl 0 rfl) ?_
      refine lv_iload_n hx hb qd_M_step_25 rfl (lv_at hl 1 rfl) ?_
      refine zz_top (b := ↑x.toNat) (by omega) ?_
      have hPc := hP.sub (ws' := [(mB, .inl (cI, 4, .inl (zA bd)))]) [4] rfl
      have hDc := hD.sub (ws' := [(mB, .inl (cI, 4, .inl (zA bd)))]) [4] (by decide) rfl
      have hFr := va_free (wc := [(mB, .inl (cI, 4, .inl (zA bd)))]) hD hS hA [4] rfl
      refine mw_callI (va_runV (As := [.int (zI (↑x.toNat))]) (rest := []) ⟨hx, hb, hml, hown, hg⟩ (c_M_placeOf l dC dI cI cZ cT cJ o mA mR mW mC mS mL mT mH mY mE mG mB mO sy tc rc 0 ar rk wt co sz lf rg hi hv ef gr bd ol tn TH TM TE HT x.toNat (tn x.toNat) (TH x.toNat) (TM x.toNat) (TE x.toNat) (HT x.toNat) H14_2.size har hsy htc htp hrc hlr (by omega) hox hzx hcx) ⟨callB_of 1 hg (gw_ok (fun _ h => h) wd_797) rfl rfl rfl (hg _ wd_6) (hg _ wd_794) (by decide +kernel) ⟨Nat.le_of_ble_eq_true rfl, Nat.le_of_ble_eq_true rfl⟩, hg _ wd_796, hg _ se_M_placeOf⟩ (mw_preV (va_recv (q0 := 0) hK hP rfl rfl) hPc (pw_c (q := (o, .inr (6, [.int (zI (↑sy)), .ref mA, .ref mR, .ref mW, .int (zI (↑tc)), .ref mC, .ref mS, .int (zI (↑rc)), .ref mL, .ref mT, .ref mH, .ref mY, .ref mE, .ref mG, .ref mB, .ref mO, .int (zI (0))]))) hP 0 rfl (pw_c (q := (mA, .inl (cI, 5, .inl (zA ar)))) hF 0 rfl (pw_c (q := (mC, .inl (cI, 2608, .inl (zA co)))) hP 1 rfl (pw_c (q := (mS, .inl (cI, 163, .inl (zA (eI sz))))) hP 2 rfl (pw_c (q := (mL, .inl (cI, 8, .inl (zA (eI lf))))) hF 1 rfl (pw_nil)))))) hK hN hDc (apw_c (q := (o, .inr (6, [.int (zI (↑sy)), .ref mA, .ref mR, .ref mW, .int (zI (↑tc)), .ref mC, .ref mS, .int (zI (↑rc)), .ref mL, .ref mT, .ref mH, .ref mY, .ref mE, .ref mG, .ref mB, .ref mO, .int (zI (0))]))) (apw_m hD [4] rfl 0 rfl (by decide)) (apw_c (q := (mA, .inl (cI, 5, .inl (zA ar)))) (apw_f hD [4] rfl (hFA 0 _ rfl)) (apw_c (q := (mC, .inl (cI, 2608, .inl (zA co)))) (apw_m hD [4] rfl 1 rfl (by decide)) (apw_c (q := (mS, .inl (cI, 163, .inl (zA (eI sz))))) (apw_m hD [4] rfl 2 rfl (by decide)) (apw_c (q := (mL, .inl (cI, 8, .inl (zA (eI lf))))) (apw_f hD [4] rfl (hFA 1 _ rfl)) (apw_nil))))))) rfl rfl hl.1 rfl (lv_room (Nat.le_of_ble_eq_true rfl)) qd_M_step_26 ⟨Nat.le_of_ble_eq_true rfl, Nat.le_of_ble_eq_true rfl⟩) hS (fun q _ h => hFr q h) hFr (fun r26 b1 t9 H26_3 L26_3 ht9 hv9 hr26 hB9 hz9 hk9 hS => ?_)
      try dsimp only at hr26 hB9
      obtain ⟨hP, hD⟩ := mw_join (wr := [(o, .inr (6, [.int (zI (↑sy)), .ref mA, .ref mR, .ref mW, .int (zI (↑tc)), .ref mC, .ref mS, .int (zI (↑rc)), .ref mL, .ref mT, .ref mH, .ref mY, .ref mE, .ref mG, .ref mB, .ref mO, .int (zI (0))])), (mC, .inl (cI, 2608, .inl (zA co))), (mS, .inl (cI, 163, .inl (zA (eI sz)))), (mH, .inl (cI, 16, .inl (zA hi)))]) (w1 := [(mB, .inl (cI, 4, .inl (zA b1)))]) hP hD [4] [0, 1, 2, 3] rfl rfl (by decide) (by decide) hk9 hFr ht9 hB9
      have hP := hP.sub (ws' := [(o, .inr (6, [.int (zI (↑sy)), .ref mA, .ref mR, .ref mW, .int (zI (↑tc)), .ref mC, .ref mS, .int (zI (↑rc)), .ref mL, .ref mT, .ref mH, .ref mY, .ref mE, .ref mG, .ref mB, .ref mO, .int (zI (0))])), (mC, .inl (cI, 2608, .inl (zA co))), (mS, .inl (cI, 163, .inl (zA (eI sz)))), (mH, .inl (cI, 16, .inl (zA hi))), (mB, .inl (cI, 4, .inl (zA b1)))]) [0, 1, 2, 3, 4] rfl
      have hD := hD.sub (ws' := [(o, .inr (6, [.int (zI (↑sy)), .ref mA, .ref mR, .ref mW, .int (zI (↑tc)), .ref mC, .ref mS, .int (zI (↑rc)), .ref mL, .ref mT, .ref mH, .ref mY, .ref mE, .ref mG, .ref mB, .ref mO, .int (zI (0))])), (mC, .inl (cI, 2608, .inl (zA co))), (mS, .inl (cI, 163, .inl (zA (eI sz)))), (mH, .inl (cI, 16, .inl (zA hi))), (mB, .inl (cI, 4, .inl (zA b1)))]) [0, 1, 2, 3, 4] (by decide) rfl
      have hF := fz_keep hF0 hFA hS
      refine lv_goto (tgt := 33) hx hb qd_M_step_29 (by decide) ?_
      refine lv_istore_n (lv' := [(2, .int (zI (r26))), (0, .ref o), (1, .int (zI (x)))]) hx hb qd_M_step_33 rfl hl (by decide) rfl (fun ls hl => ?_)
      refine lv_aload_n hx hb qd_M_step_34 rfl (lv_at hl 1 rfl) ?_
      refine va_get (D := (dC, dI)) (ci := 6) (v := .int (zI (0))) (C := "TermOrdersModel") (T := qT_M) (N := 17) hx hb hg qi_M hown hK hP 0 rfl rfl 16 (by decide) (hg _ wd_634) (fun _ h9 => h9) rfl qd_M_step_35 ?_
      refine zz_if_ne (tgt := 45) hx hb qd_M_step_38 (by decide) (by omega) (fun h38 => ?_) (fun h38 => ?_)
      · skip
        exfalso
        omega
      · skip
        refine lv_iload_n hx hb qd_M_step_41 rfl (lv_at hl 0 rfl) ?_
        refine zz_if_ge (tgt := 58) hx hb qd_M_step_42 (by decide) (hr26.elim (fun ⟨z0, z1, z2⟩ => by have z3 := z2.1; clear hr26; omega) (fun z => by have z1 := z.1; clear hr26; omega)) (fun h42 => ?_) (fun h42 => ?_)
        · skip
          obtain ⟨k, rfl, hin⟩ := hr26.resolve_right (fun z => by have z1 := z.1; clear hr26; omega)
          clear hr26
          have hkn := hin.1
          obtain ⟨w1, w2, w3, w4⟩ := hwe k hkn
          refine lv_bipush (v := zI 16) hx hb qd_M_step_58 (by decide) ?_
          refine lv_iload_n hx hb qd_M_step_60 rfl (lv_at hl 2 rfl) ?_
          refine zz_imul hx hb (↑(16 * x.toNat)) (by omega) qd_M_step_61 ?_
          refine lv_istore_n (lv' := [(3, .int (zI (↑(16 * x.toNat)))), (2, .int (zI ((↑k)))), (0, .ref o), (1, .int (zI (x)))]) hx hb qd_M_step_62 rfl hl (by decide) rfl (fun ls hl => ?_)
          refine lv_aload_n hx hb qd_M_step_63 rfl (lv_at hl 2 rfl) ?_
          refine lv_iload_n hx hb qd_M_step_64 rfl (lv_at hl 0 rfl) ?_
          refine lv_iload_n hx hb qd_M_step_65 rfl (lv_at hl 1 rfl) ?_
          have hPc := hP.sub (ws' := [(mB, .inl (cI, 4, .inl (zA b1)))]) [4] rfl
          have hDc := hD.sub (ws' := [(mB, .inl (cI, 4, .inl (zA b1)))]) [4] (by decide) rfl
          have hFr := va_free (wc := [(mB, .inl (cI, 4, .inl (zA b1)))]) hD hS hA [4] rfl
          refine mw_callI (va_runV (As := [.int (zI (↑(16 * x.toNat))), .int (zI (↑k))]) (rest := []) ⟨hx, hb, hml, hown, hg⟩ (c_M_ruleAt l dC dI cI cZ cT cJ o mA mR mW mC mS mL mT mH mY mE mG mB mO sy tc rc 0 ar rk wt co sz lf rg hi hv ef gr b1 ol tn TH TM TE HT x.toNat (tn x.toNat) (TH x.toNat) (TM x.toNat) (TE x.toNat) (HT x.toNat) k H26_3.size har hsy htc htp hrc hlr (by omega) hox hzx hcx hkn) ⟨callB_of 2 hg (gw_ok (fun _ h => h) wd_801) rfl rfl rfl (hg _ wd_6) (hg _ wd_798) (by decide +kernel) ⟨Nat.le_of_ble_eq_true rfl, Nat.le_of_ble_eq_true rfl⟩, hg _ wd_800, hg _ se_M_ruleAt⟩ (mw_preV (va_recv (q0 := 0) hK hP rfl rfl) hPc (pw_c (q := (o, .inr (6, [.int (zI (↑sy)), .ref mA, .ref mR, .ref mW, .int (zI (↑tc)), .ref mC, .ref mS, .int (zI (↑rc)), .ref mL, .ref mT, .ref mH, .ref mY, .ref mE, .ref mG, .ref mB, .ref mO, .int (zI (0))]))) hP 0 rfl (pw_c (q := (mA, .inl (cI, 5, .inl (zA ar)))) hF 0 rfl (pw_c (q := (mC, .inl (cI, 2608, .inl (zA co)))) hP 1 rfl (pw_c (q := (mS, .inl (cI, 163, .inl (zA (eI sz))))) hP 2 rfl (pw_c (q := (mL, .inl (cI, 8, .inl (zA (eI lf))))) hF 1 rfl (pw_nil)))))) hK hN hDc (apw_c (q := (o, .inr (6, [.int (zI (↑sy)), .ref mA, .ref mR, .ref mW, .int (zI (↑tc)), .ref mC, .ref mS, .int (zI (↑rc)), .ref mL, .ref mT, .ref mH, .ref mY, .ref mE, .ref mG, .ref mB, .ref mO, .int (zI (0))]))) (apw_m hD [4] rfl 0 rfl (by decide)) (apw_c (q := (mA, .inl (cI, 5, .inl (zA ar)))) (apw_f hD [4] rfl (hFA 0 _ rfl)) (apw_c (q := (mC, .inl (cI, 2608, .inl (zA co)))) (apw_m hD [4] rfl 1 rfl (by decide)) (apw_c (q := (mS, .inl (cI, 163, .inl (zA (eI sz))))) (apw_m hD [4] rfl 2 rfl (by decide)) (apw_c (q := (mL, .inl (cI, 8, .inl (zA (eI lf))))) (apw_f hD [4] rfl (hFA 1 _ rfl)) (apw_nil))))))) rfl rfl hl.1 rfl (lv_room (Nat.le_of_ble_eq_true rfl)) qd_M_step_66 ⟨Nat.le_of_ble_eq_true rfl, Nat.le_of_ble_eq_true rfl⟩) hS (fun q _ h => hFr q h) hFr (fun r66 b2 t9 H66_4 L66_4 ht9 hv9 hr66 hB9 hz9 hk9 hS => ?_)
          try dsimp only at hr66 hB9
          obtain ⟨hP, hD⟩ := mw_join (wr := [(o, .inr (6, [.int (zI (↑sy)), .ref mA, .ref mR, .ref mW, .int (zI (↑tc)), .ref mC, .ref mS, .int (zI (↑rc)), .ref mL, .ref mT, .ref mH, .ref mY, .ref mE, .ref mG, .ref mB, .ref mO, .int (zI (0))])), (mC, .inl (cI, 2608, .inl (zA co))), (mS, .inl (cI, 163, .inl (zA (eI sz)))), (mH, .inl (cI, 16, .inl (zA hi)))]) (w1 := [(mB, .inl (cI, 4, .inl (zA b2)))]) hP hD [4] [0, 1, 2, 3] rfl rfl (by decide) (by decide) hk9 hFr ht9 hB9
          have hP := hP.sub (ws' := [(o, .inr (6, [.int (zI (↑sy)), .ref mA, .ref mR, .ref mW, .int (zI (↑tc)), .ref mC, .ref mS, .int (zI (↑rc)), .ref mL, .ref mT, .ref mH, .ref mY, .ref mE, .ref mG, .ref mB, .ref mO, .int (zI (0))])), (mC, .inl (cI, 2608, .inl (zA co))), (mS, .inl (cI, 163, .inl (zA (eI sz)))), (mH, .inl (cI, 16, .inl (zA hi))), (mB, .inl (cI, 4, .inl (zA b2)))]) [0, 1, 2, 3, 4] rfl
          have hD := hD.sub (ws' := [(o, .inr (6, [.int (zI (↑sy)), .ref mA, .ref mR, .ref mW, .int (zI (↑tc)), .ref mC, .ref mS, .int (zI (↑rc)), .ref mL, .ref mT, .ref mH, .ref mY, .ref mE, .ref mG, .ref mB, .ref mO, .int (zI (0))])), (mC, .inl (cI, 2608, .inl (zA co))), (mS, .inl (cI, 163, .inl (zA (eI sz)))), (mH, .inl (cI, 16, .inl (zA hi))), (mB, .inl (cI, 4, .inl (zA b2)))]) [0, 1, 2, 3, 4] (by decide) rfl
          have hF := fz_keep hF0 hFA hS
          obtain ⟨r0, rfl, hr0, ⟨q0, hMR⟩, hleast⟩ := hr66.resolve_right (fun z => by obtain ⟨s9, z1, z2⟩ := hin.2.1.1; exact z.2 s9 z1 z2)
          clear hr66
          obtain ⟨hu1, hu2, hu3⟩ := hlr r0 hr0
          obtain ⟨hor, hzr, hcr⟩ := htp (rg r0) hu2
          have h16r := hor.2.1
          have hol := (htp (lf r0) hu1).1
          have hfound : inF (fun p => ∃ r, r < rc ∧ MA (TH (lf r)) (tn (lf r)) (TH x.toNat) (TE x.toNat) p) (TE x.toNat) (tn x.toNat) k ∧ r0 < rc ∧ MR (TH (lf r0)) (TH x.toNat) (TE x.toNat) k (tn (lf r0)) q0 b2 ∧ (∀ s, s < r0 → ¬ MA (TH (lf s)) (tn (lf s)) (TH x.toNat) (TE x.toNat) k) := ⟨hin, hr0, hMR, hleast⟩
          refine lv_istore (lv' := [(4, .int (zI ((↑r0)))), (3, .int (zI (↑(16 * x.toNat)))), (2, .int (zI ((↑k)))), (0, .ref o), (1, .int (zI (x)))]) hx hb qd_M_step_69 hl (by decide) rfl (fun ls hl => ?_)
          refine lv_aload_n hx hb qd_M_step_71 rfl (lv_at hl 3 rfl) ?_
          refine lv_iload_n hx hb qd_M_step_72 rfl (lv_at hl 1 rfl) ?_
          refine lv_iload_n hx hb qd_M_step_73 rfl (lv_at hl 2 rfl) ?_
          refine rd_callI (W.runV (As := [.int (zI (↑(16 * x.toNat))), .int (zI (↑k))]) (rest := []) ⟨hx, hb, hml, hown, hg⟩ (c_M_end l dC dI cI cZ cT cJ o mA mR mW mC mS mL mT mH mY mE mG mB mO sy tc rc 0 ar rk wt co sz lf rg hi hv ef gr b2 ol (16 * x.toNat) (tn x.toNat) (TH x.toNat) (TM x.toNat) (TE x.toNat) k har hox.2.1 (by omega) hcx hox.2.2.2.1 (okT_hh hsy hox) hwe hkn) ⟨callB_of 2 hg (gw_ok (fun _ h => h) wd_713) rfl rfl rfl (hg _ wd_6) (hg _ wd_710) (by decide +kernel) ⟨Nat.le_of_ble_eq_true rfl, Nat.le_of_ble_eq_true rfl⟩, hg _ wd_712, hg _ se_M_end⟩ (rd_preV (va_recv (q0 := 0) hK hP rfl rfl) (pw_c (q := (o, .inr (6, [.int (zI (↑sy)), .ref mA, .ref mR, .ref mW, .int (zI (↑tc)), .ref mC, .ref mS, .int (zI (↑rc)), .ref mL, .ref mT, .ref mH, .ref mY, .ref mE, .ref mG, .ref mB, .ref mO, .int (zI (0))]))) hP 0 rfl (pw_c (q := (mA, .inl (cI, 5, .inl (zA ar)))) hF 0 rfl (pw_c (q := (mC, .inl (cI, 2608, .inl (zA co)))) hP 1 rfl (pw_nil)))) hK hN) rfl rfl hl.1 rfl (lv_room (Nat.le_of_ble_eq_true rfl)) qd_M_step_74 ⟨Nat.le_of_ble_eq_true rfl, Nat.le_of_ble_eq_true rfl⟩) (fun r74 hr74 => ?_)
          have e74 : r74 = ↑(TE x.toNat k) := hr74
          subst e74
          refine lv_istore (lv' := [(5, .int (zI (↑(TE x.toNat k)))), (4, .int (zI ((↑r0)))), (3, .int (zI (↑(16 * x.toNat)))), (2, .int (zI ((↑k)))), (0, .ref o), (1, .int (zI (x)))]) hx hb qd_M_step_77 hl (by decide) rfl (fun ls hl => ?_)
          refine lv_aload_n hx hb qd_M_step_79 rfl (lv_at hl 4 rfl) ?_
          refine va_get (D := (dC, dI)) (ci := 6) (v := .ref mS) (C := "TermOrdersModel") (T := qT_M) (N := 17) hx hb hg qi_M hown hK hP 0 rfl rfl 6 (by decide) (hg _ wd_624) (fun _ h9 => h9) rfl qd_M_step_80 ?_
          refine lv_iload_n hx hb qd_M_step_83 rfl (lv_at hl 5 rfl) ?_
          refine zz_eald hx hb hK hP 2 0 rfl rfl x.toNat (by omega) (by omega) (by omega) qd_M_step_84 ?_
          refine zz_top (b := ↑(tn x.toNat)) (by rw [hzx]) ?_
          refine lv_iload hx hb qd_M_step_85 (lv_at hl 0 rfl) ?_
          refine lv_iload_n hx hb qd_M_step_87 rfl (lv_at hl 3 rfl) ?_
          refine zz_isub hx hb (↑(TE x.toNat k - k)) (by omega) qd_M_step_88 ?_
          refine zz_isub hx hb (↑(tn x.toNat - (TE x.toNat k - k))) (by omega) qd_M_step_89 ?_
          refine lv_istore (lv' := [(6, .int (zI (↑(tn x.toNat - (TE x.toNat k - k))))), (5, .int (zI (↑(TE x.toNat k)))), (4, .int (zI ((↑r0)))), (3, .int (zI (↑(16 * x.toNat)))), (2, .int (zI ((↑k)))), (0, .ref o), (1, .int (zI (x)))]) hx hb qd_M_step_90 hl (by decide) rfl (fun ls hl => ?_)
          refine lv_iconst (v := zI 0) hx hb qd_M_step_92 rfl ?_
          refine lv_istore (lv' := [(7, .int (zI (0))), (6, .int (zI (↑(tn x.toNat - (TE x.toNat k - k))))), (5, .int (zI (↑(TE x.toNat k)))), (4, .int (zI ((↑r0)))), (3, .int (zI (↑(16 * x.toNat)))), (2, .int (zI ((↑k)))), (0, .ref o), (1, .int (zI (x)))]) hx hb qd_M_step_93 hl (by decide) rfl (fun ls hl => ?_)
          have L95 : ∀ (mu95 : Nat) (i : Nat), (i ≤ tn (rg r0)) → ((ins (TH (rg r0)) (TH x.toNat) (TE x.toNat) b2 i).length ≤ 16 * i) → tn (rg r0) - i = mu95 → ∀ ls : Array Slot, lv_has ls 10 [(7, .int (zI (↑i))), (6, .int (zI (↑(tn x.toNat - (TE x.toNat k - k) + (ins (TH (rg r0)) (TH x.toNat) (TE x.toNat) b2 i).length)))), (5, .int (zI (↑(TE x.toNat k)))), (4, .int (zI ((↑r0)))), (3, .int (zI (↑(16 * x.toNat)))), (2, .int (zI ((↑k)))), (0, .ref o), (1, .int (zI (x)))] → W pg l eg (headSpec qw_M_step ({ frames := 6, cells := 0, slots := 0, locals := 148 })).room sg mg ([.ref o, .int (zI (x))] : List Value).toArray below meth cg H66_4 L66_4 0 0 (MQ below (mwI (S := (Int) × (Nat) × (Nat → Int) × (Nat → Nat) × (Nat → Int) × (Nat → Int)) (fun r uq => (¬ (0 ≤ x ∧ x < tc) ∧ uq.1 = 1 ∧ uq.2.1 = tc ∧ uq.2.2.2.1 = sz ∧ ∀ j, j < 2560 → uq.2.2.1 j = co j) ∨ ((0 ≤ x ∧ x < tc) ∧ (∀ k, k < tn x.toNat → ¬ (fun p => ∃ r, r < rc ∧ MA (TH (lf r)) (tn (lf r)) (TH x.toNat) (TE x.toNat) p) k) ∧ uq.1 = 0 ∧ r = -1 ∧ uq.2.1 = tc ∧ uq.2.2.2.1 = sz ∧ ∀ j, j < 2560 → uq.2.2.1 j = co j) ∨ ((0 ≤ x ∧ x < tc) ∧ ∃ (k r0 q : Nat) (b : Nat → Int), (inF (fun p => ∃ r, r < rc ∧ MA (TH (lf r)) (tn (lf r)) (TH x.toNat) (TE x.toNat) p) (TE x.toNat) (tn x.toNat) k ∧ r0 < rc ∧ MR (TH (lf r0)) (TH x.toNat) (TE x.toNat) k (tn (lf r0)) q b ∧ (∀ s, s < r0 → ¬ MA (TH (lf s)) (tn (lf s)) (TH x.toNat) (TE x.toNat) k)) ∧ kpM (seg (TH x.toNat) 0 k ++ ins (TH (rg r0)) (TH x.toNat) (TE x.toNat) b (tn (rg r0)) ++ seg (TH x.toNat) (TE x.toNat k) (tn x.toNat)) (t 0) tc co sz uq.1 uq.2.1 uq.2.2.1 uq.2.2.2.1 r)) (fun uq tq => mwB (dC, dI) qcl (qty cI cZ cT cJ) A [(o, .inr (6, [.int (zI (↑sy)), .ref mA, .ref mR, .ref mW, .int (zI (↑uq.2.1)), .ref mC, .ref mS, .int (zI (↑rc)), .ref mL, .ref mT, .ref mH, .ref mY, .ref mE, .ref mG, .ref mB, .ref mO, .int (zI (uq.1))])), (mC, .inl (cI, 2608, .inl (zA uq.2.2.1))), (mS, .inl (cI, 163, .inl (zA (eI uq.2.2.2.1)))), (mH, .inl (cI, 16, .inl (zA uq.2.2.2.2.1))), (mB, .inl (cI, 4, .inl (zA uq.2.2.2.2.2)))] tq) A) ([.ref o, .int (zI (x))] : List Value).toArray sg 0 0 A) (F0 mg 95 ls []) := by
            intro mu95
            induction mu95 using Nat.strongRecOn with
            | _ mu95 ih95 =>
              intro i hi8 hib hmu95 ls hl
              refine lv_iload hx hb qd_M_step_95 (lv_at hl 0 rfl) ?_
              refine lv_aload_n hx hb qd_M_step_97 rfl (lv_at hl 6 rfl) ?_
              refine va_get (D := (dC, dI)) (ci := 6) (v := .ref mS) (C := "TermOrdersModel") (T := qT_M) (N := 17) hx hb hg qi_M hown hK hP 0 rfl rfl 6 (by decide) (hg _ wd_624) (fun _ h9 => h9) rfl qd_M_step_98 ?_
              refine lv_aload_n hx hb qd_M_step_101 rfl (lv_at hl 6 rfl) ?_
              refine va_get (D := (dC, dI)) (ci := 6) (v := .ref mT) (C := "TermOrdersModel") (T := qT_M) (N := 17) hx hb hg qi_M hown hK hP 0 rfl rfl 9 (by decide) (hg _ wd_627) (fun _ h9 => h9) rfl qd_M_step_102 ?_
              refine lv_iload hx hb qd_M_step_105 (lv_at hl 3 rfl) ?_
              refine zz_eald hx hb hK hF 2 0 rfl rfl r0 rfl (by omega) (by omega) qd_M_step_107 ?_
              refine zz_eald hx hb hK hP 2 0 rfl rfl (rg r0) rfl (by omega) (by omega) qd_M_step_108 ?_
              refine zz_top (b := ↑(tn (rg r0))) (by rw [hzr]) ?_
              refine zz_icmp_ge (tgt := 176) hx hb qd_M_step_109 (by decide) (by omega) (by omega) (fun h109 => ?_) (fun h109 => ?_)
              · skip
                have hii : i = tn (rg r0) := by omega
                rw [hii] at hl hib
                refine lv_aload_n hx hb qd_M_step_176 rfl (lv_at hl 6 rfl) ?_
                refine lv_iload hx hb qd_M_step_177 (lv_at hl 1 rfl) ?_
                refine lv_bipush (v := zI 16) hx hb qd_M_step_179 (by decide) ?_
                refine zz_icmp_le (tgt := 188) hx hb qd_M_step_181 (by decide) (by omega) (by omega) (fun h181 => ?_) (fun h181 => ?_)
                · skip
                  have hsm : (seg (TH x.toNat) 0 k ++ ins (TH (rg r0)) (TH x.toNat) (TE x.toNat) b2 (tn (rg r0)) ++ seg (TH x.toNat) (TE x.toNat k) (tn x.toNat)).length ≤ 16 := by rw [List.length_append, List.length_append, seg_len, seg_len]; omega
                  refine lv_iconst (v := zI 0) hx hb qd_M_step_188 rfl ?_
                  refine va_put (D := (dC, dI)) (ci := 6) (v := .int (zI (0))) (ty := .int) (C := "TermOrdersModel") (T := qT_M) (N := 17) hx hb hg qi_M qt_M qo_M qn_M hown hK hP hD hS 0 rfl rfl 16 (by decide) (hg _ wd_634) (fun _ h9 => h9) rfl (by decide +kernel) rfl rfl (Nat.le_of_ble_eq_true rfl) qd_M_step_189 (fun H189_5 L189_5 hP hD hS => ?_)
                  have hP : va_P (dC, dI) qcl [(o, .inr (6, [.int (zI (↑sy)), .ref mA, .ref mR, .ref mW, .int (zI (↑tc)), .ref mC, .ref mS, .int (zI (↑rc)), .ref mL, .ref mT, .ref mH, .ref mY, .ref mE, .ref mG, .ref mB, .ref mO, .int (zI (0))])), (mC, .inl (cI, 2608, .inl (zA co))), (mS, .inl (cI, 163, .inl (zA (eI sz)))), (mH, .inl (cI, 16, .inl (zA hi))), (mB, .inl (cI, 4, .inl (zA b2)))] H189_5 := hP
                  have hD : va_D A [(o, .inr (6, [.int (zI (↑sy)), .ref mA, .ref mR, .ref mW, .int (zI (↑tc)), .ref mC, .ref mS, .int (zI (↑rc)), .ref mL, .ref mT, .ref mH, .ref mY, .ref mE, .ref mG, .ref mB, .ref mO, .int (zI (0))])), (mC, .inl (cI, 2608, .inl (zA co))), (mS, .inl (cI, 163, .inl (zA (eI sz)))), (mH, .inl (cI, 16, .inl (zA hi))), (mB, .inl (cI, 4, .inl (zA b2)))] := hD
                  have hF := fz_keep hF0 hFA hS
                  refine lv_aload_n hx hb qd_M_step_192 rfl (lv_at hl 6 rfl) ?_
                  refine va_get (D := (dC, dI)) (ci := 6) (v := .int (zI (0))) (C := "TermOrdersModel") (T := qT_M) (N := 17) hx hb hg qi_M hown hK hP 0 rfl rfl 16 (by decide) (hg _ wd_634) (fun _ h9 => h9) rfl qd_M_step_193 ?_
                  refine zz_if_eq (tgt := 201) hx hb qd_M_step_196 (by decide) (by omega) (fun h196 => ?_) (fun h196 => ?_)
                  · skip
                    refine lv_aload_n hx hb qd_M_step_201 rfl (lv_at hl 6 rfl) ?_
                    refine lv_iconst (v := zI 0) hx hb qd_M_step_202 rfl ?_
                    refine zz_top (b := ↑(0 : Nat)) rfl ?_
                    refine lv_iload_n hx hb qd_M_step_203 rfl (lv_at hl 4 rfl) ?_
                    refine lv_iconst (v := zI 0) hx hb qd_M_step_204 rfl ?_
                    refine zz_top (b := ↑(0 : Nat)) rfl ?_
                    refine lv_iload_n hx hb qd_M_step_205 rfl (lv_at hl 5 rfl) ?_
                    have hPc := hP.sub (ws' := [(mC, .inl (cI, 2608, .inl (zA co)))]) [1] rfl
                    have hDc := hD.sub (ws' := [(mC, .inl (cI, 2608, .inl (zA co)))]) [1] (by decide) rfl
                    have hFr := va_free (wc := [(mC, .inl (cI, 2608, .inl (zA co)))]) hD hS hA [1] rfl
                    refine mw_callI (va_runV (As := [.int (zI (↑0)), .int (zI (↑(16 * x.toNat))), .int (zI (↑0)), .int (zI (↑k))]) (rest := []) ⟨hx, hb, hml, hown, hg⟩ (c_M_append l dC dI cI cZ cT cJ o mA mR mW mC mS mL mT mH mY mE mG mB mO sy tc rc 0 ar rk wt co sz lf rg hi hv ef gr b2 ol (16 * x.toNat) (tn x.toNat) (TH x.toNat) ([]) 0 0 k H189_5.size (by omega) hcx (by omega) (by omega) rfl (fun q9 hq9 => absurd hq9 (Nat.not_lt_zero _)) (by omega)) ⟨callB_of 4 hg (gw_ok (fun _ h => h) wd_697) rfl rfl rfl (hg _ wd_6) (hg _ wd_694) (by decide +kernel) ⟨Nat.le_of_ble_eq_true rfl, Nat.le_of_ble_eq_true rfl⟩, hg _ wd_696, hg _ se_M_append⟩ (mw_preV (va_recv (q0 := 0) hK hP rfl rfl) hPc (pw_c (q := (o, .inr (6, [.int (zI (↑sy)), .ref mA, .ref mR, .ref mW, .int (zI (↑tc)), .ref mC, .ref mS, .int (zI (↑rc)), .ref mL, .ref mT, .ref mH, .ref mY, .ref mE, .ref mG, .ref mB, .ref mO, .int (zI (0))]))) hP 0 rfl (pw_nil)) hK hN hDc (apw_c (q := (o, .inr (6, [.int (zI (↑sy)), .ref mA, .ref mR, .ref mW, .int (zI (↑tc)), .ref mC, .ref mS, .int (zI (↑rc)), .ref mL, .ref mT, .ref mH, .ref mY, .ref mE, .ref mG, .ref mB, .ref mO, .int (zI (0))]))) (apw_m hD [1] rfl 0 rfl (by decide)) (apw_nil))) rfl rfl hl.1 rfl (lv_room (Nat.le_of_ble_eq_true rfl)) qd_M_step_206 ⟨Nat.le_of_ble_eq_true rfl, Nat.le_of_ble_eq_true rfl⟩) hS (fun q _ h => hFr q h) hFr (fun r206 c3 t9 H206_6 L206_6 ht9 hv9 hr206 hB9 hz9 hk9 hS => ?_)
                    try dsimp only at hr206 hB9
                    obtain ⟨hP, hD⟩ := mw_join (wr := [(o, .inr (6, [.int (zI (↑sy)), .ref mA, .ref mR, .ref mW, .int (zI (↑tc)), .ref mC, .ref mS, .int (zI (↑rc)), .ref mL, .ref mT, .ref mH, .ref mY, .ref mE, .ref mG, .ref mB, .ref mO, .int (zI (0))])), (mS, .inl (cI, 163, .inl (zA (eI sz)))), (mH, .inl (cI, 16, .inl (zA hi))), (mB, .inl (cI, 4, .inl (zA b2)))]) (w1 := [(mC, .inl (cI, 2608, .inl (zA c3)))]) hP hD [1] [0, 2, 3, 4] rfl rfl (by decide) (by decide) hk9 hFr ht9 hB9
                    have hP := hP.sub (ws' := [(o, .inr (6, [.int (zI (↑sy)), .ref mA, .ref mR, .ref mW, .int (zI (↑tc)), .ref mC, .ref mS, .int (zI (↑rc)), .ref mL, .ref mT, .ref mH, .ref mY, .ref mE, .ref mG, .ref mB, .ref mO, .int (zI (0))])), (mC, .inl (cI, 2608, .inl (zA c3))), (mS, .inl (cI, 163, .inl (zA (eI sz)))), (mH, .inl (cI, 16, .inl (zA hi))), (mB, .inl (cI, 4, .inl (zA b2)))]) [0, 4, 1, 2, 3] rfl
                    have hD := hD.sub (ws' := [(o, .inr (6, [.int (zI (↑sy)), .ref mA, .ref mR, .ref mW, .int (zI (↑tc)), .ref mC, .ref mS, .int (zI (↑rc)), .ref mL, .ref mT, .ref mH, .ref mY, .ref mE, .ref mG, .ref mB, .ref mO, .int (zI (0))])), (mC, .inl (cI, 2608, .inl (zA c3))), (mS, .inl (cI, 163, .inl (zA (eI sz)))), (mH, .inl (cI, 16, .inl (zA hi))), (mB, .inl (cI, 4, .inl (zA b2)))]) [0, 4, 1, 2, 3] (by decide) rfl
                    have hF := fz_keep hF0 hFA hS
                    obtain ⟨e9, hs3, hk3b⟩ := hr206
                    subst e9
                    refine lv_istore (lv' := [(7, .int (zI ((↑(0 + (k - 0)))))), (6, .int (zI (↑(tn x.toNat - (TE x.toNat k - k) + (ins (TH (rg r0)) (TH x.toNat) (TE x.toNat) b2 (tn (rg r0))).length)))), (5, .int (zI (↑(TE x.toNat k)))), (4, .int (zI ((↑r0)))), (3, .int (zI (↑(16 * x.toNat)))), (2, .int (zI ((↑k)))), (0, .ref o), (1, .int (zI (x)))]) hx hb qd_M_step_209 hl (by decide) rfl (fun ls hl => ?_)
                    refine lv_iconst (v := zI 0) hx hb qd_M_step_211 rfl ?_
                    refine lv_istore (lv' := [(8, .int (zI (0))), (7, .int (zI ((↑(0 + (k - 0)))))), (6, .int (zI (↑(tn x.toNat - (TE x.toNat k - k) + (ins (TH (rg r0)) (TH x.toNat) (TE x.toNat) b2 (tn (rg r0))).length)))), (5, .int (zI (↑(TE x.toNat k)))), (4, .int (zI ((↑r0)))), (3, .int (zI (↑(16 * x.toNat)))), (2, .int (zI ((↑k)))), (0, .ref o), (1, .int (zI (x)))]) hx hb qd_M_step_212 hl (by decide) rfl (fun ls hl => ?_)
                    have L214 : ∀ (mu214 : Nat) (i : Nat) (cz : Nat → Int), (i ≤ tn (rg r0)) → (scr ([] ++ seg (TH x.toNat) 0 k ++ ins (TH (rg r0)) (TH x.toNat) (TE x.toNat) b2 i) cz) → (∀ j, j < 2560 → cz j = co j) → tn (rg r0) - i = mu214 → ∀ (H214_7 : Heap) (L214_7 : List Loc), va_P (dC, dI) qcl [(o, .inr (6, [.int (zI (↑sy)), .ref mA, .ref mR, .ref mW, .int (zI (↑tc)), .ref mC, .ref mS, .int (zI (↑rc)), .ref mL, .ref mT, .ref mH, .ref mY, .ref mE, .ref mG, .ref mB, .ref mO, .int (zI (0))])), (mC, .inl (cI, 2608, .inl (zA cz))), (mS, .inl (cI, 163, .inl (zA (eI sz)))), (mH, .inl (cI, 16, .inl (zA hi))), (mB, .inl (cI, 4, .inl (zA b2)))] H214_7 → va_D A [(o, .inr (6, [.int (zI (↑sy)), .ref mA, .ref mR, .ref mW, .int (zI (↑tc)), .ref mC, .ref mS, .int (zI (↑rc)), .ref mL, .ref mT, .ref mH, .ref mY, .ref mE, .ref mG, .ref mB, .ref mO, .int (zI (0))])), (mC, .inl (cI, 2608, .inl (zA cz))), (mS, .inl (cI, 163, .inl (zA (eI sz)))), (mH, .inl (cI, 16, .inl (zA hi))), (mB, .inl (cI, 4, .inl (zA b2)))] → va_S A sg.heap H214_7 L214_7 → ∀ ls : Array Slot, lv_has ls 10 [(8, .int (zI (↑i))), (7, .int (zI (↑(k + (ins (TH (rg r0)) (TH x.toNat) (TE x.toNat) b2 i).length)))), (6, .int (zI (↑(tn x.toNat - (TE x.toNat k - k) + (ins (TH (rg r0)) (TH x.toNat) (TE x.toNat) b2 (tn (rg r0))).length)))), (5, .int (zI (↑(TE x.toNat k)))), (4, .int (zI ((↑r0)))), (3, .int (zI (↑(16 * x.toNat)))), (2, .int (zI ((↑k)))), (0, .ref o), (1, .int (zI (x)))] → W pg l eg (headSpec qw_M_step ({ frames := 6, cells := 0, slots := 0, locals := 148 })).room sg mg ([.ref o, .int (zI (x))] : List Value).toArray below meth cg H214_7 L214_7 0 0 (MQ below (mwI (S := (Int) × (Nat) × (Nat → Int) × (Nat → Nat) × (Nat → Int) × (Nat → Int)) (fun r uq => (¬ (0 ≤ x ∧ x < tc) ∧ uq.1 = 1 ∧ uq.2.1 = tc ∧ uq.2.2.2.1 = sz ∧ ∀ j, j < 2560 → uq.2.2.1 j = co j) ∨ ((0 ≤ x ∧ x < tc) ∧ (∀ k, k < tn x.toNat → ¬ (fun p => ∃ r, r < rc ∧ MA (TH (lf r)) (tn (lf r)) (TH x.toNat) (TE x.toNat) p) k) ∧ uq.1 = 0 ∧ r = -1 ∧ uq.2.1 = tc ∧ uq.2.2.2.1 = sz ∧ ∀ j, j < 2560 → uq.2.2.1 j = co j) ∨ ((0 ≤ x ∧ x < tc) ∧ ∃ (k r0 q : Nat) (b : Nat → Int), (inF (fun p => ∃ r, r < rc ∧ MA (TH (lf r)) (tn (lf r)) (TH x.toNat) (TE x.toNat) p) (TE x.toNat) (tn x.toNat) k ∧ r0 < rc ∧ MR (TH (lf r0)) (TH x.toNat) (TE x.toNat) k (tn (lf r0)) q b ∧ (∀ s, s < r0 → ¬ MA (TH (lf s)) (tn (lf s)) (TH x.toNat) (TE x.toNat) k)) ∧ kpM (seg (TH x.toNat) 0 k ++ ins (TH (rg r0)) (TH x.toNat) (TE x.toNat) b (tn (rg r0)) ++ seg (TH x.toNat) (TE x.toNat k) (tn x.toNat)) (t 0) tc co sz uq.1 uq.2.1 uq.2.2.1 uq.2.2.2.1 r)) (fun uq tq => mwB (dC, dI) qcl (qty cI cZ cT cJ) A [(o, .inr (6, [.int (zI (↑sy)), .ref mA, .ref mR, .ref mW, .int (zI (↑uq.2.1)), .ref mC, .ref mS, .int (zI (↑rc)), .ref mL, .ref mT, .ref mH, .ref mY, .ref mE, .ref mG, .ref mB, .ref mO, .int (zI (uq.1))])), (mC, .inl (cI, 2608, .inl (zA uq.2.2.1))), (mS, .inl (cI, 163, .inl (zA (eI uq.2.2.2.1)))), (mH, .inl (cI, 16, .inl (zA uq.2.2.2.2.1))), (mB, .inl (cI, 4, .inl (zA uq.2.2.2.2.2)))] tq) A) ([.ref o, .int (zI (x))] : List Value).toArray sg 0 0 A) (F0 mg 214 ls []) := by
                      intro mu214
                      induction mu214 using Nat.strongRecOn with
                      | _ mu214 ih214 =>
                        intro i cz hi9 hsc hcz hmu214 H214_7 L214_7 hP hD hS ls hl
                        have hF := fz_keep hF0 hFA hS
                        have hmon : (ins (TH (rg r0)) (TH x.toNat) (TE x.toNat) b2 i).length ≤ (ins (TH (rg r0)) (TH x.toNat) (TE x.toNat) b2 (tn (rg r0))).length := ins_mono hi9
                        have hrl : ([] ++ seg (TH x.toNat) 0 k ++ ins (TH (rg r0)) (TH x.toNat) (TE x.toNat) b2 i).length = k + (ins (TH (rg r0)) (TH x.toNat) (TE x.toNat) b2 i).length := by rw [List.length_append, List.length_append, seg_len]; simp
                        refine lv_iload hx hb qd_M_step_214 (lv_at hl 0 rfl) ?_
                        refine lv_aload_n hx hb qd_M_step_216 rfl (lv_at hl 7 rfl) ?_
                        refine va_get (D := (dC, dI)) (ci := 6) (v := .ref mS) (C := "TermOrdersModel") (T := qT_M) (N := 17) hx hb hg qi_M hown hK hP 0 rfl rfl 6 (by decide) (hg _ wd_624) (fun _ h9 => h9) rfl qd_M_step_217 ?_
                        refine lv_aload_n hx hb qd_M_step_220 rfl (lv_at hl 7 rfl) ?_
                        refine va_get (D := (dC, dI)) (ci := 6) (v := .ref mT) (C := "TermOrdersModel") (T := qT_M) (N := 17) hx hb hg qi_M hown hK hP 0 rfl rfl 9 (by decide) (hg _ wd_627) (fun _ h9 => h9) rfl qd_M_step_221 ?_
                        refine lv_iload hx hb qd_M_step_224 (lv_at hl 4 rfl) ?_
                        refine zz_eald hx hb hK hF 2 0 rfl rfl r0 rfl (by omega) (by omega) qd_M_step_226 ?_
                        refine zz_eald hx hb hK hP 2 0 rfl rfl (rg r0) rfl (by omega) (by omega) qd_M_step_227 ?_
                        refine zz_top (b := ↑(tn (rg r0))) (by rw [hzr]) ?_
                        refine zz_icmp_ge (tgt := 313) hx hb qd_M_step_228 (by decide) (by omega) (by omega) (fun h228 => ?_) (fun h228 => ?_)
                        · skip
                          have hij : i = tn (rg r0) := by omega
                          rw [hij] at hl hsc hrl
                          refine lv_aload_n hx hb qd_M_step_313 rfl (lv_at hl 7 rfl) ?_
                          refine lv_iload hx hb qd_M_step_314 (lv_at hl 1 rfl) ?_
                          refine lv_iload_n hx hb qd_M_step_316 rfl (lv_at hl 5 rfl) ?_
                          refine lv_iload hx hb qd_M_step_317 (lv_at hl 3 rfl) ?_
                          refine lv_aload_n hx hb qd_M_step_319 rfl (lv_at hl 7 rfl) ?_
                          refine va_get (D := (dC, dI)) (ci := 6) (v := .ref mS) (C := "TermOrdersModel") (T := qT_M) (N := 17) hx hb hg qi_M hown hK hP 0 rfl rfl 6 (by decide) (hg _ wd_624) (fun _ h9 => h9) rfl qd_M_step_320 ?_
                          refine lv_iload_n hx hb qd_M_step_323 rfl (lv_at hl 8 rfl) ?_
                          refine zz_eald hx hb hK hP 2 0 rfl rfl x.toNat (by omega) (by omega) (by omega) qd_M_step_324 ?_
                          refine zz_top (b := ↑(tn x.toNat)) (by rw [hzx]) ?_
                          have hPc := hP.sub (ws' := [(mC, .inl (cI, 2608, .inl (zA cz)))]) [1] rfl
                          have hDc := hD.sub (ws' := [(mC, .inl (cI, 2608, .inl (zA cz)))]) [1] (by decide) rfl
                          have hFr := va_free (wc := [(mC, .inl (cI, 2608, .inl (zA cz)))]) hD hS hA [1] rfl
                          refine mw_callI (va_runV (As := [.int (zI (↑(k + (ins (TH (rg r0)) (TH x.toNat) (TE x.toNat) b2 (tn (rg r0))).length))), .int (zI (↑(16 * x.toNat))), .int (zI (↑(TE x.toNat k))), .int (zI (↑(tn x.toNat)))]) (rest := []) ⟨hx, hb, hml, hown, hg⟩ (c_M_append l dC dI cI cZ cT cJ o mA mR mW mC mS mL mT mH mY mE mG mB mO sy tc rc 0 ar rk wt cz sz lf rg hi hv ef gr b2 ol (16 * x.toNat) (tn x.toNat) (TH x.toNat) ([] ++ seg (TH x.toNat) 0 k ++ ins (TH (rg r0)) (TH x.toNat) (TE x.toNat) b2 (tn (rg r0))) (k + (ins (TH (rg r0)) (TH x.toNat) (TE x.toNat) b2 (tn (rg r0))).length) (TE x.toNat k) (tn x.toNat) H214_7.size (by omega) (fun q hq => (hcz _ (by omega)).trans (hcx q hq)) w2 (Nat.le_refl _) hrl hsc (by rw [List.length_append, List.length_append, seg_len, seg_len] at hsm; omega)) ⟨callB_of 4 hg (gw_ok (fun _ h => h) wd_697) rfl rfl rfl (hg _ wd_6) (hg _ wd_694) (by decide +kernel) ⟨Nat.le_of_ble_eq_true rfl, Nat.le_of_ble_eq_true rfl⟩, hg _ wd_696, hg _ se_M_append⟩ (mw_preV (va_recv (q0 := 0) hK hP rfl rfl) hPc (pw_c (q := (o, .inr (6, [.int (zI (↑sy)), .ref mA, .ref mR, .ref mW, .int (zI (↑tc)), .ref mC, .ref mS, .int (zI (↑rc)), .ref mL, .ref mT, .ref mH, .ref mY, .ref mE, .ref mG, .ref mB, .ref mO, .int (zI (0))]))) hP 0 rfl (pw_nil)) hK hN hDc (apw_c (q := (o, .inr (6, [.int (zI (↑sy)), .ref mA, .ref mR, .ref mW, .int (zI (↑tc)), .ref mC, .ref mS, .int (zI (↑rc)), .ref mL, .ref mT, .ref mH, .ref mY, .ref mE, .ref mG, .ref mB, .ref mO, .int (zI (0))]))) (apw_m hD [1] rfl 0 rfl (by decide)) (apw_nil))) rfl rfl hl.1 rfl (lv_room (Nat.le_of_ble_eq_true rfl)) qd_M_step_325 ⟨Nat.le_of_ble_eq_true rfl, Nat.le_of_ble_eq_true rfl⟩) hS (fun q _ h => hFr q h) hFr (fun r325 c6 t9 H325_8 L325_8 ht9 hv9 hr325 hB9 hz9 hk9 hS => ?_)
                          try dsimp only at hr325 hB9
                          obtain ⟨hP, hD⟩ := mw_join (wr := [(o, .inr (6, [.int (zI (↑sy)), .ref mA, .ref mR, .ref mW, .int (zI (↑tc)), .ref mC, .ref mS, .int (zI (↑rc)), .ref mL, .ref mT, .ref mH, .ref mY, .ref mE, .ref mG, .ref mB, .ref mO, .int (zI (0))])), (mS, .inl (cI, 163, .inl (zA (eI sz)))), (mH, .inl (cI, 16, .inl (zA hi))), (mB, .inl (cI, 4, .inl (zA b2)))]) (w1 := [(mC, .inl (cI, 2608, .inl (zA c6)))]) hP hD [1] [0, 2, 3, 4] rfl rfl (by decide) (by decide) hk9 hFr ht9 hB9
                          have hP := hP.sub (ws' := [(o, .inr (6, [.int (zI (↑sy)), .ref mA, .ref mR, .ref mW, .int (zI (↑tc)), .ref mC, .ref mS, .int (zI (↑rc)), .ref mL, .ref mT, .ref mH, .ref mY, .ref mE, .ref mG, .ref mB, .ref mO, .int (zI (0))])), (mC, .inl (cI, 2608, .inl (zA c6))), (mS, .inl (cI, 163, .inl (zA (eI sz)))), (mH, .inl (cI, 16, .inl (zA hi))), (mB, .inl (cI, 4, .inl (zA b2)))]) [0, 4, 1, 2, 3] rfl
                          have hD := hD.sub (ws' := [(o, .inr (6, [.int (zI (↑sy)), .ref mA, .ref mR, .ref mW, .int (zI (↑tc)), .ref mC, .ref mS, .int (zI (↑rc)), .ref mL, .ref mT, .ref mH, .ref mY, .ref mE, .ref mG, .ref mB, .ref mO, .int (zI (0))])), (mC, .inl (cI, 2608, .inl (zA c6))), (mS, .inl (cI, 163, .inl (zA (eI sz)))), (mH, .inl (cI, 16, .inl (zA hi))), (mB, .inl (cI, 4, .inl (zA b2)))]) [0, 4, 1, 2, 3] (by decide) rfl
                          have hF := fz_keep hF0 hFA hS
                          obtain ⟨e9, hs6, hk6⟩ := hr325
                          subst e9
                          have hNt := hnt (by omega) k r0 q0 b2 hfound
                          refine lv_istore (lv' := [(7, .int (zI ((↑(k + (ins (TH (rg r0)) (TH x.toNat) (TE x.toNat) b2 (tn (rg r0))).length + (tn x.toNat - TE x.toNat k)))))), (8, .int (zI (↑(tn (rg r0))))), (6, .int (zI (↑(tn x.toNat - (TE x.toNat k - k) + (ins (TH (rg r0)) (TH x.toNat) (TE x.toNat) b2 (tn (rg r0))).length)))), (5, .int (zI (↑(TE x.toNat k)))), (4, .int (zI ((↑r0)))), (3, .int (zI (↑(16 * x.toNat)))), (2, .int (zI ((↑k)))), (0, .ref o), (1, .int (zI (x)))]) hx hb qd_M_step_328 hl (by decide) rfl (fun ls hl => ?_)
                          refine lv_aload_n hx hb qd_M_step_330 rfl (lv_at hl 7 rfl) ?_
                          refine lv_iload hx hb qd_M_step_331 (lv_at hl 0 rfl) ?_
                          refine zz_top (b := ↑(seg (TH x.toNat) 0 k ++ ins (TH (rg r0)) (TH x.toNat) (TE x.toNat) b2 (tn (rg r0)) ++ seg (TH x.toNat) (TE x.toNat k) (tn x.toNat)).length) (by rw [List.length_append, List.length_append, seg_len, seg_len]; omega) ?_
                          have hPc := hP.sub (ws' := [(o, .inr (6, [.int (zI (↑sy)), .ref mA, .ref mR, .ref mW, .int (zI (↑tc)), .ref mC, .ref mS, .int (zI (↑rc)), .ref mL, .ref mT, .ref mH, .ref mY, .ref mE, .ref mG, .ref mB, .ref mO, .int (zI (0))])), (mC, .inl (cI, 2608, .inl (zA c6))), (mS, .inl (cI, 163, .inl (zA (eI sz)))), (mH, .inl (cI, 16, .inl (zA hi)))]) [0, 1, 2, 3] rfl
                          have hDc := hD.sub (ws' := [(o, .inr (6, [.int (zI (↑sy)), .ref mA, .ref mR, .ref mW, .int (zI (↑tc)), .ref mC, .ref mS, .int (zI (↑rc)), .ref mL, .ref mT, .ref mH, .ref mY, .ref mE, .ref mG, .ref mB, .ref mO, .int (zI (0))])), (mC, .inl (cI, 2608, .inl (zA c6))), (mS, .inl (cI, 163, .inl (zA (eI sz)))), (mH, .inl (cI, 16, .inl (zA hi)))]) [0, 1, 2, 3] (by decide) rfl
                          have hFr := va_free (wc := [(o, .inr (6, [.int (zI (↑sy)), .ref mA, .ref mR, .ref mW, .int (zI (↑tc)), .ref mC, .ref mS, .int (zI (↑rc)), .ref mL, .ref mT, .ref mH, .ref mY, .ref mE, .ref mG, .ref mB, .ref mO, .int (zI (0))])), (mC, .inl (cI, 2608, .inl (zA c6))), (mS, .inl (cI, 163, .inl (zA (eI sz)))), (mH, .inl (cI, 16, .inl (zA hi)))]) hD hS hA [0, 1, 2, 3] rfl
                          refine mw_callI (va_runV (As := [.int (zI (↑((seg (TH x.toNat) 0 k ++ ins (TH (rg r0)) (TH x.toNat) (TE x.toNat) b2 (tn (rg r0)) ++ seg (TH x.toNat) (TE x.toNat k) (tn x.toNat)).length)))]) (rest := []) ⟨hx, hb, hml, hown, hg⟩ (c_M_keep l dC dI cI cZ cT cJ o mA mR mW mC mS mL mT mH mY mE mG mB mO sy tc rc 0 ar rk wt c6 sz lf rg hi hv ef gr b2 ol (seg (TH x.toNat) 0 k ++ ins (TH (rg r0)) (TH x.toNat) (TE x.toNat) b2 (tn (rg r0)) ++ seg (TH x.toNat) (TE x.toNat k) (tn x.toNat)) tm te t ((seg (TH x.toNat) 0 k ++ ins (TH (rg r0)) (TH x.toNat) (TE x.toNat) b2 (tn (rg r0)) ++ seg (TH x.toNat) (TE x.toNat k) (tn x.toNat)).length) H325_8.size har htc rfl hNt.1 hsm hs6 (fun q hq => by have z9 := hNt.2.1 q hq; omega) hNt.2.2.1 hNt.2.2.2.1 hNt.2.2.2.2.2) ⟨callB_of 1 hg (gw_ok (fun _ h => h) wd_701) rfl rfl rfl (hg _ wd_6) (hg _ wd_698) (by decide +kernel) ⟨Nat.le_of_ble_eq_true rfl, Nat.le_of_ble_eq_true rfl⟩, hg _ wd_700, hg _ se_M_keep⟩ (mw_preV (va_recv (q0 := 0) hK hP rfl rfl) hPc (pw_c (q := (mA, .inl (cI, 5, .inl (zA ar)))) hF 0 rfl (pw_nil)) hK hN hDc (apw_c (q := (mA, .inl (cI, 5, .inl (zA ar)))) (apw_f hD [0, 1, 2, 3] rfl (hFA 0 _ rfl)) (apw_nil))) rfl rfl hl.1 rfl (lv_room (Nat.le_of_ble_eq_true rfl)) qd_M_step_333 ⟨Nat.le_of_ble_eq_true rfl, Nat.le_of_ble_eq_true rfl⟩) hS (fun q _ h => hFr q h) hFr (fun r333 u9 t9 H333_9 L333_9 ht9 hv9 hr333 hB9 hz9 hk9 hS => ?_)
                          obtain ⟨tw3, tc3, c7, sz3, hi3⟩ := u9
                          try dsimp only at hr333 hB9
                          obtain ⟨hP, hD⟩ := mw_join (wr := [(mB, .inl (cI, 4, .inl (zA b2)))]) (w1 := [(o, .inr (6, [.int (zI (↑sy)), .ref mA, .ref mR, .ref mW, .int (zI (↑tc3)), .ref mC, .ref mS, .int (zI (↑rc)), .ref mL, .ref mT, .ref mH, .ref mY, .ref mE, .ref mG, .ref mB, .ref mO, .int (zI (tw3))])), (mC, .inl (cI, 2608, .inl (zA c7))), (mS, .inl (cI, 163, .inl (zA (eI sz3)))), (mH, .inl (cI, 16, .inl (zA hi3)))]) hP hD [0, 1, 2, 3] [4] rfl rfl (by decide) (by decide) hk9 hFr ht9 hB9
                          have hP := hP.sub (ws' := [(o, .inr (6, [.int (zI (↑sy)), .ref mA, .ref mR, .ref mW, .int (zI (↑tc3)), .ref mC, .ref mS, .int (zI (↑rc)), .ref mL, .ref mT, .ref mH, .ref mY, .ref mE, .ref mG, .ref mB, .ref mO, .int (zI (tw3))])), (mC, .inl (cI, 2608, .inl (zA c7))), (mS, .inl (cI, 163, .inl (zA (eI sz3)))), (mH, .inl (cI, 16, .inl (zA hi3))), (mB, .inl (cI, 4, .inl (zA b2)))]) [1, 2, 3, 4, 0] rfl
                          have hD := hD.sub (ws' := [(o, .inr (6, [.int (zI (↑sy)), .ref mA, .ref mR, .ref mW, .int (zI (↑tc3)), .ref mC, .ref mS, .int (zI (↑rc)), .ref mL, .ref mT, .ref mH, .ref mY, .ref mE, .ref mG, .ref mB, .ref mO, .int (zI (tw3))])), (mC, .inl (cI, 2608, .inl (zA c7))), (mS, .inl (cI, 163, .inl (zA (eI sz3)))), (mH, .inl (cI, 16, .inl (zA hi3))), (mB, .inl (cI, 4, .inl (zA b2)))]) [1, 2, 3, 4, 0] (by decide) rfl
                          have hF := fz_keep hF0 hFA hS
                          exact W.iret (v := zI r333) hx hb hr (fun t9 ht9 hW9 => ⟨⟨r333, (tw3, tc3, c7, sz3, hi3, b2), rfl, (Or.inr (Or.inr ⟨by omega, k, r0, q0, b2, hfound, kp_of hsm (fun j hj => (hk6 j hj).trans (hcz j hj)) hr333⟩)), mwB_i (by rw [ht9]; exact hP) (va_K.moved hW9.alike hK) hD⟩, hS.F ht9⟩) hS.2.2 qd_M_step_336
                        · skip
                          have hci := okT_hh hsy hor i (by omega)
                          have hmo2 : (ins (TH (rg r0)) (TH x.toNat) (TE x.toNat) b2 (i + 1)).length ≤ (ins (TH (rg r0)) (TH x.toNat) (TE x.toNat) b2 (tn (rg r0))).length := ins_mono (by omega)
                          refine lv_aload_n hx hb qd_M_step_231 rfl (lv_at hl 7 rfl) ?_
                          refine va_get (D := (dC, dI)) (ci := 6) (v := .ref mC) (C := "TermOrdersModel") (T := qT_M) (N := 17) hx hb hg qi_M hown hK hP 0 rfl rfl 5 (by decide) (hg _ wd_623) (fun _ h9 => h9) rfl qd_M_step_232 ?_
                          refine lv_bipush (v := zI 16) hx hb qd_M_step_235 (by decide) ?_
                          refine lv_aload_n hx hb qd_M_step_237 rfl (lv_at hl 7 rfl) ?_
                          refine va_get (D := (dC, dI)) (ci := 6) (v := .ref mT) (C := "TermOrdersModel") (T := qT_M) (N := 17) hx hb hg qi_M hown hK hP 0 rfl rfl 9 (by decide) (hg _ wd_627) (fun _ h9 => h9) rfl qd_M_step_238 ?_
                          refine lv_iload hx hb qd_M_step_241 (lv_at hl 4 rfl) ?_
                          refine zz_eald hx hb hK hF 2 0 rfl rfl r0 rfl (by omega) (by omega) qd_M_step_243 ?_
                          refine zz_imul hx hb (16 * (↑(rg r0))) rfl qd_M_step_244 ?_
                          refine lv_iload hx hb qd_M_step_245 (lv_at hl 0 rfl) ?_
                          refine zz_iadd hx hb ((16 * (↑(rg r0))) + (↑i)) rfl qd_M_step_247 ?_
                          refine zz_iald hx hb hK hP 1 0 rfl rfl (16 * rg r0 + i) (by omega) (by omega) (by omega) qd_M_step_248 ?_
                          refine zz_top (b := TH (rg r0) i) ((hcz _ (by omega)).trans (hcr i (by omega))) ?_
                          refine lv_istore (lv' := [(9, .int (zI (TH (rg r0) i))), (8, .int (zI (↑i))), (7, .int (zI (↑(k + (ins (TH (rg r0)) (TH x.toNat) (TE x.toNat) b2 i).length)))), (6, .int (zI (↑(tn x.toNat - (TE x.toNat k - k) + (ins (TH (rg r0)) (TH x.toNat) (TE x.toNat) b2 (tn (rg r0))).length)))), (5, .int (zI (↑(TE x.toNat k)))), (4, .int (zI ((↑r0)))), (3, .int (zI (↑(16 * x.toNat)))), (2, .int (zI ((↑k)))), (0, .ref o), (1, .int (zI (x)))]) hx hb qd_M_step_249 hl (by decide) rfl (fun ls hl => ?_)
                          refine lv_iload hx hb qd_M_step_251 (lv_at hl 0 rfl) ?_
                          refine zz_if_lt (tgt := 275) hx hb qd_M_step_253 (by decide) (by omega) (fun h253 => ?_) (fun h253 => ?_)
                          · skip
                            obtain ⟨X9, hX1, hX2⟩ := st_bound hol hox hkn hMR (hu3 i (by omega) (by omega)) (by omega)
                            obtain ⟨v1, v2, v3, v4⟩ := hwe X9 hX2
                            have hbv : b2 ((-1) - TH (rg r0) i).toNat = ↑X9 := hX1
                            have hil : (ins (TH (rg r0)) (TH x.toNat) (TE x.toNat) b2 (i + 1)).length = (ins (TH (rg r0)) (TH x.toNat) (TE x.toNat) b2 i).length + (TE x.toNat X9 - X9) := by show (ins (TH (rg r0)) (TH x.toNat) (TE x.toNat) b2 i ++ _).length = _; rw [List.length_append, if_neg (by omega), hX1, seg_len]; rfl
                            refine lv_aload_n hx hb qd_M_step_275 rfl (lv_at hl 8 rfl) ?_
                            refine lv_iload hx hb qd_M_step_276 (lv_at hl 2 rfl) ?_
                            refine lv_iload_n hx hb qd_M_step_278 rfl (lv_at hl 6 rfl) ?_
                            refine lv_aload_n hx hb qd_M_step_279 rfl (lv_at hl 8 rfl) ?_
                            refine va_get (D := (dC, dI)) (ci := 6) (v := .ref mB) (C := "TermOrdersModel") (T := qT_M) (N := 17) hx hb hg qi_M hown hK hP 0 rfl rfl 14 (by decide) (hg _ wd_632) (fun _ h9 => h9) rfl qd_M_step_280 ?_
                            refine lv_iconst (v := zI (-1)) hx hb qd_M_step_283 rfl ?_
                            refine lv_iload hx hb qd_M_step_284 (lv_at hl 0 rfl) ?_
                            refine zz_isub hx hb (↑((-1) - TH (rg r0) i).toNat) (by omega) qd_M_step_286 ?_
                            refine zz_iald hx hb hK hP 4 0 rfl rfl (((-1) - TH (rg r0) i).toNat) rfl (by omega) (by omega) qd_M_step_287 ?_
                            refine zz_top (b := ↑X9) hbv ?_
                            refine lv_aload_n hx hb qd_M_step_288 rfl (lv_at hl 8 rfl) ?_
                            refine lv_iload_n hx hb qd_M_step_289 rfl (lv_at hl 6 rfl) ?_
                            refine lv_aload_n hx hb qd_M_step_290 rfl (lv_at hl 8 rfl) ?_
                            refine va_get (D := (dC, dI)) (ci := 6) (v := .ref mB) (C := "TermOrdersModel") (T := qT_M) (N := 17) hx hb hg qi_M hown hK hP 0 rfl rfl 14 (by decide) (hg _ wd_632) (fun _ h9 => h9) rfl qd_M_step_291 ?_
                            refine lv_iconst (v := zI (-1)) hx hb qd_M_step_294 rfl ?_
                            refine lv_iload hx hb qd_M_step_295 (lv_at hl 0 rfl) ?_
                            refine zz_isub hx hb (↑((-1) - TH (rg r0) i).toNat) (by omega) qd_M_step_297 ?_
                            refine zz_iald hx hb hK hP 4 0 rfl rfl (((-1) - TH (rg r0) i).toNat) rfl (by omega) (by omega) qd_M_step_298 ?_
                            refine zz_top (b := ↑X9) hbv ?_
                            refine rd_callI (W.runV (As := [.int (zI (↑(16 * x.toNat))), .int (zI (↑X9))]) (rest := [.int (zI (↑X9)), .int (zI (↑(16 * x.toNat))), .int (zI (↑(k + (ins (TH (rg r0)) (TH x.toNat) (TE x.toNat) b2 i).length))), .ref o]) ⟨hx, hb, hml, hown, hg⟩ (c_M_end l dC dI cI cZ cT cJ o mA mR mW mC mS mL mT mH mY mE mG mB mO sy tc rc 0 ar rk wt cz sz lf rg hi hv ef gr b2 ol (16 * x.toNat) (tn x.toNat) (TH x.toNat) (TM x.toNat) (TE x.toNat) X9 har hox.2.1 (by omega) (fun q hq => (hcz _ (by omega)).trans (hcx q hq)) hox.2.2.2.1 (okT_hh hsy hox) hwe hX2) ⟨callB_of 2 hg (gw_ok (fun _ h => h) wd_713) rfl rfl rfl (hg _ wd_6) (hg _ wd_710) (by decide +kernel) ⟨Nat.le_of_ble_eq_true rfl, Nat.le_of_ble_eq_true rfl⟩, hg _ wd_712, hg _ se_M_end⟩ (rd_preV (va_recv (q0 := 0) hK hP rfl rfl) (pw_c (q := (o, .inr (6, [.int (zI (↑sy)), .ref mA, .ref mR, .ref mW, .int (zI (↑tc)), .ref mC, .ref mS, .int (zI (↑rc)), .ref mL, .ref mT, .ref mH, .ref mY, .ref mE, .ref mG, .ref mB, .ref mO, .int (zI (0))]))) hP 0 rfl (pw_c (q := (mA, .inl (cI, 5, .inl (zA ar)))) hF 0 rfl (pw_c (q := (mC, .inl (cI, 2608, .inl (zA cz)))) hP 1 rfl (pw_nil)))) hK hN) rfl rfl hl.1 rfl (lv_room (Nat.le_of_ble_eq_true rfl)) qd_M_step_299 ⟨Nat.le_of_ble_eq_true rfl, Nat.le_of_ble_eq_true rfl⟩) (fun r299 hr299 => ?_)
                            have e299 : r299 = ↑(TE x.toNat X9) := hr299
                            subst e299
                            have hPc := hP.sub (ws' := [(mC, .inl (cI, 2608, .inl (zA cz)))]) [1] rfl
                            have hDc := hD.sub (ws' := [(mC, .inl (cI, 2608, .inl (zA cz)))]) [1] (by decide) rfl
                            have hFr := va_free (wc := [(mC, .inl (cI, 2608, .inl (zA cz)))]) hD hS hA [1] rfl
                            refine mw_callI (va_runV (As := [.int (zI (↑(k + (ins (TH (rg r0)) (TH x.toNat) (TE x.toNat) b2 i).length))), .int (zI (↑(16 * x.toNat))), .int (zI (↑X9)), .int (zI (↑(TE x.toNat X9)))]) (rest := []) ⟨hx, hb, hml, hown, hg⟩ (c_M_append l dC dI cI cZ cT cJ o mA mR mW mC mS mL mT mH mY mE mG mB mO sy tc rc 0 ar rk wt cz sz lf rg hi hv ef gr b2 ol (16 * x.toNat) (tn x.toNat) (TH x.toNat) ([] ++ seg (TH x.toNat) 0 k ++ ins (TH (rg r0)) (TH x.toNat) (TE x.toNat) b2 i) (k + (ins (TH (rg r0)) (TH x.toNat) (TE x.toNat) b2 i).length) X9 (TE x.toNat X9) H214_7.size (by omega) (fun q hq => (hcz _ (by omega)).trans (hcx q hq)) (Nat.le_of_lt v1) v2 hrl hsc (by omega)) ⟨callB_of 4 hg (gw_ok (fun _ h => h) wd_697) rfl rfl rfl (hg _ wd_6) (hg _ wd_694) (by decide +kernel) ⟨Nat.le_of_ble_eq_true rfl, Nat.le_of_ble_eq_true rfl⟩, hg _ wd_696, hg _ se_M_append⟩ (mw_preV (va_recv (q0 := 0) hK hP rfl rfl) hPc (pw_c (q := (o, .inr (6, [.int (zI (↑sy)), .ref mA, .ref mR, .ref mW, .int (zI (↑tc)), .ref mC, .ref mS, .int (zI (↑rc)), .ref mL, .ref mT, .ref mH, .ref mY, .ref mE, .ref mG, .ref mB, .ref mO, .int (zI (0))]))) hP 0 rfl (pw_nil)) hK hN hDc (apw_c (q := (o, .inr (6, [.int (zI (↑sy)), .ref mA, .ref mR, .ref mW, .int (zI (↑tc)), .ref mC, .ref mS, .int (zI (↑rc)), .ref mL, .ref mT, .ref mH, .ref mY, .ref mE, .ref mG, .ref mB, .ref mO, .int (zI (0))]))) (apw_m hD [1] rfl 0 rfl (by decide)) (apw_nil))) rfl rfl hl.1 rfl (lv_room (Nat.le_of_ble_eq_true rfl)) qd_M_step_302 ⟨Nat.le_of_ble_eq_true rfl, Nat.le_of_ble_eq_true rfl⟩) hS (fun q _ h => hFr q h) hFr (fun r302 c5 t9 H302_10 L302_10 ht9 hv9 hr302 hB9 hz9 hk9 hS => ?_)
                            try dsimp only at hr302 hB9
                            obtain ⟨hP, hD⟩ := mw_join (wr := [(o, .inr (6, [.int (zI (↑sy)), .ref mA, .ref mR, .ref mW, .int (zI (↑tc)), .ref mC, .ref mS, .int (zI (↑rc)), .ref mL, .ref mT, .ref mH, .ref mY, .ref mE, .ref mG, .ref mB, .ref mO, .int (zI (0))])), (mS, .inl (cI, 163, .inl (zA (eI sz)))), (mH, .inl (cI, 16, .inl (zA hi))), (mB, .inl (cI, 4, .inl (zA b2)))]) (w1 := [(mC, .inl (cI, 2608, .inl (zA c5)))]) hP hD [1] [0, 2, 3, 4] rfl rfl (by decide) (by decide) hk9 hFr ht9 hB9
                            have hP := hP.sub (ws' := [(o, .inr (6, [.int (zI (↑sy)), .ref mA, .ref mR, .ref mW, .int (zI (↑tc)), .ref mC, .ref mS, .int (zI (↑rc)), .ref mL, .ref mT, .ref mH, .ref mY, .ref mE, .ref mG, .ref mB, .ref mO, .int (zI (0))])), (mC, .inl (cI, 2608, .inl (zA c5))), (mS, .inl (cI, 163, .inl (zA (eI sz)))), (mH, .inl (cI, 16, .inl (zA hi))), (mB, .inl (cI, 4, .inl (zA b2)))]) [0, 4, 1, 2, 3] rfl
                            have hD := hD.sub (ws' := [(o, .inr (6, [.int (zI (↑sy)), .ref mA, .ref mR, .ref mW, .int (zI (↑tc)), .ref mC, .ref mS, .int (zI (↑rc)), .ref mL, .ref mT, .ref mH, .ref mY, .ref mE, .ref mG, .ref mB, .ref mO, .int (zI (0))])), (mC, .inl (cI, 2608, .inl (zA c5))), (mS, .inl (cI, 163, .inl (zA (eI sz)))), (mH, .inl (cI, 16, .inl (zA hi))), (mB, .inl (cI, 4, .inl (zA b2)))]) [0, 4, 1, 2, 3] (by decide) rfl
                            have hF := fz_keep hF0 hFA hS
                            obtain ⟨e9, hs5, hk4⟩ := hr302
                            subst e9
                            have hs4 : scr ([] ++ seg (TH x.toNat) 0 k ++ ins (TH (rg r0)) (TH x.toNat) (TE x.toNat) b2 (i + 1)) c5 := by show scr (_ ++ (ins (TH (rg r0)) (TH x.toNat) (TE x.toNat) b2 i ++ _)) _; rw [← List.append_assoc, if_neg (by omega), hX1]; exact hs5
                            refine lv_istore (lv' := [(7, .int (zI ((↑(k + (ins (TH (rg r0)) (TH x.toNat) (TE x.toNat) b2 i).length + (TE x.toNat X9 - X9)))))), (9, .int (zI (TH (rg r0) i))), (8, .int (zI (↑i))), (6, .int (zI (↑(tn x.toNat - (TE x.toNat k - k) + (ins (TH (rg r0)) (TH x.toNat) (TE x.toNat) b2 (tn (rg r0))).length)))), (5, .int (zI (↑(TE x.toNat k)))), (4, .int (zI ((↑r0)))), (3, .int (zI (↑(16 * x.toNat)))), (2, .int (zI ((↑k)))), (0, .ref o), (1, .int (zI (x)))]) hx hb qd_M_step_305 hl (by decide) rfl (fun ls hl => ?_)
                            refine lv_iinc (k := 2) (lv' := [(8, .int (zI (↑(i + 1)))), (7, .int (zI ((↑(k + (ins (TH (rg r0)) (TH x.toNat) (TE x.toNat) b2 i).length + (TE x.toNat X9 - X9)))))), (9, .int (zI (TH (rg r0) i))), (6, .int (zI (↑(tn x.toNat - (TE x.toNat k - k) + (ins (TH (rg r0)) (TH x.toNat) (TE x.toNat) b2 (tn (rg r0))).length)))), (5, .int (zI (↑(TE x.toNat k)))), (4, .int (zI ((↑r0)))), (3, .int (zI (↑(16 * x.toNat)))), (2, .int (zI ((↑k)))), (0, .ref o), (1, .int (zI (x)))]) hx hb qd_M_step_307 hl rfl (zI_inc (v := ↑(i + 1)) (by omega)) (by decide) rfl (fun ls hl => ?_)
                            refine lv_goto (tgt := 214) hx hb qd_M_step_310 (by decide) ?_
                            have hl := lv_sub (l' := [(8, .int (zI (↑(i + 1)))), (7, .int (zI ((↑(k + (ins (TH (rg r0)) (TH x.toNat) (TE x.toNat) b2 i).length + (TE x.toNat X9 - X9)))))), (6, .int (zI (↑(tn x.toNat - (TE x.toNat k - k) + (ins (TH (rg r0)) (TH x.toNat) (TE x.toNat) b2 (tn (rg r0))).length)))), (5, .int (zI (↑(TE x.toNat k)))), (4, .int (zI ((↑r0)))), (3, .int (zI (↑(16 * x.toNat)))), (2, .int (zI ((↑k)))), (0, .ref o), (1, .int (zI (x)))]) hl [0, 1, 3, 4, 5, 6, 7, 8, 9] rfl
                            have q9 : ((↑(k + (ins (TH (rg r0)) (TH x.toNat) (TE x.toNat) b2 i).length + (TE x.toNat X9 - X9))) : Int) = ↑(k + (ins (TH (rg r0)) (TH x.toNat) (TE x.toNat) b2 (i + 1)).length) := (by omega)
                            have hl : lv_has ls 10 [(8, .int (zI (↑(i + 1)))), (7, .int (zI (↑(k + (ins (TH (rg r0)) (TH x.toNat) (TE x.toNat) b2 (i + 1)).length)))), (6, .int (zI (↑(tn x.toNat - (TE x.toNat k - k) + (ins (TH (rg r0)) (TH x.toNat) (TE x.toNat) b2 (tn (rg r0))).length)))), (5, .int (zI (↑(TE x.toNat k)))), (4, .int (zI ((↑r0)))), (3, .int (zI (↑(16 * x.toNat)))), (2, .int (zI ((↑k)))), (0, .ref o), (1, .int (zI (x)))] := (congrArg (fun z9 : Int => lv_has ls 10 [(8, .int (zI (↑(i + 1)))), (7, .int (zI (z9))), (6, .int (zI (↑(tn x.toNat - (TE x.toNat k - k) + (ins (TH (rg r0)) (TH x.toNat) (TE x.toNat) b2 (tn (rg r0))).length)))), (5, .int (zI (↑(TE x.toNat k)))), (4, .int (zI ((↑r0)))), (3, .int (zI (↑(16 * x.toNat)))), (2, .int (zI ((↑k)))), (0, .ref o), (1, .int (zI (x)))]) q9).mp hl
                            exact ih214 _ (by omega) (i + 1) c5 (by omega) hs4 (fun j hj => (hk4 j hj).trans (hcz j hj)) rfl H302_10 L302_10 hP hD hS ls hl
                          · skip
                            have hil : (ins (TH (rg r0)) (TH x.toNat) (TE x.toNat) b2 (i + 1)).length = (ins (TH (rg r0)) (TH x.toNat) (TE x.toNat) b2 i).length + 1 := by show (ins (TH (rg r0)) (TH x.toNat) (TE x.toNat) b2 i ++ _).length = _; rw [List.length_append, if_pos (by omega)]; rfl
                            have hs4 : scr ([] ++ seg (TH x.toNat) 0 k ++ ins (TH (rg r0)) (TH x.toNat) (TE x.toNat) b2 (i + 1)) (uz cz (2560 + (k + (ins (TH (rg r0)) (TH x.toNat) (TE x.toNat) b2 i).length)) (TH (rg r0) i)) := by (have z9 := scr_app (c := TH (rg r0) i) hsc); rw [hrl] at z9; show scr (_ ++ (ins (TH (rg r0)) (TH x.toNat) (TE x.toNat) b2 i ++ _)) _; rw [← List.append_assoc, if_pos (by omega)]; exact z9
                            have hk4 : ∀ j, j < 2560 → uz cz (2560 + (k + (ins (TH (rg r0)) (TH x.toNat) (TE x.toNat) b2 i).length)) (TH (rg r0) i) j = cz j := fun j hj => by rw [uz_n _ _ (by omega)]
                            refine lv_aload_n hx hb qd_M_step_256 rfl (lv_at hl 8 rfl) ?_
                            refine va_get (D := (dC, dI)) (ci := 6) (v := .ref mC) (C := "TermOrdersModel") (T := qT_M) (N := 17) hx hb hg qi_M hown hK hP 0 rfl rfl 5 (by decide) (hg _ wd_623) (fun _ h9 => h9) rfl qd_M_step_257 ?_
                            refine lv_sipush (v := zI 2560) hx hb qd_M_step_260 (by decide) ?_
                            refine lv_iload hx hb qd_M_step_263 (lv_at hl 2 rfl) ?_
                            refine zz_iadd hx hb (2560 + (↑(k + (ins (TH (rg r0)) (TH x.toNat) (TE x.toNat) b2 i).length))) rfl qd_M_step_265 ?_
                            refine lv_iload hx hb qd_M_step_266 (lv_at hl 0 rfl) ?_
                            refine zz_iast hx hb hK hP hD hS 1 0 rfl rfl (2560 + (k + (ins (TH (rg r0)) (TH x.toNat) (TE x.toNat) b2 i).length)) (by omega) (by omega) (by omega) qd_M_step_268 (fun H268_11 L268_11 hP hD hS => ?_)
                            have hP : va_P (dC, dI) qcl [(o, .inr (6, [.int (zI (↑sy)), .ref mA, .ref mR, .ref mW, .int (zI (↑tc)), .ref mC, .ref mS, .int (zI (↑rc)), .ref mL, .ref mT, .ref mH, .ref mY, .ref mE, .ref mG, .ref mB, .ref mO, .int (zI (0))])), (mC, .inl (cI, 2608, .inl (zA (uz cz (2560 + (k + (ins (TH (rg r0)) (TH x.toNat) (TE x.toNat) b2 i).length)) (TH (rg r0) i))))), (mS, .inl (cI, 163, .inl (zA (eI sz)))), (mH, .inl (cI, 16, .inl (zA hi))), (mB, .inl (cI, 4, .inl (zA b2)))] H268_11 := hP
                            have hD : va_D A [(o, .inr (6, [.int (zI (↑sy)), .ref mA, .ref mR, .ref mW, .int (zI (↑tc)), .ref mC, .ref mS, .int (zI (↑rc)), .ref mL, .ref mT, .ref mH, .ref mY, .ref mE, .ref mG, .ref mB, .ref mO, .int (zI (0))])), (mC, .inl (cI, 2608, .inl (zA (uz cz (2560 + (k + (ins (TH (rg r0)) (TH x.toNat) (TE x.toNat) b2 i).length)) (TH (rg r0) i))))), (mS, .inl (cI, 163, .inl (zA (eI sz)))), (mH, .inl (cI, 16, .inl (zA hi))), (mB, .inl (cI, 4, .inl (zA b2)))] := hD
                            have hF := fz_keep hF0 hFA hS
                            refine lv_iinc (k := 2) (lv' := [(7, .int (zI (↑(k + (ins (TH (rg r0)) (TH x.toNat) (TE x.toNat) b2 (i + 1)).length)))), (9, .int (zI (TH (rg r0) i))), (8, .int (zI (↑i))), (6, .int (zI (↑(tn x.toNat - (TE x.toNat k - k) + (ins (TH (rg r0)) (TH x.toNat) (TE x.toNat) b2 (tn (rg r0))).length)))), (5, .int (zI (↑(TE x.toNat k)))), (4, .int (zI ((↑r0)))), (3, .int (zI (↑(16 * x.toNat)))), (2, .int (zI ((↑k)))), (0, .ref o), (1, .int (zI (x)))]) hx hb qd_M_step_269 hl rfl (zI_inc (v := ↑(k + (ins (TH (rg r0)) (TH x.toNat) (TE x.toNat) b2 (i + 1)).length)) (by omega)) (by decide) rfl (fun ls hl => ?_)
                            refine lv_goto (tgt := 307) hx hb qd_M_step_272 (by decide) ?_
                            refine lv_iinc (k := 2) (lv' := [(8, .int (zI (↑(i + 1)))), (7, .int (zI (↑(k + (ins (TH (rg r0)) (TH x.toNat) (TE x.toNat) b2 (i + 1)).length)))), (9, .int (zI (TH (rg r0) i))), (6, .int (zI (↑(tn x.toNat - (TE x.toNat k - k) + (ins (TH (rg r0)) (TH x.toNat) (TE x.toNat) b2 (tn (rg r0))).length)))), (5, .int (zI (↑(TE x.toNat k)))), (4, .int (zI ((↑r0)))), (3, .int (zI (↑(16 * x.toNat)))), (2, .int (zI ((↑k)))), (0, .ref o), (1, .int (zI (x)))]) hx hb qd_M_step_307 hl rfl (zI_inc (v := ↑(i + 1)) (by omega)) (by decide) rfl (fun ls hl => ?_)
                            refine lv_goto (tgt := 214) hx hb qd_M_step_310 (by decide) ?_
                            have hl := lv_sub (l' := [(8, .int (zI (↑(i + 1)))), (7, .int (zI (↑(k + (ins (TH (rg r0)) (TH x.toNat) (TE x.toNat) b2 (i + 1)).length)))), (6, .int (zI (↑(tn x.toNat - (TE x.toNat k - k) + (ins (TH (rg r0)) (TH x.toNat) (TE x.toNat) b2 (tn (rg r0))).length)))), (5, .int (zI (↑(TE x.toNat k)))), (4, .int (zI ((↑r0)))), (3, .int (zI (↑(16 * x.toNat)))), (2, .int (zI ((↑k)))), (0, .ref o), (1, .int (zI (x)))]) hl [0, 1, 3, 4, 5, 6, 7, 8, 9] rfl
                            have q9 : (↑(k + (ins (TH (rg r0)) (TH x.toNat) (TE x.toNat) b2 (i + 1)).length) : Int) = ↑(k + (ins (TH (rg r0)) (TH x.toNat) (TE x.toNat) b2 (i + 1)).length) := (by omega)
                            have hl : lv_has ls 10 [(8, .int (zI (↑(i + 1)))), (7, .int (zI (↑(k + (ins (TH (rg r0)) (TH x.toNat) (TE x.toNat) b2 (i + 1)).length)))), (6, .int (zI (↑(tn x.toNat - (TE x.toNat k - k) + (ins (TH (rg r0)) (TH x.toNat) (TE x.toNat) b2 (tn (rg r0))).length)))), (5, .int (zI (↑(TE x.toNat k)))), (4, .int (zI ((↑r0)))), (3, .int (zI (↑(16 * x.toNat)))), (2, .int (zI ((↑k)))), (0, .ref o), (1, .int (zI (x)))] := (congrArg (fun z9 : Int => lv_has ls 10 [(8, .int (zI (↑(i + 1)))), (7, .int (zI (z9))), (6, .int (zI (↑(tn x.toNat - (TE x.toNat k - k) + (ins (TH (rg r0)) (TH x.toNat) (TE x.toNat) b2 (tn (rg r0))).length)))), (5, .int (zI (↑(TE x.toNat k)))), (4, .int (zI ((↑r0)))), (3, .int (zI (↑(16 * x.toNat)))), (2, .int (zI ((↑k)))), (0, .ref o), (1, .int (zI (x)))]) q9).mp hl
                            exact ih214 _ (by omega) (i + 1) (uz cz (2560 + (k + (ins (TH (rg r0)) (TH x.toNat) (TE x.toNat) b2 i).length)) (TH (rg r0) i)) (by omega) hs4 (fun j hj => (hk4 j hj).trans (hcz j hj)) rfl H268_11 L268_11 hP hD hS ls hl
                    have q9 : ((↑(0 + (k - 0))) : Int) = ↑(k + (ins (TH (rg r0)) (TH x.toNat) (TE x.toNat) b2 0).length) := (by show ((0 + (k - 0) : Nat) : Int) = ((k + 0 : Nat) : Int); omega)
                    have hl : lv_has ls 10 [(8, .int (zI (0))), (7, .int (zI (↑(k + (ins (TH (rg r0)) (TH x.toNat) (TE x.toNat) b2 0).length)))), (6, .int (zI (↑(tn x.toNat - (TE x.toNat k - k) + (ins (TH (rg r0)) (TH x.toNat) (TE x.toNat) b2 (tn (rg r0))).length)))), (5, .int (zI (↑(TE x.toNat k)))), (4, .int (zI ((↑r0)))), (3, .int (zI (↑(16 * x.toNat)))), (2, .int (zI ((↑k)))), (0, .ref o), (1, .int (zI (x)))] := (congrArg (fun z9 : Int => lv_has ls 10 [(8, .int (zI (0))), (7, .int (zI (z9))), (6, .int (zI (↑(tn x.toNat - (TE x.toNat k - k) + (ins (TH (rg r0)) (TH x.toNat) (TE x.toNat) b2 (tn (rg r0))).length)))), (5, .int (zI (↑(TE x.toNat k)))), (4, .int (zI ((↑r0)))), (3, .int (zI (↑(16 * x.toNat)))), (2, .int (zI ((↑k)))), (0, .ref o), (1, .int (zI (x)))]) q9).mp hl
                    exact L214 _ 0 c3 (by omega) (by rw [show ins (TH (rg r0)) (TH x.toNat) (TE x.toNat) b2 0 = [] from rfl, List.append_nil]; exact hs3) hk3b rfl H206_6 L206_6 hP hD hS ls hl
                  · skip
                    exfalso
                    omega
                · skip
                  have hbig : 16 < (seg (TH x.toNat) 0 k ++ ins (TH (rg r0)) (TH x.toNat) (TE x.toNat) b2 (tn (rg r0)) ++ seg (TH x.toNat) (TE x.toNat k) (tn x.toNat)).length := by rw [List.length_append, List.length_append, seg_len, seg_len]; omega
                  refine lv_iconst (v := zI 1) hx hb qd_M_step_184 rfl ?_
                  refine lv_goto (tgt := 189) hx hb qd_M_step_185 (by decide) ?_
                  refine va_put (D := (dC, dI)) (ci := 6) (v := .int (zI (1))) (ty := .int) (C := "TermOrdersModel") (T := qT_M) (N := 17) hx hb hg qi_M qt_M qo_M qn_M hown hK hP hD hS 0 rfl rfl 16 (by decide) (hg _ wd_634) (fun _ h9 => h9) rfl (by decide +kernel) rfl rfl (Nat.le_of_ble_eq_true rfl) qd_M_step_189 (fun H189_12 L189_12 hP hD hS => ?_)
                  have hP : va_P (dC, dI) qcl [(o, .inr (6, [.int (zI (↑sy)), .ref mA, .ref mR, .ref mW, .int (zI (↑tc)), .ref mC, .ref mS, .int (zI (↑rc)), .ref mL, .ref mT, .ref mH, .ref mY, .ref mE, .ref mG, .ref mB, .ref mO, .int (zI (1))])), (mC, .inl (cI, 2608, .inl (zA co))), (mS, .inl (cI, 163, .inl (zA (eI sz)))), (mH, .inl (cI, 16, .inl (zA hi))), (mB, .inl (cI, 4, .inl (zA b2)))] H189_12 := hP
                  have hD : va_D A [(o, .inr (6, [.int (zI (↑sy)), .ref mA, .ref mR, .ref mW, .int (zI (↑tc)), .ref mC, .ref mS, .int (zI (↑rc)), .ref mL, .ref mT, .ref mH, .ref mY, .ref mE, .ref mG, .ref mB, .ref mO, .int (zI (1))])), (mC, .inl (cI, 2608, .inl (zA co))), (mS, .inl (cI, 163, .inl (zA (eI sz)))), (mH, .inl (cI, 16, .inl (zA hi))), (mB, .inl (cI, 4, .inl (zA b2)))] := hD
                  have hF := fz_keep hF0 hFA hS
                  refine lv_aload_n hx hb qd_M_step_192 rfl (lv_at hl 6 rfl) ?_
                  refine va_get (D := (dC, dI)) (ci := 6) (v := .int (zI (1))) (C := "TermOrdersModel") (T := qT_M) (N := 17) hx hb hg qi_M hown hK hP 0 rfl rfl 16 (by decide) (hg _ wd_634) (fun _ h9 => h9) rfl qd_M_step_193 ?_
                  refine zz_if_eq (tgt := 201) hx hb qd_M_step_196 (by decide) (by omega) (fun h196 => ?_) (fun h196 => ?_)
                  · skip
                    exfalso
                    omega
                  · skip
                    refine lv_iconst (v := zI 0) hx hb qd_M_step_199 rfl ?_
                    exact W.iret (v := zI 0) hx hb hr (fun t9 ht9 hW9 => ⟨⟨0, (1, tc, co, sz, hi, b2), rfl, (Or.inr (Or.inr ⟨by omega, k, r0, q0, b2, hfound, Or.inl ⟨Or.inl hbig, rfl, rfl, rfl, fun _ _ => rfl⟩⟩)), mwB_i (by rw [ht9]; exact hP) (va_K.moved hW9.alike hK) hD⟩, hS.F ht9⟩) hS.2.2 qd_M_step_200
              · skip
                have hci := okT_hh hsy hor i (by omega)
                refine lv_aload_n hx hb qd_M_step_112 rfl (lv_at hl 6 rfl) ?_
                refine va_get (D := (dC, dI)) (ci := 6) (v := .ref mC) (C := "TermOrdersModel") (T := qT_M) (N := 17) hx hb hg qi_M hown hK hP 0 rfl rfl 5 (by decide) (hg _ wd_623) (fun _ h9 => h9) rfl qd_M_step_113 ?_
                refine lv_bipush (v := zI 16) hx hb qd_M_step_116 (by decide) ?_
                refine lv_aload_n hx hb qd_M_step_118 rfl (lv_at hl 6 rfl) ?_
                refine va_get (D := (dC, dI)) (ci := 6) (v := .ref mT) (C := "TermOrdersModel") (T := qT_M) (N := 17) hx hb hg qi_M hown hK hP 0 rfl rfl 9 (by decide) (hg _ wd_627) (fun _ h9 => h9) rfl qd_M_step_119 ?_
                refine lv_iload hx hb qd_M_step_122 (lv_at hl 3 rfl) ?_
                refine zz_eald hx hb hK hF 2 0 rfl rfl r0 rfl (by omega) (by omega) qd_M_step_124 ?_
                refine zz_imul hx hb (16 * (↑(rg r0))) rfl qd_M_step_125 ?_
                refine lv_iload hx hb qd_M_step_126 (lv_at hl 0 rfl) ?_
                refine zz_iadd hx hb ((16 * (↑(rg r0))) + (↑i)) rfl qd_M_step_128 ?_
                refine zz_iald hx hb hK hP 1 0 rfl rfl (16 * rg r0 + i) (by omega) (by omega) (by omega) qd_M_step_129 ?_
                refine zz_top (b := TH (rg r0) i) (hcr i (by omega)) ?_
                refine lv_istore (lv' := [(8, .int (zI (TH (rg r0) i))), (7, .int (zI (↑i))), (6, .int (zI (↑(tn x.toNat - (TE x.toNat k - k) + (ins (TH (rg r0)) (TH x.toNat) (TE x.toNat) b2 i).length)))), (5, .int (zI (↑(TE x.toNat k)))), (4, .int (zI ((↑r0)))), (3, .int (zI (↑(16 * x.toNat)))), (2, .int (zI ((↑k)))), (0, .ref o), (1, .int (zI (x)))]) hx hb qd_M_step_130 hl (by decide) rfl (fun ls hl => ?_)
                refine lv_iload hx hb qd_M_step_132 (lv_at hl 2 rfl) ?_
                refine lv_iload hx hb qd_M_step_134 (lv_at hl 0 rfl) ?_
                refine zz_if_lt (tgt := 143) hx hb qd_M_step_136 (by decide) (by omega) (fun h136 => ?_) (fun h136 => ?_)
                · skip
                  obtain ⟨X9, hX1, hX2⟩ := st_bound hol hox hkn hMR (hu3 i (by omega) (by omega)) (by omega)
                  obtain ⟨v1, v2, v3, v4⟩ := hwe X9 hX2
                  have hbv : b2 ((-1) - TH (rg r0) i).toNat = ↑X9 := hX1
                  have hil : (ins (TH (rg r0)) (TH x.toNat) (TE x.toNat) b2 (i + 1)).length = (ins (TH (rg r0)) (TH x.toNat) (TE x.toNat) b2 i).length + (TE x.toNat X9 - X9) := by show (ins (TH (rg r0)) (TH x.toNat) (TE x.toNat) b2 i ++ _).length = _; rw [List.length_append, if_neg (by omega), hX1, seg_len]; rfl
                  refine lv_aload_n hx hb qd_M_step_143 rfl (lv_at hl 7 rfl) ?_
                  refine lv_iload_n hx hb qd_M_step_144 rfl (lv_at hl 5 rfl) ?_
                  refine lv_aload_n hx hb qd_M_step_145 rfl (lv_at hl 7 rfl) ?_
                  refine va_get (D := (dC, dI)) (ci := 6) (v := .ref mB) (C := "TermOrdersModel") (T := qT_M) (N := 17) hx hb hg qi_M hown hK hP 0 rfl rfl 14 (by decide) (hg _ wd_632) (fun _ h9 => h9) rfl qd_M_step_146 ?_
                  refine lv_iconst (v := zI (-1)) hx hb qd_M_step_149 rfl ?_
                  refine lv_iload hx hb qd_M_step_150 (lv_at hl 0 rfl) ?_
                  refine zz_isub hx hb (↑((-1) - TH (rg r0) i).toNat) (by omega) qd_M_step_152 ?_
                  refine zz_iald hx hb hK hP 4 0 rfl rfl (((-1) - TH (rg r0) i).toNat) rfl (by omega) (by omega) qd_M_step_153 ?_
                  refine zz_top (b := ↑X9) hbv ?_
                  refine rd_callI (W.runV (As := [.int (zI (↑(16 * x.toNat))), .int (zI (↑X9))]) (rest := [.int (zI (↑(tn x.toNat - (TE x.toNat k - k) + (ins (TH (rg r0)) (TH x.toNat) (TE x.toNat) b2 i).length)))]) ⟨hx, hb, hml, hown, hg⟩ (c_M_end l dC dI cI cZ cT cJ o mA mR mW mC mS mL mT mH mY mE mG mB mO sy tc rc 0 ar rk wt co sz lf rg hi hv ef gr b2 ol (16 * x.toNat) (tn x.toNat) (TH x.toNat) (TM x.toNat) (TE x.toNat) X9 har hox.2.1 (by omega) hcx hox.2.2.2.1 (okT_hh hsy hox) hwe hX2) ⟨callB_of 2 hg (gw_ok (fun _ h => h) wd_713) rfl rfl rfl (hg _ wd_6) (hg _ wd_710) (by decide +kernel) ⟨Nat.le_of_ble_eq_true rfl, Nat.le_of_ble_eq_true rfl⟩, hg _ wd_712, hg _ se_M_end⟩ (rd_preV (va_recv (q0 := 0) hK hP rfl rfl) (pw_c (q := (o, .inr (6, [.int (zI (↑sy)), .ref mA, .ref mR, .ref mW, .int (zI (↑tc)), .ref mC, .ref mS, .int (zI (↑rc)), .ref mL, .ref mT, .ref mH, .ref mY, .ref mE, .ref mG, .ref mB, .ref mO, .int (zI (0))]))) hP 0 rfl (pw_c (q := (mA, .inl (cI, 5, .inl (zA ar)))) hF 0 rfl (pw_c (q := (mC, .inl (cI, 2608, .inl (zA co)))) hP 1 rfl (pw_nil)))) hK hN) rfl rfl hl.1 rfl (lv_room (Nat.le_of_ble_eq_true rfl)) qd_M_step_154 ⟨Nat.le_of_ble_eq_true rfl, Nat.le_of_ble_eq_true rfl⟩) (fun r154 hr154 => ?_)
                  have e154 : r154 = ↑(TE x.toNat X9) := hr154
                  subst e154
                  refine lv_aload_n hx hb qd_M_step_157 rfl (lv_at hl 7 rfl) ?_
                  refine va_get (D := (dC, dI)) (ci := 6) (v := .ref mB) (C := "TermOrdersModel") (T := qT_M) (N := 17) hx hb hg qi_M hown hK hP 0 rfl rfl 14 (by decide) (hg _ wd_632) (fun _ h9 => h9) rfl qd_M_step_158 ?_
                  refine lv_iconst (v := zI (-1)) hx hb qd_M_step_161 rfl ?_
                  refine lv_iload hx hb qd_M_step_162 (lv_at hl 0 rfl) ?_
                  refine zz_isub hx hb (↑((-1) - TH (rg r0) i).toNat) (by omega) qd_M_step_164 ?_
                  refine zz_iald hx hb hK hP 4 0 rfl rfl (((-1) - TH (rg r0) i).toNat) rfl (by omega) (by omega) qd_M_step_165 ?_
                  refine zz_top (b := ↑X9) hbv ?_
                  refine zz_isub hx hb (↑(TE x.toNat X9 - X9)) (by omega) qd_M_step_166 ?_
                  refine zz_iadd hx hb (↑(tn x.toNat - (TE x.toNat k - k) + (ins (TH (rg r0)) (TH x.toNat) (TE x.toNat) b2 (i + 1)).length)) (by omega) qd_M_step_167 ?_
                  refine lv_istore (lv' := [(6, .int (zI (↑(tn x.toNat - (TE x.toNat k - k) + (ins (TH (rg r0)) (TH x.toNat) (TE x.toNat) b2 (i + 1)).length)))), (8, .int (zI (TH (rg r0) i))), (7, .int (zI (↑i))), (5, .int (zI (↑(TE x.toNat k)))), (4, .int (zI ((↑r0)))), (3, .int (zI (↑(16 * x.toNat)))), (2, .int (zI ((↑k)))), (0, .ref o), (1, .int (zI (x)))]) hx hb qd_M_step_168 hl (by decide) rfl (fun ls hl => ?_)
                  refine lv_iinc (k := 2) (lv' := [(7, .int (zI (↑(i + 1)))), (6, .int (zI (↑(tn x.toNat - (TE x.toNat k - k) + (ins (TH (rg r0)) (TH x.toNat) (TE x.toNat) b2 (i + 1)).length)))), (8, .int (zI (TH (rg r0) i))), (5, .int (zI (↑(TE x.toNat k)))), (4, .int (zI ((↑r0)))), (3, .int (zI (↑(16 * x.toNat)))), (2, .int (zI ((↑k)))), (0, .ref o), (1, .int (zI (x)))]) hx hb qd_M_step_170 hl rfl (zI_inc (v := ↑(i + 1)) (by omega)) (by decide) rfl (fun ls hl => ?_)
                  refine lv_goto (tgt := 95) hx hb qd_M_step_173 (by decide) ?_
                  have hl := lv_sub (l' := [(7, .int (zI (↑(i + 1)))), (6, .int (zI (↑(tn x.toNat - (TE x.toNat k - k) + (ins (TH (rg r0)) (TH x.toNat) (TE x.toNat) b2 (i + 1)).length)))), (5, .int (zI (↑(TE x.toNat k)))), (4, .int (zI ((↑r0)))), (3, .int (zI (↑(16 * x.toNat)))), (2, .int (zI ((↑k)))), (0, .ref o), (1, .int (zI (x)))]) hl [0, 1, 3, 4, 5, 6, 7, 8] rfl
                  exact ih95 _ (by omega) (i + 1) (by omega) (by omega) rfl ls hl
                · skip
                  have hil : (ins (TH (rg r0)) (TH x.toNat) (TE x.toNat) b2 (i + 1)).length = (ins (TH (rg r0)) (TH x.toNat) (TE x.toNat) b2 i).length + 1 := by show (ins (TH (rg r0)) (TH x.toNat) (TE x.toNat) b2 i ++ _).length = _; rw [List.length_append, if_pos (by omega)]; rfl
                  refine lv_iconst (v := zI 1) hx hb qd_M_step_139 rfl ?_
                  refine lv_goto (tgt := 167) hx hb qd_M_step_140 (by decide) ?_
                  refine zz_iadd hx hb (↑(tn x.toNat - (TE x.toNat k - k) + (ins (TH (rg r0)) (TH x.toNat) (TE x.toNat) b2 (i + 1)).length)) (by omega) qd_M_step_167 ?_
                  refine lv_istore (lv' := [(6, .int (zI (↑(tn x.toNat - (TE x.toNat k - k) + (ins (TH (rg r0)) (TH x.toNat) (TE x.toNat) b2 (i + 1)).length)))), (8, .int (zI (TH (rg r0) i))), (7, .int (zI (↑i))), (5, .int (zI (↑(TE x.toNat k)))), (4, .int (zI ((↑r0)))), (3, .int (zI (↑(16 * x.toNat)))), (2, .int (zI ((↑k)))), (0, .ref o), (1, .int (zI (x)))]) hx hb qd_M_step_168 hl (by decide) rfl (fun ls hl => ?_)
                  refine lv_iinc (k := 2) (lv' := [(7, .int (zI (↑(i + 1)))), (6, .int (zI (↑(tn x.toNat - (TE x.toNat k - k) + (ins (TH (rg r0)) (TH x.toNat) (TE x.toNat) b2 (i + 1)).length)))), (8, .int (zI (TH (rg r0) i))), (5, .int (zI (↑(TE x.toNat k)))), (4, .int (zI ((↑r0)))), (3, .int (zI (↑(16 * x.toNat)))), (2, .int (zI ((↑k)))), (0, .ref o), (1, .int (zI (x)))]) hx hb qd_M_step_170 hl rfl (zI_inc (v := ↑(i + 1)) (by omega)) (by decide) rfl (fun ls hl => ?_)
                  refine lv_goto (tgt := 95) hx hb qd_M_step_173 (by decide) ?_
                  have hl := lv_sub (l' := [(7, .int (zI (↑(i + 1)))), (6, .int (zI (↑(tn x.toNat - (TE x.toNat k - k) + (ins (TH (rg r0)) (TH x.toNat) (TE x.toNat) b2 (i + 1)).length)))), (5, .int (zI (↑(TE x.toNat k)))), (4, .int (zI ((↑r0)))), (3, .int (zI (↑(16 * x.toNat)))), (2, .int (zI ((↑k)))), (0, .ref o), (1, .int (zI (x)))]) hl [0, 1, 3, 4, 5, 6, 7, 8] rfl
                  exact ih95 _ (by omega) (i + 1) (by omega) (by omega) rfl ls hl
          have q9 : (↑(tn x.toNat - (TE x.toNat k - k)) : Int) = ↑(tn x.toNat - (TE x.toNat k - k) + (ins (TH (rg r0)) (TH x.toNat) (TE x.toNat) b2 0).length) := rfl
          have hl : lv_has ls 10 [(7, .int (zI (0))), (6, .int (zI (↑(tn x.toNat - (TE x.toNat k - k) + (ins (TH (rg r0)) (TH x.toNat) (TE x.toNat) b2 0).length)))), (5, .int (zI (↑(TE x.toNat k)))), (4, .int (zI ((↑r0)))), (3, .int (zI (↑(16 * x.toNat)))), (2, .int (zI ((↑k)))), (0, .ref o), (1, .int (zI (x)))] := (congrArg (fun z9 : Int => lv_has ls 10 [(7, .int (zI (0))), (6, .int (zI (z9))), (5, .int (zI (↑(TE x.toNat k)))), (4, .int (zI ((↑r0)))), (3, .int (zI (↑(16 * x.toNat)))), (2, .int (zI ((↑k)))), (0, .ref o), (1, .int (zI (x)))]) q9).mp hl
          exact L95 _ 0 (by omega) (Nat.le_refl 0) rfl ls hl
        · skip
          have hnone := hr26.elim (fun ⟨z0, z1, z2⟩ => by clear hr26; omega) (fun z => z.2)
          clear hr26
          refine lv_aload_n hx hb qd_M_step_45 rfl (lv_at hl 1 rfl) ?_
          refine va_get (D := (dC, dI)) (ci := 6) (v := .int (zI (0))) (C := "TermOrdersModel") (T := qT_M) (N := 17) hx hb hg qi_M hown hK hP 0 rfl rfl 16 (by decide) (hg _ wd_634) (fun _ h9 => h9) rfl qd_M_step_46 ?_
          refine zz_if_ne (tgt := 56) hx hb qd_M_step_49 (by decide) (by omega) (fun h49 => ?_) (fun h49 => ?_)
          · skip
            exfalso
            omega
          · skip
            refine lv_iconst (v := zI (-1)) hx hb qd_M_step_52 rfl ?_
            refine lv_goto (tgt := 57) hx hb qd_M_step_53 (by decide) ?_
            exact W.iret (v := zI ((-1))) hx hb hr (fun t9 ht9 hW9 => ⟨⟨(-1), (0, tc, co, sz, hi, b1), rfl, (Or.inr (Or.inl ⟨by omega, hnone, rfl, rfl, rfl, rfl, fun _ _ => rfl⟩)), mwB_i (by rw [ht9]; exact hP) (va_K.moved hW9.alike hK) hD⟩, hS.F ht9⟩) hS.2.2 qd_M_step_57
