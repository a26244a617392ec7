set_option maxHeartbeats 4000000 in
set_option maxRecDepth 100000 in
theorem c_M_height (l : Launch) (dC : Nat → ClassId) (dI : Nat → Nat → Nat) (cI cZ cT cJ : ClassId) (o mA mR mW mC mS mL mT mH mY mE mG mB mO sy tc rc : Nat) (tw : Int) (ar rk wt co : Nat → Int) (sz lf rg : Nat → Nat) (hi hv : Nat → Int) (ef : Nat → Nat) (gr : Nat → Bool) (bd ol : Nat → Int) (b n : Nat) (th tm : Nat → Int) (te : Nat → Nat) (t : Nat → Int) (zh : Nat) (har : ∀ q, q < 5 → 0 ≤ ar q ∧ ar q ≤ 3) (h16 : n ≤ 16) (hb0 : b + 16 ≤ 2608) (hco : ∀ q, q < n → co (b + q) = th q) (htm : ∀ q, q < n → tm q = mny ar (th q)) (hh : ∀ q, q < n → -4 ≤ th q ∧ th q ≤ 4) (we : wfE tm n te) (hge : hgE tm n te t) (hn0 : 0 < n) : Met l qy_M_height qw_M_height ({ frames := 2, cells := 0, slots := 0, locals := 45 }) (mwP (dC, dI) qcl (qty cI cZ cT cJ) nwL [(mH, .inl (cI, 16, .inl (zA hi)))] [(o, .inr (6, [.int (zI (↑sy)), .ref mA, .ref mR, .ref mW, .int (zI (↑tc)), .ref mC, .ref mS, .int (zI (↑rc)), .ref mL, .ref mT, .ref mH, .ref mY, .ref mE, .ref mG, .ref mB, .ref mO, .int (zI (tw))])), (mA, .inl (cI, 5, .inl (zA ar))), (mC, .inl (cI, 2608, .inl (zA co)))] zh [.ref o, .int (zI (↑b)), .int (zI (↑n))]) (mwI (S := (Nat → Int)) (fun r uq => r = t 0) (fun uq tq => mwB (dC, dI) qcl (qty cI cZ cT cJ) (va_A [(mH, .inl (cI, 16, .inl (zA hi)))] zh) [(mH, .inl (cI, 16, .inl (zA uq)))] tq) (va_A [(mH, .inl (cI, 16, .inl (zA hi)))] zh)) 0 0 (va_A [(mH, .inl (cI, 16, .inl (zA hi)))] zh) := by
  refine Met.ofW (cc := qc_M_height) (maxL := 7) (ret := (Option.some Jvm.ClassFile.FieldType.int)) (by decide) rfl ?_
  intro pg eg sg mg args below meth cg s₁ B hml hv
  obtain ⟨rfl, hsz, hP, hF0, hK, hN, hD0, hap⟩ := hv
  have hx := B.exec
  have hb := B.bytes
  have hr := B.returns
  have hts := atoms_spec (ws := qw_M_height) B.pre
  have hg : ∀ w ∈ gw, w.before _ sg = true := fun w h => hts w (List.mem_cons_of_mem _ h)
  have hown : sg.vm.findClass "TermOrdersModel" = some mg.cls := findClass_of_methodNamed B.named
  have hlocks := B.notSynchronized
  have hl := lv_entry ([.ref o, .int (zI (↑b)), .int (zI (↑n))]) (n := 7) (Nat.le_of_ble_eq_true rfl)
  rw [lg_entry_eq]
  generalize (lg_sl ([.ref o, .int (zI (↑b)), .int (zI (↑n))]) ++ List.replicate (7 - (lg_sl ([.ref o, .int (zI (↑b)), .int (zI (↑n))])).length) Slot.unset).toArray = ls at hl ⊢
  subst hsz
  have hD := hD0.self (sz := sg.heap.size)
  have hFA := apw_A hap (fun k q hk => (hF0 k q hk).lt)
  generalize hAe : va_A [(mH, .inl (cI, 16, .inl (zA hi)))] sg.heap.size = A at hD hFA ⊢
  have hA : ∀ q : Nat, sg.heap.size ≤ q → A q := fun q h => by rw [← hAe]; exact Or.inr h
  have hS : va_S A sg.heap sg.heap [] := va_S.rf
  have hF := hF0
  have hl : lv_has ls 7 [(0, .ref o), (1, .int (zI (↑b))), (2, .int (zI (↑n)))] := hl
  have hmq := mq_b har hh htm
  refine lv_iload_n hx hb qd_M_height_0 rfl (lv_at hl 2 rfl) ?_
  refine lv_iconst (v := zI 1) hx hb qd_M_height_1 rfl ?_
  refine zz_isub hx hb ((↑n) - 1) rfl qd_M_height_2 ?_
  refine lv_istore_n (lv' := [(3, .int (zI ((↑n) - 1))), (0, .ref o), (1, .int (zI (↑b))), (2, .int (zI (↑n)))]) hx hb qd_M_height_3 rfl hl (by decide) rfl (fun ls hl => ?_)
  have L4 : ∀ (d9 : Nat) (j : Int) (hz : Nat → Int), (-1 ≤ j ∧ j < n) → (∀ q : Nat, j < q → q < n → hz q = t q) → (j + 1).toNat = d9 → ∀ (H4_1 : Heap) (L4_1 : List Loc), va_P (dC, dI) qcl [(mH, .inl (cI, 16, .inl (zA hz)))] H4_1 → va_D A [(mH, .inl (cI, 16, .inl (zA hz)))] → va_S A sg.heap H4_1 L4_1 → ∀ ls : Array Slot, lv_has ls 7 [(3, .int (zI (j))), (0, .ref o), (1, .int (zI (↑b))), (2, .int (zI (↑n)))] → W pg l eg (headSpec qw_M_height ({ frames := 2, cells := 0, slots := 0, locals := 45 })).room sg mg ([.ref o, .int (zI (↑b)), .int (zI (↑n))] : List Value).toArray below meth cg H4_1 L4_1 0 0 (MQ below (mwI (S := (Nat → Int)) (fun r uq => r = t 0) (fun uq tq => mwB (dC, dI) qcl (qty cI cZ cT cJ) A [(mH, .inl (cI, 16, .inl (zA uq)))] tq) A) ([.ref o, .int (zI (↑b)), .int (zI (↑n))] : List Value).toArray sg 0 0 A) (F0 mg 4 ls []) := by
    intro d9
    induction d9 using Nat.strongRecOn with
    | _ d9 ih4 =>
      intro j hz hj hde hd9 H4_1 L4_1 hP hD hS ls hl
      have hF := fz_keep hF0 hFA hS
      refine lv_iload_n hx hb qd_M_height_4 rfl (lv_at hl 0 rfl) ?_
      refine zz_if_lt (tgt := 93) hx hb qd_M_height_5 (by decide) (by omega) (fun h5 => ?_) (fun h5 => ?_)
      · skip
        have h00 := hde 0 (by omega) hn0
        have hb0 := hg_b we hge 0 hn0
        refine lv_aload_n hx hb qd_M_height_93 rfl (lv_at hl 1 rfl) ?_
        refine va_get (D := (dC, dI)) (ci := 6) (v := .ref mH) (C := "TermOrdersModel") (T := qT_M) (N := 17) hx hb hg qi_M hown hK hF 0 rfl rfl 10 (by decide) (hg _ wd_628) (fun _ h9 => h9) rfl qd_M_height_94 ?_
        refine lv_iconst (v := zI 0) hx hb qd_M_height_97 rfl ?_
        refine zz_iald hx hb hK hP 0 0 rfl rfl 0 (by omega) (by omega) (by omega) qd_M_height_98 ?_
        refine zz_top (b := t 0) h00 ?_
        exact W.iret (v := zI (t 0)) hx hb hr (fun t9 ht9 hW9 => ⟨⟨t 0, hz, rfl, rfl, mwB_i (by rw [ht9]; exact hP) (va_K.moved hW9.alike hK) hD⟩, hS.F ht9⟩) hS.2.2 qd_M_height_99
      · skip
        obtain ⟨k, rfl⟩ : ∃ k : Nat, j = ↑k := ⟨j.toNat, by omega⟩
        have hkn : k < n := by omega
        have hmk := hmq k hkn
        have hhk := hh k hkn
        have hck := hco k hkn
        have htk := htm k hkn
        have hwk := we k hkn
        have hgk := hge k hkn
        refine lv_iconst (v := zI (-1)) hx hb qd_M_height_8 rfl ?_
        refine lv_istore (lv' := [(4, .int (zI ((-1)))), (3, .int (zI ((↑k)))), (0, .ref o), (1, .int (zI (↑b))), (2, .int (zI (↑n)))]) hx hb qd_M_height_9 hl (by decide) rfl (fun ls hl => ?_)
        refine lv_iload_n hx hb qd_M_height_11 rfl (lv_at hl 1 rfl) ?_
        refine lv_iconst (v := zI 1) hx hb qd_M_height_12 rfl ?_
        refine zz_iadd hx hb (↑(prt te k 0)) (by rfl) qd_M_height_13 ?_
        refine lv_istore (lv' := [(5, .int (zI (↑(prt te k 0)))), (4, .int (zI ((-1)))), (3, .int (zI ((↑k)))), (0, .ref o), (1, .int (zI (↑b))), (2, .int (zI (↑n)))]) hx hb qd_M_height_14 hl (by decide) rfl (fun ls hl => ?_)
        refine lv_iconst (v := zI 0) hx hb qd_M_height_16 rfl ?_
        refine lv_istore (lv' := [(6, .int (zI (0))), (5, .int (zI (↑(prt te k 0)))), (4, .int (zI ((-1)))), (3, .int (zI ((↑k)))), (0, .ref o), (1, .int (zI (↑b))), (2, .int (zI (↑n)))]) hx hb qd_M_height_17 hl (by decide) rfl (fun ls hl => ?_)
        have L19 : ∀ (d9 : Nat) (x : Nat), ((x : Int) ≤ tm k) → (tm k).toNat - x = d9 → ∀ ls : Array Slot, lv_has ls 7 [(6, .int (zI (↑x))), (5, .int (zI (↑(prt te k x)))), (4, .int (zI (mxh te t k x - 1))), (3, .int (zI ((↑k)))), (0, .ref o), (1, .int (zI (↑b))), (2, .int (zI (↑n)))] → W pg l eg (headSpec qw_M_height ({ frames := 2, cells := 0, slots := 0, locals := 45 })).room sg mg ([.ref o, .int (zI (↑b)), .int (zI (↑n))] : List Value).toArray below meth cg H4_1 L4_1 0 0 (MQ below (mwI (S := (Nat → Int)) (fun r uq => r = t 0) (fun uq tq => mwB (dC, dI) qcl (qty cI cZ cT cJ) A [(mH, .inl (cI, 16, .inl (zA uq)))] tq) A) ([.ref o, .int (zI (↑b)), .int (zI (↑n))] : List Value).toArray sg 0 0 A) (F0 mg 19 ls []) := by
          intro d9
          induction d9 using Nat.strongRecOn with
          | _ d9 ih19 =>
            intro x hxk hd9 ls hl
            have hpi := prt_in we hkn x (by omega)
            have hb2 : 0 ≤ mxh te t k x ∧ mxh te t k x ≤ 16 := ⟨mxh_0 _, mxh_le (by omega) _ (fun y hy => by have z1 := prt_lt we hkn (k := y) (by omega); have z2 := hg_b we hge (prt te k y) (by omega); omega)⟩
            refine lv_iload hx hb qd_M_height_19 (lv_at hl 0 rfl) ?_
            refine lv_aload_n hx hb qd_M_height_21 rfl (lv_at hl 4 rfl) ?_
            refine lv_aload_n hx hb qd_M_height_22 rfl (lv_at hl 4 rfl) ?_
            refine va_get (D := (dC, dI)) (ci := 6) (v := .ref mC) (C := "TermOrdersModel") (T := qT_M) (N := 17) hx hb hg qi_M hown hK hF 0 rfl rfl 5 (by decide) (hg _ wd_623) (fun _ h9 => h9) rfl qd_M_height_23 ?_
            refine lv_iload_n hx hb qd_M_height_26 rfl (lv_at hl 5 rfl) ?_
            refine lv_iload_n hx hb qd_M_height_27 rfl (lv_at hl 3 rfl) ?_
            refine zz_iadd hx hb ((↑b) + ((↑k))) rfl qd_M_height_28 ?_
            refine zz_iald hx hb hK hF 2 0 rfl rfl (b + k) (by omega) (by omega) (by omega) qd_M_height_29 ?_
            refine zz_top (b := th k) hck ?_
            refine rd_callI (W.runV (As := [.int (zI ((th k)))]) (rest := [.int (zI (↑x))]) ⟨hx, hb, hml, hown, hg⟩ (c_M_many l dC dI cI cZ cT cJ o mA mR mW mC mS mL mT mH mY mE mG mB mO sy tc rc tw ar rk wt co sz lf rg hi hv ef gr bd ol (th k) (by omega)) ⟨callB_of 1 hg (gw_ok (fun _ h => h) wd_709) rfl rfl rfl (hg _ wd_6) (hg _ wd_706) (by decide +kernel) ⟨Nat.le_of_ble_eq_true rfl, Nat.le_of_ble_eq_true rfl⟩, hg _ wd_708, hg _ se_M_many⟩ (rd_preV (va_recv (q0 := 0) hK hF rfl rfl) (pw_c (q := (o, .inr (6, [.int (zI (↑sy)), .ref mA, .ref mR, .ref mW, .int (zI (↑tc)), .ref mC, .ref mS, .int (zI (↑rc)), .ref mL, .ref mT, .ref mH, .ref mY, .ref mE, .ref mG, .ref mB, .ref mO, .int (zI (tw))]))) hF 0 rfl (pw_c (q := (mA, .inl (cI, 5, .inl (zA ar)))) hF 1 rfl (pw_nil))) hK hN) rfl rfl hl.1 rfl (lv_room (Nat.le_of_ble_eq_true rfl)) qd_M_height_30 ⟨Nat.le_of_ble_eq_true rfl, Nat.le_of_ble_eq_true rfl⟩) (fun r30 hr30 => ?_)
            have e30 : r30 = mny ar (th k) := hr30
            subst e30
            refine zz_icmp_ge (tgt := 77) hx hb qd_M_height_33 (by decide) (by omega) (by omega) (fun h33 => ?_) (fun h33 => ?_)
            · skip
              have e8 : mxh te t k x = t k := by rw [hgk]; congr 1; omega
              refine lv_aload_n hx hb qd_M_height_77 rfl (lv_at hl 4 rfl) ?_
              refine va_get (D := (dC, dI)) (ci := 6) (v := .ref mH) (C := "TermOrdersModel") (T := qT_M) (N := 17) hx hb hg qi_M hown hK hF 0 rfl rfl 10 (by decide) (hg _ wd_628) (fun _ h9 => h9) rfl qd_M_height_78 ?_
              refine lv_iload_n hx hb qd_M_height_81 rfl (lv_at hl 3 rfl) ?_
              refine lv_iload hx hb qd_M_height_82 (lv_at hl 2 rfl) ?_
              refine lv_iconst (v := zI 1) hx hb qd_M_height_84 rfl ?_
              refine zz_iadd hx hb (t k) (by omega) qd_M_height_85 ?_
              refine zz_iast hx hb hK hP hD hS 0 0 rfl rfl k rfl (by omega) (by omega) qd_M_height_86 (fun H86_2 L86_2 hP hD hS => ?_)
              have hP : va_P (dC, dI) qcl [(mH, .inl (cI, 16, .inl (zA (uz hz k (t k)))))] H86_2 := hP
              have hD : va_D A [(mH, .inl (cI, 16, .inl (zA (uz hz k (t k)))))] := hD
              have hF := fz_keep hF0 hFA hS
              refine lv_iinc (k := 3) (lv' := [(3, .int (zI (↑k - 1))), (6, .int (zI (↑x))), (5, .int (zI (↑(prt te k x)))), (4, .int (zI (mxh te t k x - 1))), (0, .ref o), (1, .int (zI (↑b))), (2, .int (zI (↑n)))]) hx hb qd_M_height_87 hl rfl (zI_inc (v := ↑k - 1) (by omega)) (by decide) rfl (fun ls hl => ?_)
              refine lv_goto (tgt := 4) hx hb qd_M_height_90 (by decide) ?_
              have hl := lv_sub (l' := [(3, .int (zI (↑k - 1))), (0, .ref o), (1, .int (zI (↑b))), (2, .int (zI (↑n)))]) hl [0, 4, 5, 6] rfl
              exact ih4 _ (by omega) (↑k - 1) (uz hz k (t k)) (by omega) (fun q h1 h2 => if h8 : q = k then (by rw [h8, uz_s]) else (by rw [uz_n _ _ h8]; exact hde q (by omega) h2)) rfl H86_2 L86_2 hP hD hS ls hl
            · skip
              have hp1 := prt_lt we hkn (k := x) (by omega)
              have hd1 := hde (prt te k x) (by omega) (by omega)
              have hb1 := hg_b we hge (prt te k x) (by omega)
              refine lv_aload_n hx hb qd_M_height_36 rfl (lv_at hl 4 rfl) ?_
              refine va_get (D := (dC, dI)) (ci := 6) (v := .ref mH) (C := "TermOrdersModel") (T := qT_M) (N := 17) hx hb hg qi_M hown hK hF 0 rfl rfl 10 (by decide) (hg _ wd_628) (fun _ h9 => h9) rfl qd_M_height_37 ?_
              refine lv_iload hx hb qd_M_height_40 (lv_at hl 1 rfl) ?_
              refine zz_iald hx hb hK hP 0 0 rfl rfl (prt te k x) rfl (by omega) (by omega) qd_M_height_42 ?_
              refine zz_top (b := t (prt te k x)) hd1 ?_
              refine lv_iload hx hb qd_M_height_43 (lv_at hl 2 rfl) ?_
              refine zz_icmp_le (tgt := 58) hx hb qd_M_height_45 (by decide) (by omega) (by omega) (fun h45 => ?_) (fun h45 => ?_)
              · skip
                refine lv_iload hx hb qd_M_height_58 (lv_at hl 2 rfl) ?_
                refine lv_istore (lv' := [(4, .int (zI (mxh te t k x - 1))), (6, .int (zI (↑x))), (5, .int (zI (↑(prt te k x)))), (3, .int (zI ((↑k)))), (0, .ref o), (1, .int (zI (↑b))), (2, .int (zI (↑n)))]) hx hb qd_M_height_60 hl (by decide) rfl (fun ls hl => ?_)
                refine lv_aload_n hx hb qd_M_height_62 rfl (lv_at hl 4 rfl) ?_
                refine lv_iload_n hx hb qd_M_height_63 rfl (lv_at hl 5 rfl) ?_
                refine lv_iload hx hb qd_M_height_64 (lv_at hl 2 rfl) ?_
                refine rd_callI (W.runV (As := [.int (zI (↑b)), .int (zI (↑(prt te k x)))]) (rest := []) ⟨hx, hb, hml, hown, hg⟩ (c_M_end l dC dI cI cZ cT cJ o mA mR mW mC mS mL mT mH mY mE mG mB mO sy tc rc tw ar rk wt co sz lf rg hi hv ef gr bd ol b n th tm te (prt te k x) har h16 hb0 hco htm hh we (by omega)) ⟨callB_of 2 hg (gw_ok (fun _ h => h) wd_713) rfl rfl rfl (hg _ wd_6) (hg _ wd_710) (by decide +kernel) ⟨Nat.le_of_ble_eq_true rfl, Nat.le_of_ble_eq_true rfl⟩, hg _ wd_712, hg _ se_M_end⟩ (rd_preV (va_recv (q0 := 0) hK hF rfl rfl) (pw_c (q := (o, .inr (6, [.int (zI (↑sy)), .ref mA, .ref mR, .ref mW, .int (zI (↑tc)), .ref mC, .ref mS, .int (zI (↑rc)), .ref mL, .ref mT, .ref mH, .ref mY, .ref mE, .ref mG, .ref mB, .ref mO, .int (zI (tw))]))) hF 0 rfl (pw_c (q := (mA, .inl (cI, 5, .inl (zA ar)))) hF 1 rfl (pw_c (q := (mC, .inl (cI, 2608, .inl (zA co)))) hF 2 rfl (pw_nil)))) hK hN) rfl rfl hl.1 rfl (lv_room (Nat.le_of_ble_eq_true rfl)) qd_M_height_66 ⟨Nat.le_of_ble_eq_true rfl, Nat.le_of_ble_eq_true rfl⟩) (fun r66 hr66 => ?_)
                have e66 : r66 = ↑(prt te k (x + 1)) := hr66
                subst e66
                refine lv_istore (lv' := [(5, .int (zI (↑(prt te k (x + 1))))), (4, .int (zI (mxh te t k x - 1))), (6, .int (zI (↑x))), (3, .int (zI ((↑k)))), (0, .ref o), (1, .int (zI (↑b))), (2, .int (zI (↑n)))]) hx hb qd_M_height_69 hl (by decide) rfl (fun ls hl => ?_)
                refine lv_iinc (k := 2) (lv' := [(6, .int (zI (↑(x + 1)))), (5, .int (zI (↑(prt te k (x + 1))))), (4, .int (zI (mxh te t k x - 1))), (3, .int (zI ((↑k)))), (0, .ref o), (1, .int (zI (↑b))), (2, .int (zI (↑n)))]) hx hb qd_M_height_71 hl rfl (zI_inc (v := ↑(x + 1)) (by omega)) (by decide) rfl (fun ls hl => ?_)
                refine lv_goto (tgt := 19) hx hb qd_M_height_74 (by decide) ?_
                have q9 : mxh te t k x - 1 = mxh te t k (x + 1) - 1 := (by show _ = mx _ _ - 1; unfold mx; split <;> omega)
                have hl : lv_has ls 7 [(6, .int (zI (↑(x + 1)))), (5, .int (zI (↑(prt te k (x + 1))))), (4, .int (zI (mxh te t k (x + 1) - 1))), (3, .int (zI ((↑k)))), (0, .ref o), (1, .int (zI (↑b))), (2, .int (zI (↑n)))] := by have h8 := hl; rw [q9] at h8; exact h8
                exact ih19 _ (by omega) (x + 1) (by omega) rfl ls hl
              · skip
                refine lv_aload_n hx hb qd_M_height_48 rfl (lv_at hl 4 rfl) ?_
                refine va_get (D := (dC, dI)) (ci := 6) (v := .ref mH) (C := "TermOrdersModel") (T := qT_M) (N := 17) hx hb hg qi_M hown hK hF 0 rfl rfl 10 (by decide) (hg _ wd_628) (fun _ h9 => h9) rfl qd_M_height_49 ?_
                refine lv_iload hx hb qd_M_height_52 (lv_at hl 1 rfl) ?_
                refine zz_iald hx hb hK hP 0 0 rfl rfl (prt te k x) rfl (by omega) (by omega) qd_M_height_54 ?_
                refine zz_top (b := t (prt te k x)) hd1 ?_
                refine lv_goto (tgt := 60) hx hb qd_M_height_55 (by decide) ?_
                refine lv_istore (lv' := [(4, .int (zI (t (prt te k x)))), (6, .int (zI (↑x))), (5, .int (zI (↑(prt te k x)))), (3, .int (zI ((↑k)))), (0, .ref o), (1, .int (zI (↑b))), (2, .int (zI (↑n)))]) hx hb qd_M_height_60 hl (by decide) rfl (fun ls hl => ?_)
                refine lv_aload_n hx hb qd_M_height_62 rfl (lv_at hl 4 rfl) ?_
                refine lv_iload_n hx hb qd_M_height_63 rfl (lv_at hl 5 rfl) ?_
                refine lv_iload hx hb qd_M_height_64 (lv_at hl 2 rfl) ?_
                refine rd_callI (W.runV (As := [.int (zI (↑b)), .int (zI (↑(prt te k x)))]) (rest := []) ⟨hx, hb, hml, hown, hg⟩ (c_M_end l dC dI cI cZ cT cJ o mA mR mW mC mS mL mT mH mY mE mG mB mO sy tc rc tw ar rk wt co sz lf rg hi hv ef gr bd ol b n th tm te (prt te k x) har h16 hb0 hco htm hh we (by omega)) ⟨callB_of 2 hg (gw_ok (fun _ h => h) wd_713) rfl rfl rfl (hg _ wd_6) (hg _ wd_710) (by decide +kernel) ⟨Nat.le_of_ble_eq_true rfl, Nat.le_of_ble_eq_true rfl⟩, hg _ wd_712, hg _ se_M_end⟩ (rd_preV (va_recv (q0 := 0) hK hF rfl rfl) (pw_c (q := (o, .inr (6, [.int (zI (↑sy)), .ref mA, .ref mR, .ref mW, .int (zI (↑tc)), .ref mC, .ref mS, .int (zI (↑rc)), .ref mL, .ref mT, .ref mH, .ref mY, .ref mE, .ref mG, .ref mB, .ref mO, .int (zI (tw))]))) hF 0 rfl (pw_c (q := (mA, .inl (cI, 5, .inl (zA ar)))) hF 1 rfl (pw_c (q := (mC, .inl (cI, 2608, .inl (zA co)))) hF 2 rfl (pw_nil)))) hK hN) rfl rfl hl.1 rfl (lv_room (Nat.le_of_ble_eq_true rfl)) qd_M_height_66 ⟨Nat.le_of_ble_eq_true rfl, Nat.le_of_ble_eq_true rfl⟩) (fun r66 hr66 => ?_)
                have e66 : r66 = ↑(prt te k (x + 1)) := hr66
                subst e66
                refine lv_istore (lv' := [(5, .int (zI (↑(prt te k (x + 1))))), (4, .int (zI (t (prt te k x)))), (6, .int (zI (↑x))), (3, .int (zI ((↑k)))), (0, .ref o), (1, .int (zI (↑b))), (2, .int (zI (↑n)))]) hx hb qd_M_height_69 hl (by decide) rfl (fun ls hl => ?_)
                refine lv_iinc (k := 2) (lv' := [(6, .int (zI (↑(x + 1)))), (5, .int (zI (↑(prt te k (x + 1))))), (4, .int (zI (t (prt te k x)))), (3, .int (zI ((↑k)))), (0, .ref o), (1, .int (zI (↑b))), (2, .int (zI (↑n)))]) hx hb qd_M_height_71 hl rfl (zI_inc (v := ↑(x + 1)) (by omega)) (by decide) rfl (fun ls hl => ?_)
                refine lv_goto (tgt := 19) hx hb qd_M_height_74 (by decide) ?_
                have q9 : t (prt te k x) = mxh te t k (x + 1) - 1 := (by show _ = mx _ _ - 1; unfold mx; split <;> omega)
                have hl : lv_has ls 7 [(6, .int (zI (↑(x + 1)))), (5, .int (zI (↑(prt te k (x + 1))))), (4, .int (zI (mxh te t k (x + 1) - 1))), (3, .int (zI ((↑k)))), (0, .ref o), (1, .int (zI (↑b))), (2, .int (zI (↑n)))] := by have h8 := hl; rw [q9] at h8; exact h8
                exact ih19 _ (by omega) (x + 1) (by omega) rfl ls hl
        exact L19 _ 0 (by omega) rfl ls hl
  exact L4 _ (↑n - 1) hi (by omega) (fun q h1 h2 => by omega) rfl sg.heap [] hP hD hS ls hl
set_option maxHeartbeats 4000000 in
set_option maxRecDepth 100000 in
theorem c_M_append (l : Launch) (dC : Nat → ClassId) (dI : Nat → Nat → Nat) (cI cZ cT cJ : ClassId) (o mA mR mW mC mS mL mT mH mY mE mG mB mO sy tc rc : Nat) (tw : Int) (ar rk wt co : Nat → Int) (sz lf rg : Nat → Nat) (hi hv : Nat → Int) (ef : Nat → Nat) (gr : Nat → Bool) (bd ol : Nat → Int) (b n : Nat) (th : Nat → Int) (l0 : List Int) (n0 f g : Nat) (zh : Nat) (hb0 : b + n ≤ 2560) (hco : ∀ q, q < n → co (b + q) = th q) (hfg : f ≤ g) (hgn : g ≤ n) (hln : l0.length = n0) (hsc : scr l0 co) (hl16 : n0 + (g - f) ≤ 16) : Met l qy_M_append qw_M_append ({ frames := 0, cells := 0, slots := 0, locals := 0 }) (mwP (dC, dI) qcl (qty cI cZ cT cJ) nwL [(mC, .inl (cI, 2608, .inl (zA co)))] [(o, .inr (6, [.int (zI (↑sy)), .ref mA, .ref mR, .ref mW, .int (zI (↑tc)), .ref mC, .ref mS, .int (zI (↑rc)), .ref mL, .ref mT, .ref mH, .ref mY, .ref mE, .ref mG, .ref mB, .ref mO, .int (zI (tw))]))] zh [.ref o, .int (zI (↑n0)), .int (zI (↑b)), .int (zI (↑f)), .int (zI (↑g))]) (mwI (S := (Nat → Int)) (fun r uq => r = ↑(n0 + (g - f)) ∧ scr (l0 ++ seg th f g) uq ∧ ∀ j, j < 2560 → uq j = co j) (fun uq tq => mwB (dC, dI) qcl (qty cI cZ cT cJ) (va_A [(mC, .inl (cI, 2608, .inl (zA co)))] zh) [(mC, .inl (cI, 2608, .inl (zA uq)))] tq) (va_A [(mC, .inl (cI, 2608, .inl (zA co)))] zh)) 0 0 (va_A [(mC, .inl (cI, 2608, .inl (zA co)))] zh) := by
  refine Met.ofW (cc := qc_M_append) (maxL := 6) (ret := (Option.some Jvm.ClassFile.FieldType.int)) (by decide) rfl ?_
  intro pg eg sg mg args below meth cg s₁ B hml hv
  obtain ⟨rfl, hsz, hP, hF0, hK, hN, hD0, hap⟩ := hv
  have hx := B.exec
  have hb := B.bytes
  have hr := B.returns
  have hts := atoms_spec (ws := qw_M_append) B.pre
  have hg : ∀ w ∈ gw, w.before _ sg = true := fun w h => hts w (List.mem_cons_of_mem _ h)
  have hown : sg.vm.findClass "TermOrdersModel" = some mg.cls := findClass_of_methodNamed B.named
  have hlocks := B.notSynchronized
  have hl := lv_entry ([.ref o, .int (zI (↑n0)), .int (zI (↑b)), .int (zI (↑f)), .int (zI (↑g))]) (n := 6) (Nat.le_of_ble_eq_true rfl)
  rw [lg_entry_eq]
  generalize (lg_sl ([.ref o, .int (zI (↑n0)), .int (zI (↑b)), .int (zI (↑f)), .int (zI (↑g))]) ++ List.replicate (6 - (lg_sl ([.ref o, .int (zI (↑n0)), .int (zI (↑b)), .int (zI (↑f)), .int (zI (↑g))])).length) Slot.unset).toArray = ls at hl ⊢
  subst hsz
  have hD := hD0.self (sz := sg.heap.size)
  have hFA := apw_A hap (fun k q hk => (hF0 k q hk).lt)
  generalize hAe : va_A [(mC, .inl (cI, 2608, .inl (zA co)))] sg.heap.size = A at hD hFA ⊢
  have hA : ∀ q : Nat, sg.heap.size ≤ q → A q := fun q h => by rw [← hAe]; exact Or.inr h
  have hS : va_S A sg.heap sg.heap [] := va_S.rf
  have hF := hF0
  have hl : lv_has ls 6 [(0, .ref o), (1, .int (zI (↑n0))), (2, .int (zI (↑b))), (3, .int (zI (↑f))), (4, .int (zI (↑g)))] := hl
  refine lv_iload_n hx hb qd_M_append_0 rfl (lv_at hl 3 rfl) ?_
  refine lv_istore (lv' := [(5, .int (zI (↑f))), (0, .ref o), (1, .int (zI (↑n0))), (2, .int (zI (↑b))), (3, .int (zI (↑f))), (4, .int (zI (↑g)))]) hx hb qd_M_append_1 hl (by decide) rfl (fun ls hl => ?_)
  have L3 : ∀ (d9 : Nat) (i : Nat) (cz : Nat → Int), (f + i ≤ g) → (scr (l0 ++ seg th f (f + i)) cz) → (∀ j, j < 2560 → cz j = co j) → g - (f + i) = d9 → ∀ (H3_1 : Heap) (L3_1 : List Loc), va_P (dC, dI) qcl [(mC, .inl (cI, 2608, .inl (zA cz)))] H3_1 → va_D A [(mC, .inl (cI, 2608, .inl (zA cz)))] → va_S A sg.heap H3_1 L3_1 → ∀ ls : Array Slot, lv_has ls 6 [(5, .int (zI (↑(f + i)))), (0, .ref o), (1, .int (zI (↑n0))), (2, .int (zI (↑b))), (3, .int (zI (↑f))), (4, .int (zI (↑g)))] → W pg l eg (headSpec qw_M_append ({ frames := 0, cells := 0, slots := 0, locals := 0 })).room sg mg ([.ref o, .int (zI (↑n0)), .int (zI (↑b)), .int (zI (↑f)), .int (zI (↑g))] : List Value).toArray below meth cg H3_1 L3_1 0 0 (MQ below (mwI (S := (Nat → Int)) (fun r uq => r = ↑(n0 + (g - f)) ∧ scr (l0 ++ seg th f g) uq ∧ ∀ j, j < 2560 → uq j = co j) (fun uq tq => mwB (dC, dI) qcl (qty cI cZ cT cJ) A [(mC, .inl (cI, 2608, .inl (zA uq)))] tq) A) ([.ref o, .int (zI (↑n0)), .int (zI (↑b)), .int (zI (↑f)), .int (zI (↑g))] : List Value).toArray sg 0 0 A) (F0 mg 3 ls []) := by
    intro d9
    induction d9 using Nat.strongRecOn with
    | _ d9 ih3 =>
      intro i cz hi8 hz hz2 hd9 H3_1 L3_1 hP hD hS ls hl
      have hF := fz_keep hF0 hFA hS
      refine lv_iload hx hb qd_M_append_3 (lv_at hl 0 rfl) ?_
      refine lv_iload hx hb qd_M_append_5 (lv_at hl 5 rfl) ?_
      refine zz_icmp_ge (tgt := 40) hx hb qd_M_append_7 (by decide) (by omega) (by omega) (fun h7 => ?_) (fun h7 => ?_)
      · skip
        refine lv_iload_n hx hb qd_M_append_40 rfl (lv_at hl 2 rfl) ?_
        refine lv_iload hx hb qd_M_append_41 (lv_at hl 5 rfl) ?_
        refine zz_iadd hx hb ((↑n0) + (↑g)) rfl qd_M_append_43 ?_
        refine lv_iload_n hx hb qd_M_append_44 rfl (lv_at hl 4 rfl) ?_
        refine zz_isub hx hb (↑(n0 + (g - f))) (by omega) qd_M_append_45 ?_
        exact W.iret (v := zI (↑(n0 + (g - f)))) hx hb hr (fun t9 ht9 hW9 => ⟨⟨↑(n0 + (g - f)), cz, rfl, ⟨rfl, by rw [show g = f + i by omega]; exact hz, hz2⟩, mwB_i (by rw [ht9]; exact hP) (va_K.moved hW9.alike hK) hD⟩, hS.F ht9⟩) hS.2.2 qd_M_append_46
      · skip
        have hc1 := hco (f + i) (by omega)
        have hc2 := hz2 (b + (f + i)) (by omega)
        refine lv_aload_n hx hb qd_M_append_10 rfl (lv_at hl 1 rfl) ?_
        refine va_get (D := (dC, dI)) (ci := 6) (v := .ref mC) (C := "TermOrdersModel") (T := qT_M) (N := 17) hx hb hg qi_M hown hK hF 0 rfl rfl 5 (by decide) (hg _ wd_623) (fun _ h9 => h9) rfl qd_M_append_11 ?_
        refine lv_sipush (v := zI 2560) hx hb qd_M_append_14 (by decide) ?_
        refine lv_iload_n hx hb qd_M_append_17 rfl (lv_at hl 2 rfl) ?_
        refine zz_iadd hx hb (2560 + (↑n0)) rfl qd_M_append_18 ?_
        refine lv_iload hx hb qd_M_append_19 (lv_at hl 0 rfl) ?_
        refine zz_iadd hx hb ((2560 + (↑n0)) + (↑(f + i))) rfl qd_M_append_21 ?_
        refine lv_iload_n hx hb qd_M_append_22 rfl (lv_at hl 4 rfl) ?_
        refine zz_isub hx hb (((2560 + (↑n0)) + (↑(f + i))) - (↑f)) rfl qd_M_append_23 ?_
        refine lv_aload_n hx hb qd_M_append_24 rfl (lv_at hl 1 rfl) ?_
        refine va_get (D := (dC, dI)) (ci := 6) (v := .ref mC) (C := "TermOrdersModel") (T := qT_M) (N := 17) hx hb hg qi_M hown hK hF 0 rfl rfl 5 (by decide) (hg _ wd_623) (fun _ h9 => h9) rfl qd_M_append_25 ?_
        refine lv_iload_n hx hb qd_M_append_28 rfl (lv_at hl 3 rfl) ?_
        refine lv_iload hx hb qd_M_append_29 (lv_at hl 0 rfl) ?_
        refine zz_iadd hx hb ((↑b) + (↑(f + i))) rfl qd_M_append_31 ?_
        refine zz_iald hx hb hK hP 0 0 rfl rfl (b + (f + i)) (by omega) (by omega) (by omega) qd_M_append_32 ?_
        refine zz_top (b := th (f + i)) (hc2.trans hc1) ?_
        refine zz_iast hx hb hK hP hD hS 0 0 rfl rfl (2560 + (n0 + i)) (by omega) (by omega) (by omega) qd_M_append_33 (fun H33_2 L33_2 hP hD hS => ?_)
        have hP : va_P (dC, dI) qcl [(mC, .inl (cI, 2608, .inl (zA (uz cz (2560 + (n0 + i)) (th (f + i))))))] H33_2 := hP
        have hD : va_D A [(mC, .inl (cI, 2608, .inl (zA (uz cz (2560 + (n0 + i)) (th (f + i))))))] := hD
        have hF := fz_keep hF0 hFA hS
        refine lv_iinc (k := 0) (lv' := [(5, .int (zI (↑(f + (i + 1))))), (0, .ref o), (1, .int (zI (↑n0))), (2, .int (zI (↑b))), (3, .int (zI (↑f))), (4, .int (zI (↑g)))]) hx hb qd_M_append_34 hl rfl (zI_inc (v := ↑(f + (i + 1))) (by omega)) (by decide) rfl (fun ls hl => ?_)
        refine lv_goto (tgt := 3) hx hb qd_M_append_37 (by decide) ?_
        have hl9 : (l0 ++ seg th f (f + i)).length = n0 + i := by rw [List.length_append, seg_len, hln]; omega
        have hs9 := scr_app (c := th (f + i)) hz
        rw [hl9] at hs9
        exact ih3 _ (by omega) (i + 1) (uz cz (2560 + (n0 + i)) (th (f + i))) (by omega) (by rw [← Nat.add_assoc, seg_s th (by omega), ← List.append_assoc]; exact hs9) (fun j hj => by rw [uz_n _ _ (by omega)]; exact hz2 j hj) rfl H33_2 L33_2 hP hD hS ls hl
  exact L3 _ 0 co (by omega) (by rw [Nat.add_zero, seg_nil, List.append_nil]; exact hsc) (fun j hj => rfl) rfl sg.heap [] hP hD hS ls hl
set_option maxHeartbeats 4000000 in
set_option maxRecDepth 100000 in
theorem c_M_keep (l : Launch) (dC : Nat → ClassId) (dI : Nat → Nat → Nat) (cI cZ cT cJ : ClassId) (o mA mR mW mC mS mL mT mH mY mE mG mB mO sy tc rc : Nat) (tw : Int) (ar rk wt co : Nat → Int) (sz lf rg : Nat → Nat) (hi hv : Nat → Int) (ef : Nat → Nat) (gr : Nat → Bool) (bd ol : Nat → Int) (l0 : List Int) (tm : Nat → Int) (te : Nat → Nat) (t : Nat → Int) (n : Nat) (zh : Nat) (har : ∀ q, q < 5 → 0 ≤ ar q ∧ ar q ≤ 3) (htc : tc ≤ 160) (hln : l0.length = n) (hn0 : 0 < n) (h16 : n ≤ 16) (hsc : scr l0 co) (hh : ∀ q, q < n → -4 ≤ rw_ l0 q ∧ rw_ l0 q ≤ 4) (htm : ∀ q, q < n → tm q = mny ar (rw_ l0 q)) (we : wfE tm n te) (hge : hgE tm n te t) : Met l qy_M_keep qw_M_keep ({ frames := 3, cells := 0, slots := 0, locals := 71 }) (mwP (dC, dI) qcl (qty cI cZ cT cJ) nwL [(o, .inr (6, [.int (zI (↑sy)), .ref mA, .ref mR, .ref mW, .int (zI (↑tc)), .ref mC, .ref mS, .int (zI (↑rc)), .ref mL, .ref mT, .ref mH, .ref mY, .ref mE, .ref mG, .ref mB, .ref mO, .int (zI (tw))])), (mC, .inl (cI, 2608, .inl (zA co))), (mS, .inl (cI, 163, .inl (zA (eI sz)))), (mH, .inl (cI, 16, .inl (zA hi)))] [(mA, .inl (cI, 5, .inl (zA ar)))] zh [.ref o, .int (zI (↑n))]) (mwI (S := (Int) × (Nat) × (Nat → Int) × (Nat → Nat) × (Nat → Int)) (fun r uq => (4 < t 0 ∧ uq.1 = 1 ∧ uq.2.1 = tc ∧ uq.2.2.1 = co ∧ uq.2.2.2.1 = sz ∧ r = 0) ∨ (t 0 ≤ 4 ∧ tc = 160 ∧ uq.1 = 2 ∧ uq.2.1 = tc ∧ uq.2.2.1 = co ∧ uq.2.2.2.1 = sz ∧ r = 0) ∨ (t 0 ≤ 4 ∧ tc < 160 ∧ uq.1 = 0 ∧ uq.2.1 = tc + 1 ∧ r = ↑tc ∧ uq.2.2.2.1 = un sz tc n ∧ (∀ j, (j < 16 * tc ∨ 16 * tc + 16 ≤ j) → uq.2.2.1 j = co j) ∧ ∀ q, q < n → uq.2.2.1 (16 * tc + q) = rw_ l0 q)) (fun uq tq => mwB (dC, dI) qcl (qty cI cZ cT cJ) (va_A [(o, .inr (6, [.int (zI (↑sy)), .ref mA, .ref mR, .ref mW, .int (zI (↑tc)), .ref mC, .ref mS, .int (zI (↑rc)), .ref mL, .ref mT, .ref mH, .ref mY, .ref mE, .ref mG, .ref mB, .ref mO, .int (zI (tw))])), (mC, .inl (cI, 2608, .inl (zA co))), (mS, .inl (cI, 163, .inl (zA (eI sz)))), (mH, .inl (cI, 16, .inl (zA hi)))] zh) [(o, .inr (6, [.int (zI (↑sy)), .ref mA, .ref mR, .ref mW, .int (zI (↑uq.2.1)), .ref mC, .ref mS, .int (zI (↑rc)), .ref mL, .ref mT, .ref mH, .ref mY, .ref mE, .ref mG, .ref mB, .ref mO, .int (zI (uq.1))])), (mC, .inl (cI, 2608, .inl (zA uq.2.2.1))), (mS, .inl (cI, 163, .inl (zA (eI uq.2.2.2.1)))), (mH, .inl (cI, 16, .inl (zA uq.2.2.2.2)))] tq) (va_A [(o, .inr (6, [.int (zI (↑sy)), .ref mA, .ref mR, .ref mW, .int (zI (↑tc)), .ref mC, .ref mS, .int (zI (↑rc)), .ref mL, .ref mT, .ref mH, .ref mY, .ref mE, .ref mG, .ref mB, .ref mO, .int (zI (tw))])), (mC, .inl (cI, 2608, .inl (zA co))), (mS, .inl (cI, 163, .inl (zA (eI sz)))), (mH, .inl (cI, 16, .inl (zA hi)))] zh)) 0 0 (va_A [(o, .inr (6, [.int (zI (↑sy)), .ref mA, .ref mR, .ref mW, .int (zI (↑tc)), .ref mC, .ref mS, .int (zI (↑rc)), .ref mL, .ref mT, .ref mH, .ref mY, .ref mE, .ref mG, .ref mB, .ref mO, .int (zI (tw))])), (mC, .inl (cI, 2608, .inl (zA co))), (mS, .inl (cI, 163, .inl (zA (eI sz)))), (mH, .inl (cI, 16, .inl (zA hi)))] zh) := by
  refine Met.ofW (cc := qc_M_keep) (maxL := 4) (ret := (Option.some Jvm.ClassFile.FieldType.int)) (by decide) rfl ?_
  intro pg eg sg mg args below meth cg s₁ B hml hv
  obtain ⟨rfl, hsz, hP, hF0, hK, hN, hD0, hap⟩ := hv
  have hx := B.exec
  have hb := B.bytes
  have hr := B.returns
  have hts := atoms_spec (ws := qw_M_keep) B.pre
  have hg : ∀ w ∈ gw, w.before _ sg = true := fun w h => hts w (List.mem_cons_of_mem _ h)
  have hown : sg.vm.findClass "TermOrdersModel" = some mg.cls := findClass_of_methodNamed B.named
  have hlocks := B.notSynchronized
  have hl := lv_entry ([.ref o, .int (zI (↑n))]) (n := 4) (Nat.le_of_ble_eq_true rfl)
  rw [lg_entry_eq]
  generalize (lg_sl ([.ref o, .int (zI (↑n))]) ++ List.replicate (4 - (lg_sl ([.ref o, .int (zI (↑n))])).length) Slot.unset).toArray = ls at hl ⊢
  subst hsz
  have hD := hD0.self (sz := sg.heap.size)
  have hFA := apw_A hap (fun k q hk => (hF0 k q hk).lt)
  generalize hAe : va_A [(o, .inr (6, [.int (zI (↑sy)), .ref mA, .ref mR, .ref mW, .int (zI (↑tc)), .ref mC, .ref mS, .int (zI (↑rc)), .ref mL, .ref mT, .ref mH, .ref mY, .ref mE, .ref mG, .ref mB, .ref mO, .int (zI (tw))])), (mC, .inl (cI, 2608, .inl (zA co))), (mS, .inl (cI, 163, .inl (zA (eI sz)))), (mH, .inl (cI, 16, .inl (zA hi)))] sg.heap.size = A at hD hFA ⊢
  have hA : ∀ q : Nat, sg.heap.size ≤ q → A q := fun q h => by rw [← hAe]; exact Or.inr h
  have hS : va_S A sg.heap sg.heap [] := va_S.rf
  have hF := hF0
  have hl : lv_has ls 4 [(0, .ref o), (1, .int (zI (↑n)))] := hl
  have hb0 := hg_b we hge 0 hn0
  refine lv_sipush (v := zI 2560) hx hb qd_M_keep_0 (by decide) ?_
  refine lv_istore_n (lv' := [(2, .int (zI (2560))), (0, .ref o), (1, .int (zI (↑n)))]) hx hb qd_M_keep_3 rfl hl (by decide) rfl (fun ls hl => ?_)
  refine lv_aload_n hx hb qd_M_keep_4 rfl (lv_at hl 1 rfl) ?_
  refine lv_aload_n hx hb qd_M_keep_5 rfl (lv_at hl 1 rfl) ?_
  refine lv_iload_n hx hb qd_M_keep_6 rfl (lv_at hl 0 rfl) ?_
  refine lv_iload_n hx hb qd_M_keep_7 rfl (lv_at hl 2 rfl) ?_
  have hPc := hP.sub (ws' := [(mH, .inl (cI, 16, .inl (zA hi)))]) [3] rfl
  have hDc := hD.sub (ws' := [(mH, .inl (cI, 16, .inl (zA hi)))]) [3] (by decide) rfl
  have hFr := va_free (wc := [(mH, .inl (cI, 16, .inl (zA hi)))]) hD hS hA [3] rfl
  refine mw_callI (va_runV (As := [.int (zI (↑2560)), .int (zI (↑n))]) (rest := [.ref o]) ⟨hx, hb, hml, hown, hg⟩ (c_M_height l dC dI cI cZ cT cJ o mA mR mW mC mS mL mT mH mY mE mG mB mO sy tc rc tw ar rk wt co sz lf rg hi hv ef gr bd ol 2560 n (rw_ l0) tm te t sg.heap.size har h16 (by omega) (fun q hq => hsc q (by omega)) htm hh we hge hn0) ⟨callB_of 2 hg (gw_ok (fun _ h => h) wd_705) rfl rfl rfl (hg _ wd_6) (hg _ wd_702) (by decide +kernel) ⟨Nat.le_of_ble_eq_true rfl, Nat.le_of_ble_eq_true rfl⟩, hg _ wd_704, hg _ se_M_height⟩ (mw_preV (va_recv (q0 := 0) hK hP rfl rfl) hPc (pw_c (q := (o, .inr (6, [.int (zI (↑sy)), .ref mA, .ref mR, .ref mW, .int (zI (↑tc)), .ref mC, .ref mS, .int (zI (↑rc)), .ref mL, .ref mT, .ref mH, .ref mY, .ref mE, .ref mG, .ref mB, .ref mO, .int (zI (tw))]))) hP 0 rfl (pw_c (q := (mA, .inl (cI, 5, .inl (zA ar)))) hF 0 rfl (pw_c (q := (mC, .inl (cI, 2608, .inl (zA co)))) hP 1 rfl (pw_nil)))) hK hN hDc (apw_c (q := (o, .inr (6, [.int (zI (↑sy)), .ref mA, .ref mR, .ref mW, .int (zI (↑tc)), .ref mC, .ref mS, .int (zI (↑rc)), .ref mL, .ref mT, .ref mH, .ref mY, .ref mE, .ref mG, .ref mB, .ref mO, .int (zI (tw))]))) (apw_m hD [3] rfl 0 rfl (by decide)) (apw_c (q := (mA, .inl (cI, 5, .inl (zA ar)))) (apw_f hD [3] rfl (hFA 0 _ rfl)) (apw_c (q := (mC, .inl (cI, 2608, .inl (zA co)))) (apw_m hD [3] rfl 1 rfl (by decide)) (apw_nil))))) rfl rfl hl.1 rfl (lv_room (Nat.le_of_ble_eq_true rfl)) qd_M_keep_8 ⟨Nat.le_of_ble_eq_true rfl, Nat.le_of_ble_eq_true rfl⟩) hS (fun q _ h => hFr q h) hFr (fun r8 hi3 t9 H8_1 L8_1 ht9 hv9 hr8 hB9 hz9 hk9 hS => ?_)
  try dsimp only at hr8 hB9
  obtain ⟨hP, hD⟩ := mw_join (wr := [(o, .inr (6, [.int (zI (↑sy)), .ref mA, .ref mR, .ref mW, .int (zI (↑tc)), .ref mC, .ref mS, .int (zI (↑rc)), .ref mL, .ref mT, .ref mH, .ref mY, .ref mE, .ref mG, .ref mB, .ref mO, .int (zI (tw))])), (mC, .inl (cI, 2608, .inl (zA co))), (mS, .inl (cI, 163, .inl (zA (eI sz))))]) (w1 := [(mH, .inl (cI, 16, .inl (zA hi3)))]) hP hD [3] [0, 1, 2] rfl rfl (by decide) (by decide) hk9 hFr ht9 hB9
  have hP := hP.sub (ws' := [(o, .inr (6, [.int (zI (↑sy)), .ref mA, .ref mR, .ref mW, .int (zI (↑tc)), .ref mC, .ref mS, .int (zI (↑rc)), .ref mL, .ref mT, .ref mH, .ref mY, .ref mE, .ref mG, .ref mB, .ref mO, .int (zI (tw))])), (mC, .inl (cI, 2608, .inl (zA co))), (mS, .inl (cI, 163, .inl (zA (eI sz)))), (mH, .inl (cI, 16, .inl (zA hi3)))]) [0, 1, 2, 3] rfl
  have hD := hD.sub (ws' := [(o, .inr (6, [.int (zI (↑sy)), .ref mA, .ref mR, .ref mW, .int (zI (↑tc)), .ref mC, .ref mS, .int (zI (↑rc)), .ref mL, .ref mT, .ref mH, .ref mY, .ref mE, .ref mG, .ref mB, .ref mO, .int (zI (tw))])), (mC, .inl (cI, 2608, .inl (zA co))), (mS, .inl (cI, 163, .inl (zA (eI sz)))), (mH, .inl (cI, 16, .inl (zA hi3)))]) [0, 1, 2, 3] (by decide) rfl
  have hF := fz_keep hF0 hFA hS
  subst hr8
  refine lv_iconst (v := zI 4) hx hb qd_M_keep_11 rfl ?_
  refine zz_icmp_le (tgt := 19) hx hb qd_M_keep_12 (by decide) (by omega) (by omega) (fun h12 => ?_) (fun h12 => ?_)
  · skip
    refine lv_aload_n hx hb qd_M_keep_19 rfl (lv_at hl 1 rfl) ?_
    refine va_get (D := (dC, dI)) (ci := 6) (v := .int (zI (↑tc))) (C := "TermOrdersModel") (T := qT_M) (N := 17) hx hb hg qi_M hown hK hP 0 rfl rfl 4 (by decide) (hg _ wd_622) (fun _ h9 => h9) rfl qd_M_keep_20 ?_
    refine lv_sipush (v := zI 160) hx hb qd_M_keep_23 (by decide) ?_
    refine zz_icmp_ne (tgt := 33) hx hb qd_M_keep_26 (by decide) (by omega) (by omega) (fun h26 => ?_) (fun h26 => ?_)
    · skip
      refine lv_iconst (v := zI 0) hx hb qd_M_keep_33 rfl ?_
      refine va_put (D := (dC, dI)) (ci := 6) (v := .int (zI (0))) (ty := .int) (C := "TermOrdersModel") (T := qT_M) (N := 17) hx hb hg qi_M qt_M qo_M qn_M hown hK hP hD hS 0 rfl rfl 16 (by decide) (hg _ wd_634) (fun _ h9 => h9) rfl (by decide +kernel) rfl rfl (Nat.le_of_ble_eq_true rfl) qd_M_keep_34 (fun H34_2 L34_2 hP hD hS => ?_)
      have hP : va_P (dC, dI) qcl [(o, .inr (6, [.int (zI (↑sy)), .ref mA, .ref mR, .ref mW, .int (zI (↑tc)), .ref mC, .ref mS, .int (zI (↑rc)), .ref mL, .ref mT, .ref mH, .ref mY, .ref mE, .ref mG, .ref mB, .ref mO, .int (zI (0))])), (mC, .inl (cI, 2608, .inl (zA co))), (mS, .inl (cI, 163, .inl (zA (eI sz)))), (mH, .inl (cI, 16, .inl (zA hi3)))] H34_2 := hP
      have hD : va_D A [(o, .inr (6, [.int (zI (↑sy)), .ref mA, .ref mR, .ref mW, .int (zI (↑tc)), .ref mC, .ref mS, .int (zI (↑rc)), .ref mL, .ref mT, .ref mH, .ref mY, .ref mE, .ref mG, .ref mB, .ref mO, .int (zI (0))])), (mC, .inl (cI, 2608, .inl (zA co))), (mS, .inl (cI, 163, .inl (zA (eI sz)))), (mH, .inl (cI, 16, .inl (zA hi3)))] := hD
      have hF := fz_keep hF0 hFA hS
      refine lv_aload_n hx hb qd_M_keep_37 rfl (lv_at hl 1 rfl) ?_
      refine va_get (D := (dC, dI)) (ci := 6) (v := .int (zI (0))) (C := "TermOrdersModel") (T := qT_M) (N := 17) hx hb hg qi_M hown hK hP 0 rfl rfl 16 (by decide) (hg _ wd_634) (fun _ h9 => h9) rfl qd_M_keep_38 ?_
      refine zz_if_eq (tgt := 46) hx hb qd_M_keep_41 (by decide) (by omega) (fun h41 => ?_) (fun h41 => ?_)
      · skip
        refine lv_iconst (v := zI 0) hx hb qd_M_keep_46 rfl ?_
        refine lv_istore_n (lv' := [(3, .int (zI (0))), (2, .int (zI (2560))), (0, .ref o), (1, .int (zI (↑n)))]) hx hb qd_M_keep_47 rfl hl (by decide) rfl (fun ls hl => ?_)
        have L48 : ∀ (d9 : Nat) (i : Nat) (cz : Nat → Int), (i ≤ n) → (∀ j, (j < 16 * tc ∨ 16 * tc + 16 ≤ j) → cz j = co j) → (∀ q, q < i → cz (16 * tc + q) = rw_ l0 q) → n - i = d9 → ∀ (H48_3 : Heap) (L48_3 : List Loc), va_P (dC, dI) qcl [(o, .inr (6, [.int (zI (↑sy)), .ref mA, .ref mR, .ref mW, .int (zI (↑tc)), .ref mC, .ref mS, .int (zI (↑rc)), .ref mL, .ref mT, .ref mH, .ref mY, .ref mE, .ref mG, .ref mB, .ref mO, .int (zI (0))])), (mC, .inl (cI, 2608, .inl (zA cz))), (mS, .inl (cI, 163, .inl (zA (eI sz)))), (mH, .inl (cI, 16, .inl (zA hi3)))] H48_3 → va_D A [(o, .inr (6, [.int (zI (↑sy)), .ref mA, .ref mR, .ref mW, .int (zI (↑tc)), .ref mC, .ref mS, .int (zI (↑rc)), .ref mL, .ref mT, .ref mH, .ref mY, .ref mE, .ref mG, .ref mB, .ref mO, .int (zI (0))])), (mC, .inl (cI, 2608, .inl (zA cz))), (mS, .inl (cI, 163, .inl (zA (eI sz)))), (mH, .inl (cI, 16, .inl (zA hi3)))] → va_S A sg.heap H48_3 L48_3 → ∀ ls : Array Slot, lv_has ls 4 [(3, .int (zI (↑i))), (2, .int (zI (2560))), (0, .ref o), (1, .int (zI (↑n)))] → W pg l eg (headSpec qw_M_keep ({ frames := 3, cells := 0, slots := 0, locals := 71 })).room sg mg ([.ref o, .int (zI (↑n))] : List Value).toArray below meth cg H48_3 L48_3 0 0 (MQ below (mwI (S := (Int) × (Nat) × (Nat → Int) × (Nat → Nat) × (Nat → Int)) (fun r uq => (4 < t 0 ∧ uq.1 = 1 ∧ uq.2.1 = tc ∧ uq.2.2.1 = co ∧ uq.2.2.2.1 = sz ∧ r = 0) ∨ (t 0 ≤ 4 ∧ tc = 160 ∧ uq.1 = 2 ∧ uq.2.1 = tc ∧ uq.2.2.1 = co ∧ uq.2.2.2.1 = sz ∧ r = 0) ∨ (t 0 ≤ 4 ∧ tc < 160 ∧ uq.1 = 0 ∧ uq.2.1 = tc + 1 ∧ r = ↑tc ∧ uq.2.2.2.1 = un sz tc n ∧ (∀ j, (j < 16 * tc ∨ 16 * tc + 16 ≤ j) → uq.2.2.1 j = co j) ∧ ∀ q, q < n → uq.2.2.1 (16 * tc + q) = rw_ l0 q)) (fun uq tq => mwB (dC, dI) qcl (qty cI cZ cT cJ) A [(o, .inr (6, [.int (zI (↑sy)), .ref mA, .ref mR, .ref mW, .int (zI (↑uq.2.1)), .ref mC, .ref mS, .int (zI (↑rc)), .ref mL, .ref mT, .ref mH, .ref mY, .ref mE, .ref mG, .ref mB, .ref mO, .int (zI (uq.1))])), (mC, .inl (cI, 2608, .inl (zA uq.2.2.1))), (mS, .inl (cI, 163, .inl (zA (eI uq.2.2.2.1)))), (mH, .inl (cI, 16, .inl (zA uq.2.2.2.2)))] tq) A) ([.ref o, .int (zI (↑n))] : List Value).toArray sg 0 0 A) (F0 mg 48 ls []) := by
          intro d9
          induction d9 using Nat.strongRecOn with
          | _ d9 ih48 =>
            intro i cz hi8 hz hz2 hd9 H48_3 L48_3 hP hD hS ls hl
            have hF := fz_keep hF0 hFA hS
            refine lv_iload_n hx hb qd_M_keep_48 rfl (lv_at hl 0 rfl) ?_
            refine lv_iload_n hx hb qd_M_keep_49 rfl (lv_at hl 3 rfl) ?_
            refine zz_icmp_ge (tgt := 81) hx hb qd_M_keep_50 (by decide) (by omega) (by omega) (fun h50 => ?_) (fun h50 => ?_)
            · skip
              refine lv_aload_n hx hb qd_M_keep_81 rfl (lv_at hl 2 rfl) ?_
              refine va_get (D := (dC, dI)) (ci := 6) (v := .ref mS) (C := "TermOrdersModel") (T := qT_M) (N := 17) hx hb hg qi_M hown hK hP 0 rfl rfl 6 (by decide) (hg _ wd_624) (fun _ h9 => h9) rfl qd_M_keep_82 ?_
              refine lv_aload_n hx hb qd_M_keep_85 rfl (lv_at hl 2 rfl) ?_
              refine va_get (D := (dC, dI)) (ci := 6) (v := .int (zI (↑tc))) (C := "TermOrdersModel") (T := qT_M) (N := 17) hx hb hg qi_M hown hK hP 0 rfl rfl 4 (by decide) (hg _ wd_622) (fun _ h9 => h9) rfl qd_M_keep_86 ?_
              refine lv_iload_n hx hb qd_M_keep_89 rfl (lv_at hl 3 rfl) ?_
              refine zz_east hx hb hK hP hD hS 2 0 rfl rfl tc rfl (by omega) (by omega) n rfl qd_M_keep_90 (fun H90_4 L90_4 hP hD hS => ?_)
              have hP : va_P (dC, dI) qcl [(o, .inr (6, [.int (zI (↑sy)), .ref mA, .ref mR, .ref mW, .int (zI (↑tc)), .ref mC, .ref mS, .int (zI (↑rc)), .ref mL, .ref mT, .ref mH, .ref mY, .ref mE, .ref mG, .ref mB, .ref mO, .int (zI (0))])), (mC, .inl (cI, 2608, .inl (zA cz))), (mS, .inl (cI, 163, .inl (zA (eI (un sz tc n))))), (mH, .inl (cI, 16, .inl (zA hi3)))] H90_4 := hP
              have hD : va_D A [(o, .inr (6, [.int (zI (↑sy)), .ref mA, .ref mR, .ref mW, .int (zI (↑tc)), .ref mC, .ref mS, .int (zI (↑rc)), .ref mL, .ref mT, .ref mH, .ref mY, .ref mE, .ref mG, .ref mB, .ref mO, .int (zI (0))])), (mC, .inl (cI, 2608, .inl (zA cz))), (mS, .inl (cI, 163, .inl (zA (eI (un sz tc n))))), (mH, .inl (cI, 16, .inl (zA hi3)))] := hD
              have hF := fz_keep hF0 hFA hS
              refine lv_aload_n hx hb qd_M_keep_91 rfl (lv_at hl 2 rfl) ?_
              refine lv_dup hx hb qd_M_keep_92 rfl ?_
              refine va_get (D := (dC, dI)) (ci := 6) (v := .int (zI (↑tc))) (C := "TermOrdersModel") (T := qT_M) (N := 17) hx hb hg qi_M hown hK hP 0 rfl rfl 4 (by decide) (hg _ wd_622) (fun _ h9 => h9) rfl qd_M_keep_93 ?_
              refine lv_iconst (v := zI 1) hx hb qd_M_keep_96 rfl ?_
              refine zz_iadd hx hb (↑(tc + 1)) (by omega) qd_M_keep_97 ?_
              refine va_put (D := (dC, dI)) (ci := 6) (v := .int (zI (↑(tc + 1)))) (ty := .int) (C := "TermOrdersModel") (T := qT_M) (N := 17) hx hb hg qi_M qt_M qo_M qn_M hown hK hP hD hS 0 rfl rfl 4 (by decide) (hg _ wd_622) (fun _ h9 => h9) rfl (by decide +kernel) rfl rfl (Nat.le_of_ble_eq_true rfl) qd_M_keep_98 (fun H98_5 L98_5 hP hD hS => ?_)
              have hP : va_P (dC, dI) qcl [(o, .inr (6, [.int (zI (↑sy)), .ref mA, .ref mR, .ref mW, .int (zI (↑(tc + 1))), .ref mC, .ref mS, .int (zI (↑rc)), .ref mL, .ref mT, .ref mH, .ref mY, .ref mE, .ref mG, .ref mB, .ref mO, .int (zI (0))])), (mC, .inl (cI, 2608, .inl (zA cz))), (mS, .inl (cI, 163, .inl (zA (eI (un sz tc n))))), (mH, .inl (cI, 16, .inl (zA hi3)))] H98_5 := hP
              have hD : va_D A [(o, .inr (6, [.int (zI (↑sy)), .ref mA, .ref mR, .ref mW, .int (zI (↑(tc + 1))), .ref mC, .ref mS, .int (zI (↑rc)), .ref mL, .ref mT, .ref mH, .ref mY, .ref mE, .ref mG, .ref mB, .ref mO, .int (zI (0))])), (mC, .inl (cI, 2608, .inl (zA cz))), (mS, .inl (cI, 163, .inl (zA (eI (un sz tc n))))), (mH, .inl (cI, 16, .inl (zA hi3)))] := hD
              have hF := fz_keep hF0 hFA hS
              refine lv_aload_n hx hb qd_M_keep_101 rfl (lv_at hl 2 rfl) ?_
              refine va_get (D := (dC, dI)) (ci := 6) (v := .int (zI (↑(tc + 1)))) (C := "TermOrdersModel") (T := qT_M) (N := 17) hx hb hg qi_M hown hK hP 0 rfl rfl 4 (by decide) (hg _ wd_622) (fun _ h9 => h9) rfl qd_M_keep_102 ?_
              refine lv_iconst (v := zI 1) hx hb qd_M_keep_105 rfl ?_
              refine zz_isub hx hb (↑tc) (by omega) qd_M_keep_106 ?_
              exact W.iret (v := zI (↑tc)) hx hb hr (fun t9 ht9 hW9 => ⟨⟨↑tc, (0, tc + 1, cz, un sz tc n, hi3), rfl, (Or.inr (Or.inr ⟨by omega, by omega, rfl, rfl, rfl, rfl, hz, fun q hq => hz2 q (by omega)⟩)), mwB_i (by rw [ht9]; exact hP) (va_K.moved hW9.alike hK) hD⟩, hS.F ht9⟩) hS.2.2 qd_M_keep_107
            · skip
              have hc1 := hsc i (by omega)
              have hc2 := hz (2560 + i) (by omega)
              refine lv_aload_n hx hb qd_M_keep_53 rfl (lv_at hl 2 rfl) ?_
              refine va_get (D := (dC, dI)) (ci := 6) (v := .ref mC) (C := "TermOrdersModel") (T := qT_M) (N := 17) hx hb hg qi_M hown hK hP 0 rfl rfl 5 (by decide) (hg _ wd_623) (fun _ h9 => h9) rfl qd_M_keep_54 ?_
              refine lv_bipush (v := zI 16) hx hb qd_M_keep_57 (by decide) ?_
              refine lv_aload_n hx hb qd_M_keep_59 rfl (lv_at hl 2 rfl) ?_
              refine va_get (D := (dC, dI)) (ci := 6) (v := .int (zI (↑tc))) (C := "TermOrdersModel") (T := qT_M) (N := 17) hx hb hg qi_M hown hK hP 0 rfl rfl 4 (by decide) (hg _ wd_622) (fun _ h9 => h9) rfl qd_M_keep_60 ?_
              refine zz_imul hx hb (16 * (↑tc)) rfl qd_M_keep_63 ?_
              refine lv_iload_n hx hb qd_M_keep_64 rfl (lv_at hl 0 rfl) ?_
              refine zz_iadd hx hb ((16 * (↑tc)) + (↑i)) rfl qd_M_keep_65 ?_
              refine lv_aload_n hx hb qd_M_keep_66 rfl (lv_at hl 2 rfl) ?_
              refine va_get (D := (dC, dI)) (ci := 6) (v := .ref mC) (C := "TermOrdersModel") (T := qT_M) (N := 17) hx hb hg qi_M hown hK hP 0 rfl rfl 5 (by decide) (hg _ wd_623) (fun _ h9 => h9) rfl qd_M_keep_67 ?_
              refine lv_iload_n hx hb qd_M_keep_70 rfl (lv_at hl 1 rfl) ?_
              refine lv_iload_n hx hb qd_M_keep_71 rfl (lv_at hl 0 rfl) ?_
              refine zz_iadd hx hb (2560 + (↑i)) rfl qd_M_keep_72 ?_
              refine zz_iald hx hb hK hP 1 0 rfl rfl (2560 + i) (by omega) (by omega) (by omega) qd_M_keep_73 ?_
              refine zz_top (b := rw_ l0 i) (hc2.trans hc1) ?_
              refine zz_iast hx hb hK hP hD hS 1 0 rfl rfl (16 * tc + i) (by omega) (by omega) (by omega) qd_M_keep_74 (fun H74_6 L74_6 hP hD hS => ?_)
              have hP : va_P (dC, dI) qcl [(o, .inr (6, [.int (zI (↑sy)), .ref mA, .ref mR, .ref mW, .int (zI (↑tc)), .ref mC, .ref mS, .int (zI (↑rc)), .ref mL, .ref mT, .ref mH, .ref mY, .ref mE, .ref mG, .ref mB, .ref mO, .int (zI (0))])), (mC, .inl (cI, 2608, .inl (zA (uz cz (16 * tc + i) (rw_ l0 i))))), (mS, .inl (cI, 163, .inl (zA (eI sz)))), (mH, .inl (cI, 16, .inl (zA hi3)))] H74_6 := hP
              have hD : va_D A [(o, .inr (6, [.int (zI (↑sy)), .ref mA, .ref mR, .ref mW, .int (zI (↑tc)), .ref mC, .ref mS, .int (zI (↑rc)), .ref mL, .ref mT, .ref mH, .ref mY, .ref mE, .ref mG, .ref mB, .ref mO, .int (zI (0))])), (mC, .inl (cI, 2608, .inl (zA (uz cz (16 * tc + i) (rw_ l0 i))))), (mS, .inl (cI, 163, .inl (zA (eI sz)))), (mH, .inl (cI, 16, .inl (zA hi3)))] := hD
              have hF := fz_keep hF0 hFA hS
              refine lv_iinc (k := 0) (lv' := [(3, .int (zI (↑(i + 1)))), (2, .int (zI (2560))), (0, .ref o), (1, .int (zI (↑n)))]) hx hb qd_M_keep_75 hl rfl (zI_inc (v := ↑(i + 1)) (by omega)) (by decide) rfl (fun ls hl => ?_)
              refine lv_goto (tgt := 48) hx hb qd_M_keep_78 (by decide) ?_
              exact ih48 _ (by omega) (i + 1) (uz cz (16 * tc + i) (rw_ l0 i)) (by omega) (fun j hj => by rw [uz_n _ _ (by omega)]; exact hz j hj) (fun q hq => if h8 : q = i then (by rw [h8, uz_s]) else (by rw [uz_n _ _ (by omega)]; exact hz2 q (by omega))) rfl H74_6 L74_6 hP hD hS ls hl
        exact L48 _ 0 co (by omega) (fun j hj => rfl) (fun q hq => by omega) rfl H34_2 L34_2 hP hD hS ls hl
      · skip
        exfalso
        omega
    · skip
      refine lv_iconst (v := zI 2) hx hb qd_M_keep_29 rfl ?_
      refine lv_goto (tgt := 34) hx hb qd_M_keep_30 (by decide) ?_
      refine va_put (D := (dC, dI)) (ci := 6) (v := .int (zI (2))) (ty := .int) (C := "TermOrdersModel") (T := qT_M) (N := 17) hx hb hg qi_M qt_M qo_M qn_M hown hK hP hD hS 0 rfl rfl 16 (by decide) (hg _ wd_634) (fun _ h9 => h9) rfl (by decide +kernel) rfl rfl (Nat.le_of_ble_eq_true rfl) qd_M_keep_34 (fun H34_7 L34_7 hP hD hS => ?_)
      have hP : va_P (dC, dI) qcl [(o, .inr (6, [.int (zI (↑sy)), .ref mA, .ref mR, .ref mW, .int (zI (↑tc)), .ref mC, .ref mS, .int (zI (↑rc)), .ref mL, .ref mT, .ref mH, .ref mY, .ref mE, .ref mG, .ref mB, .ref mO, .int (zI (2))])), (mC, .inl (cI, 2608, .inl (zA co))), (mS, .inl (cI, 163, .inl (zA (eI sz)))), (mH, .inl (cI, 16, .inl (zA hi3)))] H34_7 := hP
      have hD : va_D A [(o, .inr (6, [.int (zI (↑sy)), .ref mA, .ref mR, .ref mW, .int (zI (↑tc)), .ref mC, .ref mS, .int (zI (↑rc)), .ref mL, .ref mT, .ref mH, .ref mY, .ref mE, .ref mG, .ref mB, .ref mO, .int (zI (2))])), (mC, .inl (cI, 2608, .inl (zA co))), (mS, .inl (cI, 163, .inl (zA (eI sz)))), (mH, .inl (cI, 16, .inl (zA hi3)))] := hD
      have hF := fz_keep hF0 hFA hS
      refine lv_aload_n hx hb qd_M_keep_37 rfl (lv_at hl 1 rfl) ?_
      refine va_get (D := (dC, dI)) (ci := 6) (v := .int (zI (2))) (C := "TermOrdersModel") (T := qT_M) (N := 17) hx hb hg qi_M hown hK hP 0 rfl rfl 16 (by decide) (hg _ wd_634) (fun _ h9 => h9) rfl qd_M_keep_38 ?_
      refine zz_if_eq (tgt := 46) hx hb qd_M_keep_41 (by decide) (by omega) (fun h41 => ?_) (fun h41 => ?_)
      · skip
        exfalso
        omega
      · skip
        refine lv_iconst (v := zI 0) hx hb qd_M_keep_44 rfl ?_
        exact W.iret (v := zI 0) hx hb hr (fun t9 ht9 hW9 => ⟨⟨0, (2, tc, co, sz, hi3), rfl, (Or.inr (Or.inl ⟨by omega, by omega, rfl, rfl, rfl, rfl, rfl⟩)), mwB_i (by rw [ht9]; exact hP) (va_K.moved hW9.alike hK) hD⟩, hS.F ht9⟩) hS.2.2 qd_M_keep_45
  · skip
    refine lv_iconst (v := zI 1) hx hb qd_M_keep_15 rfl ?_
    refine lv_goto (tgt := 34) hx hb qd_M_keep_16 (by decide) ?_
    refine va_put (D := (dC, dI)) (ci := 6) (v := .int (zI (1))) (ty := .int) (C := "TermOrdersModel") (T := qT_M) (N := 17) hx hb hg qi_M qt_M qo_M qn_M hown hK hP hD hS 0 rfl rfl 16 (by decide) (hg _ wd_634) (fun _ h9 => h9) rfl (by decide +kernel) rfl rfl (Nat.le_of_ble_eq_true rfl) qd_M_keep_34 (fun H34_8 L34_8 hP hD hS => ?_)
    have hP : va_P (dC, dI) qcl [(o, .inr (6, [.int (zI (↑sy)), .ref mA, .ref mR, .ref mW, .int (zI (↑tc)), .ref mC, .ref mS, .int (zI (↑rc)), .ref mL, .ref mT, .ref mH, .ref mY, .ref mE, .ref mG, .ref mB, .ref mO, .int (zI (1))])), (mC, .inl (cI, 2608, .inl (zA co))), (mS, .inl (cI, 163, .inl (zA (eI sz)))), (mH, .inl (cI, 16, .inl (zA hi3)))] H34_8 := hP
    have hD : va_D A [(o, .inr (6, [.int (zI (↑sy)), .ref mA, .ref mR, .ref mW, .int (zI (↑tc)), .ref mC, .ref mS, .int (zI (↑rc)), .ref mL, .ref mT, .ref mH, .ref mY, .ref mE, .ref mG, .ref mB, .ref mO, .int (zI (1))])), (mC, .inl (cI, 2608, .inl (zA co))), (mS, .inl (cI, 163, .inl (zA (eI sz)))), (mH, .inl (cI, 16, .inl (zA hi3)))] := hD
    have hF := fz_keep hF0 hFA hS
    refine lv_aload_n hx hb qd_M_keep_37 rfl (lv_at hl 1 rfl) ?_
    refine va_get (D := (dC, dI)) (ci := 6) (v := .int (zI (1))) (C := "TermOrdersModel") (T := qT_M) (N := 17) hx hb hg qi_M hown hK hP 0 rfl rfl 16 (by decide) (hg _ wd_634) (fun _ h9 => h9) rfl qd_M_keep_38 ?_
    refine zz_if_eq (tgt := 46) hx hb qd_M_keep_41 (by decide) (by omega) (fun h41 => ?_) (fun h41 => ?_)
    · skip
      exfalso
      omega
    · skip
      refine lv_iconst (v := zI 0) hx hb qd_M_keep_44 rfl ?_
      exact W.iret (v := zI 0) hx hb hr (fun t9 ht9 hW9 => ⟨⟨0, (1, tc, co, sz, hi3), rfl, (Or.inl ⟨by omega, rfl, rfl, rfl, rfl, rfl⟩), mwB_i (by rw [ht9]; exact hP) (va_K.moved hW9.alike hK) hD⟩, hS.F ht9⟩) hS.2.2 qd_M_keep_45
