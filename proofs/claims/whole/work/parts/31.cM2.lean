theorem io_uq {P : Nat → Prop} {k k1 : Nat} (hn : ¬ P k) (hz : ∀ q, q < k → P q) (hn1 : ¬ P k1) (hz1 : ∀ q, q < k1 → P q) : k1 = k := by
  by_cases a : k < k1
  · exact absurd (hz1 k a) hn
  · by_cases b : k1 < k
    · exact absurd (hz k1 b) hn1
    · omega
set_option maxHeartbeats 4000000 in
set_option maxRecDepth 100000 in
theorem c_M_inOrder (l : Launch) (dC : Nat → ClassId) (dI : Nat → Nat → Nat) (cI cZ cT cJ : ClassId) (o mA mR mW mC mS mL mT mH mY mE mG mB mO sy tc rc : Nat) (tw : Int) (ar rk wt co : Nat → Int) (sz lf rg : Nat → Nat) (hi hv : Nat → Int) (ef : Nat → Nat) (gr : Nat → Bool) (bd ol : Nat → Int) (b n : Nat) (th tm : Nat → Int) (te : Nat → Nat) (b2 n2 : Nat) (th2 tm2 : Nat → Int) (te2 : Nat → Nat) (i j : Nat) (har : ∀ q, q < 5 → 0 ≤ ar q ∧ ar q ≤ 3) (h16 : n ≤ 16) (hb0 : b + 16 ≤ 2608) (hco : ∀ q, q < n → co (b + q) = th q) (htm : ∀ q, q < n → tm q = mny ar (th q)) (hh : ∀ q, q < n → -4 ≤ th q ∧ th q ≤ 4) (we : wfE tm n te) (h162 : n2 ≤ 16) (hb02 : b2 + 16 ≤ 2608) (hco2 : ∀ q, q < n2 → co (b2 + q) = th2 q) (htm2 : ∀ q, q < n2 → tm2 q = mny ar (th2 q)) (hh2 : ∀ q, q < n2 → -4 ≤ th2 q ∧ th2 q ≤ 4) (we2 : wfE tm2 n2 te2) (hi9 : i < n) (hj9 : j < n2) (hef : ∀ q, q < n → ef q = te q) (hef2 : ∀ q, q < n2 → ef (16 + q) = te2 q) (heqh : th i = th2 j) : Met l qy_M_inOrder qw_M_inOrder ({ frames := 3, cells := 0, slots := 0, locals := 71 }) (rdP (dC, dI) qcl (qty cI cZ cT cJ) nwL [(o, .inr (6, [.int (zI (↑sy)), .ref mA, .ref mR, .ref mW, .int (zI (↑tc)), .ref mC, .ref mS, .int (zI (↑rc)), .ref mL, .ref mT, .ref mH, .ref mY, .ref mE, .ref mG, .ref mB, .ref mO, .int (zI (tw))])), (mA, .inl (cI, 5, .inl (zA ar))), (mC, .inl (cI, 2608, .inl (zA co))), (mE, .inl (cI, 32, .inl (zA (eI ef)))), (mG, .inl (cZ, 256, .inl (zB gr)))] [.ref o, .int (zI (↑b)), .int (zI (↑i)), .int (zI (↑b2)), .int (zI (↑j))]) (rdB (ioP (tb gr) th te (tm i) i th2 te2 j)) 0 0 (fun _ => False) := by
  refine Met.ofW (cc := qc_M_inOrder) (maxL := 8) (ret := (Option.some Jvm.ClassFile.FieldType.boolean)) (by decide) rfl ?_
  intro pg eg sg mg args below meth cg s₁ B hml hv
  obtain ⟨rfl, hF, hK, hN⟩ := hv
  have hx := B.exec
  have hb := B.bytes
  have hr := B.returns
  have hts := atoms_spec (ws := qw_M_inOrder) B.pre
  have hg : ∀ w ∈ gw, w.before _ sg = true := fun w h => hts w (List.mem_cons_of_mem _ h)
  have hown : sg.vm.findClass "TermOrdersModel" = some mg.cls := findClass_of_methodNamed B.named
  have hlocks := B.notSynchronized
  have hl := lv_entry ([.ref o, .int (zI (↑b)), .int (zI (↑i)), .int (zI (↑b2)), .int (zI (↑j))]) (n := 8) (Nat.le_of_ble_eq_true rfl)
  rw [lg_entry_eq]
  generalize (lg_sl ([.ref o, .int (zI (↑b)), .int (zI (↑i)), .int (zI (↑b2)), .int (zI (↑j))]) ++ List.replicate (8 - (lg_sl ([.ref o, .int (zI (↑b)), .int (zI (↑i)), .int (zI (↑b2)), .int (zI (↑j))])).length) Slot.unset).toArray = ls at hl ⊢
  have hl : lv_has ls 8 [(0, .ref o), (1, .int (zI (↑b))), (2, .int (zI (↑i))), (3, .int (zI (↑b2))), (4, .int (zI (↑j)))] := hl
  have hmq := mq_b har hh htm
  have hmi := hmq i hi9
  have hte : tm2 j = tm i := by rw [htm2 j hj9, htm i hi9, heqh]
  have hc9 := hco i hi9
  have hti := htm i hi9
  have hh9 := hh i hi9
  refine lv_iload_n hx hb qd_M_inOrder_0 rfl (lv_at hl 2 rfl) ?_
  refine lv_iconst (v := zI 1) hx hb qd_M_inOrder_1 rfl ?_
  refine zz_iadd hx hb (↑(prt te i 0)) rfl qd_M_inOrder_2 ?_
  refine lv_istore (lv' := [(5, .int (zI (↑(prt te i 0)))), (0, .ref o), (1, .int (zI (↑b))), (2, .int (zI (↑i))), (3, .int (zI (↑b2))), (4, .int (zI (↑j)))]) hx hb qd_M_inOrder_3 hl (by decide) rfl (fun ls hl => ?_)
  refine lv_iload hx hb qd_M_inOrder_5 (lv_at hl 5 rfl) ?_
  refine lv_iconst (v := zI 1) hx hb qd_M_inOrder_7 rfl ?_
  refine zz_iadd hx hb (↑(prt te2 j 0)) rfl qd_M_inOrder_8 ?_
  refine lv_istore (lv' := [(6, .int (zI (↑(prt te2 j 0)))), (5, .int (zI (↑(prt te i 0)))), (0, .ref o), (1, .int (zI (↑b))), (2, .int (zI (↑i))), (3, .int (zI (↑b2))), (4, .int (zI (↑j)))]) hx hb qd_M_inOrder_9 hl (by decide) rfl (fun ls hl => ?_)
  refine lv_iconst (v := zI 0) hx hb qd_M_inOrder_11 rfl ?_
  refine lv_istore (lv' := [(7, .int (zI (0))), (6, .int (zI (↑(prt te2 j 0)))), (5, .int (zI (↑(prt te i 0)))), (0, .ref o), (1, .int (zI (↑b))), (2, .int (zI (↑i))), (3, .int (zI (↑b2))), (4, .int (zI (↑j)))]) hx hb qd_M_inOrder_12 hl (by decide) rfl (fun ls hl => ?_)
  have L14 : ∀ (d9 : Nat) (k : Nat), ((k : Int) ≤ tm i) → (∀ q, q < k → smP th te (prt te i q) th2 te2 (prt te2 j q)) → (tm i).toNat - k = d9 → ∀ ls : Array Slot, lv_has ls 8 [(7, .int (zI (↑k))), (6, .int (zI (↑(prt te2 j k)))), (5, .int (zI (↑(prt te i k)))), (0, .ref o), (1, .int (zI (↑b))), (2, .int (zI (↑i))), (3, .int (zI (↑b2))), (4, .int (zI (↑j)))] → W pg l eg (headSpec qw_M_inOrder ({ frames := 3, cells := 0, slots := 0, locals := 71 })).room sg mg ([.ref o, .int (zI (↑b)), .int (zI (↑i)), .int (zI (↑b2)), .int (zI (↑j))] : List Value).toArray below meth cg sg.heap [] 0 0 (MQ below (rdB (ioP (tb gr) th te (tm i) i th2 te2 j)) ([.ref o, .int (zI (↑b)), .int (zI (↑i)), .int (zI (↑b2)), .int (zI (↑j))] : List Value).toArray sg 0 0 (fun _ => False)) (F0 mg 14 ls []) := by
    intro d9
    induction d9 using Nat.strongRecOn with
    | _ d9 ih14 =>
      intro k hk hz hd9 ls hl
      refine lv_iload hx hb qd_M_inOrder_14 (lv_at hl 0 rfl) ?_
      refine lv_aload_n hx hb qd_M_inOrder_16 rfl (lv_at hl 3 rfl) ?_
      refine lv_aload_n hx hb qd_M_inOrder_17 rfl (lv_at hl 3 rfl) ?_
      refine va_get (D := (dC, dI)) (ci := 6) (v := .ref mC) (C := "TermOrdersModel") (T := qT_M) (N := 17) hx hb hg qi_M hown hK hF 0 rfl rfl 5 (by decide) (hg _ wd_623) (fun _ h9 => h9) rfl qd_M_inOrder_18 ?_
      refine lv_iload_n hx hb qd_M_inOrder_21 rfl (lv_at hl 4 rfl) ?_
      refine lv_iload_n hx hb qd_M_inOrder_22 rfl (lv_at hl 5 rfl) ?_
      refine zz_iadd hx hb ((↑b) + (↑i)) rfl qd_M_inOrder_23 ?_
      refine zz_iald hx hb hK hF 2 0 rfl rfl (b + i) (by omega) (by omega) (by omega) qd_M_inOrder_24 ?_
      refine zz_top (b := th i) hc9 ?_
      refine rd_callI (W.runV (As := [.int (zI ((th i)))]) (rest := [.int (zI (↑k))]) ⟨hx, hb, hml, hown, hg⟩ (c_M_many l dC dI cI cZ cT cJ o mA mR mW mC mS mL mT mH mY mE mG mB mO sy tc rc tw ar rk wt co sz lf rg hi hv ef gr bd ol (th i) (by omega)) ⟨callB_of 1 hg (gw_ok (fun _ h => h) wd_709) rfl rfl rfl (hg _ wd_6) (hg _ wd_706) (by decide +kernel) ⟨Nat.le_of_ble_eq_true rfl, Nat.le_of_ble_eq_true rfl⟩, hg _ wd_708, hg _ se_M_many⟩ (rd_preV (va_recv (q0 := 0) hK hF rfl rfl) (pw_c (q := (o, .inr (6, [.int (zI (↑sy)), .ref mA, .ref mR, .ref mW, .int (zI (↑tc)), .ref mC, .ref mS, .int (zI (↑rc)), .ref mL, .ref mT, .ref mH, .ref mY, .ref mE, .ref mG, .ref mB, .ref mO, .int (zI (tw))]))) hF 0 rfl (pw_c (q := (mA, .inl (cI, 5, .inl (zA ar)))) hF 1 rfl (pw_nil))) hK hN) rfl rfl hl.1 rfl (lv_room (Nat.le_of_ble_eq_true rfl)) qd_M_inOrder_25 ⟨Nat.le_of_ble_eq_true rfl, Nat.le_of_ble_eq_true rfl⟩) (fun r25 hr25 => ?_)
      have e25 : r25 = mny ar (th i) := hr25
      subst e25
      refine zz_icmp_ge (tgt := 85) hx hb qd_M_inOrder_28 (by decide) (by omega) (by omega) (fun h28 => ?_) (fun h28 => ?_)
      · skip
        refine lv_iconst (v := zI 0) hx hb qd_M_inOrder_85 rfl ?_
        exact W.zret (v := zI 0) (ty := .boolean) hx hb hr rfl (fun t9 ht9 _ => ⟨false, rfl, bF ((fun hs => by obtain ⟨k1, a1, a2, a3, a4⟩ := hs; exact a3 (hz k1 (by omega)))), ht9⟩) t_nil qd_M_inOrder_86
      · skip
        have hp1 := prt_lt we hi9 (k := k) (by omega)
        have hp2 := prt_lt we2 hj9 (k := k) (by omega)
        have hf1 := hef (prt te i k) (by omega)
        have hf2 := hef2 (prt te2 j k) (by omega)
        have hw1 := (we (prt te i k) (by omega)).2.1
        have hw2 := (we2 (prt te2 j k) (by omega)).2.1
        refine lv_aload_n hx hb qd_M_inOrder_31 rfl (lv_at hl 3 rfl) ?_
        refine lv_iload_n hx hb qd_M_inOrder_32 rfl (lv_at hl 4 rfl) ?_
        refine lv_iload hx hb qd_M_inOrder_33 (lv_at hl 2 rfl) ?_
        refine lv_iload_n hx hb qd_M_inOrder_35 rfl (lv_at hl 6 rfl) ?_
        refine lv_iload hx hb qd_M_inOrder_36 (lv_at hl 1 rfl) ?_
        refine rd_callB (W.runV (As := [.int (zI (↑b)), .int (zI (↑(prt te i k))), .int (zI (↑b2)), .int (zI (↑(prt te2 j k)))]) (rest := []) ⟨hx, hb, hml, hown, hg⟩ (c_M_alike l dC dI cI cZ cT cJ o mA mR mW mC mS mL mT mH mY mE mG mB mO sy tc rc tw ar rk wt co sz lf rg hi hv ef gr bd ol b n th tm te b2 n2 th2 tm2 te2 (prt te i k) (prt te2 j k) har h16 hb0 hco htm hh we h162 hb02 hco2 htm2 hh2 we2 (by omega) (by omega)) ⟨callB_of 4 hg (gw_ok (fun _ h => h) wd_749) rfl rfl rfl (hg _ wd_6) (hg _ wd_746) (by decide +kernel) ⟨Nat.le_of_ble_eq_true rfl, Nat.le_of_ble_eq_true rfl⟩, hg _ wd_748, hg _ se_M_alike⟩ (rd_preV (va_recv (q0 := 0) hK hF rfl rfl) (pw_c (q := (o, .inr (6, [.int (zI (↑sy)), .ref mA, .ref mR, .ref mW, .int (zI (↑tc)), .ref mC, .ref mS, .int (zI (↑rc)), .ref mL, .ref mT, .ref mH, .ref mY, .ref mE, .ref mG, .ref mB, .ref mO, .int (zI (tw))]))) hF 0 rfl (pw_c (q := (mA, .inl (cI, 5, .inl (zA ar)))) hF 1 rfl (pw_c (q := (mC, .inl (cI, 2608, .inl (zA co)))) hF 2 rfl (pw_nil)))) hK hN) rfl rfl hl.1 rfl (lv_room (Nat.le_of_ble_eq_true rfl)) qd_M_inOrder_38 ⟨Nat.le_of_ble_eq_true rfl, Nat.le_of_ble_eq_true rfl⟩) (fun r38 hr38 => ?_)
        refine zz_ifneB (tgt := 58) hx hb qd_M_inOrder_41 (by decide) (fun h41 => ?_) (fun h41 => ?_)
        · skip
          refine lv_aload_n hx hb qd_M_inOrder_58 rfl (lv_at hl 3 rfl) ?_
          refine va_get (D := (dC, dI)) (ci := 6) (v := .ref mE) (C := "TermOrdersModel") (T := qT_M) (N := 17) hx hb hg qi_M hown hK hF 0 rfl rfl 12 (by decide) (hg _ wd_630) (fun _ h9 => h9) rfl qd_M_inOrder_59 ?_
          refine lv_iload hx hb qd_M_inOrder_62 (lv_at hl 2 rfl) ?_
          refine zz_eald hx hb hK hF 3 0 rfl rfl (prt te i k) rfl (by omega) (by omega) qd_M_inOrder_64 ?_
          refine zz_top (b := ↑(prt te i (k + 1))) (by rw [hf1]; rfl) ?_
          refine lv_istore (lv' := [(5, .int (zI (↑(prt te i (k + 1))))), (7, .int (zI (↑k))), (6, .int (zI (↑(prt te2 j k)))), (0, .ref o), (1, .int (zI (↑b))), (2, .int (zI (↑i))), (3, .int (zI (↑b2))), (4, .int (zI (↑j)))]) hx hb qd_M_inOrder_65 hl (by decide) rfl (fun ls hl => ?_)
          refine lv_aload_n hx hb qd_M_inOrder_67 rfl (lv_at hl 3 rfl) ?_
          refine va_get (D := (dC, dI)) (ci := 6) (v := .ref mE) (C := "TermOrdersModel") (T := qT_M) (N := 17) hx hb hg qi_M hown hK hF 0 rfl rfl 12 (by decide) (hg _ wd_630) (fun _ h9 => h9) rfl qd_M_inOrder_68 ?_
          refine lv_bipush (v := zI 16) hx hb qd_M_inOrder_71 (by decide) ?_
          refine lv_iload hx hb qd_M_inOrder_73 (lv_at hl 2 rfl) ?_
          refine zz_iadd hx hb (16 + (↑(prt te2 j k))) rfl qd_M_inOrder_75 ?_
          refine zz_eald hx hb hK hF 3 0 rfl rfl (16 + prt te2 j k) (by omega) (by omega) (by omega) qd_M_inOrder_76 ?_
          refine zz_top (b := ↑(prt te2 j (k + 1))) (by rw [hf2]; rfl) ?_
          refine lv_istore (lv' := [(6, .int (zI (↑(prt te2 j (k + 1))))), (5, .int (zI (↑(prt te i (k + 1))))), (7, .int (zI (↑k))), (0, .ref o), (1, .int (zI (↑b))), (2, .int (zI (↑i))), (3, .int (zI (↑b2))), (4, .int (zI (↑j)))]) hx hb qd_M_inOrder_77 hl (by decide) rfl (fun ls hl => ?_)
          refine lv_iinc (k := 2) (lv' := [(7, .int (zI (↑(k + 1)))), (6, .int (zI (↑(prt te2 j (k + 1))))), (5, .int (zI (↑(prt te i (k + 1))))), (0, .ref o), (1, .int (zI (↑b))), (2, .int (zI (↑i))), (3, .int (zI (↑b2))), (4, .int (zI (↑j)))]) hx hb qd_M_inOrder_79 hl rfl (zI_inc (v := ↑(k + 1)) (by omega)) (by decide) rfl (fun ls hl => ?_)
          refine lv_goto (tgt := 14) hx hb qd_M_inOrder_82 (by decide) ?_
          exact ih14 _ (by omega) (k + 1) (by omega) (fun q hq => if hqk : q < k then hz q hqk else (by rw [show q = k by omega]; exact hr38.mp h41)) rfl ls hl
        · skip
          refine lv_aload_n hx hb qd_M_inOrder_44 rfl (lv_at hl 3 rfl) ?_
          refine va_get (D := (dC, dI)) (ci := 6) (v := .ref mG) (C := "TermOrdersModel") (T := qT_M) (N := 17) hx hb hg qi_M hown hK hF 0 rfl rfl 13 (by decide) (hg _ wd_631) (fun _ h9 => h9) rfl qd_M_inOrder_45 ?_
          refine lv_bipush (v := zI 16) hx hb qd_M_inOrder_48 (by decide) ?_
          refine lv_iload hx hb qd_M_inOrder_50 (lv_at hl 2 rfl) ?_
          refine zz_imul hx hb (16 * (↑(prt te i k))) rfl qd_M_inOrder_52 ?_
          refine lv_iload hx hb qd_M_inOrder_53 (lv_at hl 1 rfl) ?_
          refine zz_iadd hx hb ((16 * (↑(prt te i k))) + (↑(prt te2 j k))) rfl qd_M_inOrder_55 ?_
          refine zz_zald hx hb hK hF 4 1 rfl rfl (16 * prt te i k + prt te2 j k) (by omega) (by omega) (by omega) qd_M_inOrder_56 ?_
          exact W.zret (v := zI (bI (gr (16 * prt te i k + prt te2 j k)))) (ty := .boolean) hx hb hr (bI_n _) (fun t9 ht9 _ => ⟨gr (16 * prt te i k + prt te2 j k), rfl, ⟨fun hg9 => ⟨k, by omega, hz, fun hs => by rw [hr38.mpr hs] at h41; exact Bool.noConfusion h41, hg9⟩, fun hs => by obtain ⟨k1, a1, a2, a3, a4⟩ := hs; rw [io_uq (by intro hs; rw [hr38.mpr hs] at h41; exact Bool.noConfusion h41) hz a3 a2] at a4; exact a4⟩, ht9⟩) t_nil qd_M_inOrder_57
  exact L14 _ 0 (by omega) (fun q hq => by omega) rfl ls hl
set_option maxHeartbeats 4000000 in
set_option maxRecDepth 100000 in
theorem c_M_path (l : Launch) (dC : Nat → ClassId) (dI : Nat → Nat → Nat) (cI cZ cT cJ : ClassId) (o mA mR mW mC mS mL mT mH mY mE mG mB mO sy tc rc : Nat) (tw : Int) (ar rk wt co : Nat → Int) (sz lf rg : Nat → Nat) (hi hv : Nat → Int) (ef : Nat → Nat) (gr : Nat → Bool) (bd ol : Nat → Int) (b n : Nat) (th tm : Nat → Int) (te : Nat → Nat) (b2 n2 : Nat) (th2 tm2 : Nat → Int) (te2 : Nat → Nat) (i j : Nat) (hrk : ∀ q, q < 5 → 0 ≤ rk q ∧ rk q ≤ 4) (har : ∀ q, q < 5 → 0 ≤ ar q ∧ ar q ≤ 3) (h16 : n ≤ 16) (hb0 : b + 16 ≤ 2608) (hco : ∀ q, q < n → co (b + q) = th q) (htm : ∀ q, q < n → tm q = mny ar (th q)) (hh : ∀ q, q < n → -4 ≤ th q ∧ th q ≤ 4) (we : wfE tm n te) (h162 : n2 ≤ 16) (hb02 : b2 + 16 ≤ 2608) (hco2 : ∀ q, q < n2 → co (b2 + q) = th2 q) (htm2 : ∀ q, q < n2 → tm2 q = mny ar (th2 q)) (hh2 : ∀ q, q < n2 → -4 ≤ th2 q ∧ th2 q ≤ 4) (we2 : wfE tm2 n2 te2) (hi9 : i < n) (hj9 : j < n2) (hef : ∀ q, q < n → ef q = te q) (hef2 : ∀ q, q < n2 → ef (16 + q) = te2 q) : Met l qy_M_path qw_M_path ({ frames := 4, cells := 0, slots := 0, locals := 98 }) (rdP (dC, dI) qcl (qty cI cZ cT cJ) nwL [(o, .inr (6, [.int (zI (↑sy)), .ref mA, .ref mR, .ref mW, .int (zI (↑tc)), .ref mC, .ref mS, .int (zI (↑rc)), .ref mL, .ref mT, .ref mH, .ref mY, .ref mE, .ref mG, .ref mB, .ref mO, .int (zI (tw))])), (mA, .inl (cI, 5, .inl (zA ar))), (mR, .inl (cI, 5, .inl (zA rk))), (mC, .inl (cI, 2608, .inl (zA co))), (mE, .inl (cI, 32, .inl (zA (eI ef)))), (mG, .inl (cZ, 256, .inl (zB gr)))] [.ref o, .int (zI (↑b)), .int (zI (↑i)), .int (zI (↑b2)), .int (zI (↑j))]) (rdB (paP (tb gr) rk th te tm i th2 te2 tm2 j)) 0 0 (fun _ => False) := by
  refine Met.ofW (cc := qc_M_path) (maxL := 10) (ret := (Option.some Jvm.ClassFile.FieldType.boolean)) (by decide) rfl ?_
  intro pg eg sg mg args below meth cg s₁ B hml hv
  obtain ⟨rfl, hF, hK, hN⟩ := hv
  have hx := B.exec
  have hb := B.bytes
  have hr := B.returns
  have hts := atoms_spec (ws := qw_M_path) B.pre
  have hg : ∀ w ∈ gw, w.before _ sg = true := fun w h => hts w (List.mem_cons_of_mem _ h)
  have hown : sg.vm.findClass "TermOrdersModel" = some mg.cls := findClass_of_methodNamed B.named
  have hlocks := B.notSynchronized
  have hl := lv_entry ([.ref o, .int (zI (↑b)), .int (zI (↑i)), .int (zI (↑b2)), .int (zI (↑j))]) (n := 10) (Nat.le_of_ble_eq_true rfl)
  rw [lg_entry_eq]
  generalize (lg_sl ([.ref o, .int (zI (↑b)), .int (zI (↑i)), .int (zI (↑b2)), .int (zI (↑j))]) ++ List.replicate (10 - (lg_sl ([.ref o, .int (zI (↑b)), .int (zI (↑i)), .int (zI (↑b2)), .int (zI (↑j))])).length) Slot.unset).toArray = ls at hl ⊢
  have hl : lv_has ls 10 [(0, .ref o), (1, .int (zI (↑b))), (2, .int (zI (↑i))), (3, .int (zI (↑b2))), (4, .int (zI (↑j)))] := hl
  have hmq := mq_b har hh htm
  have hmq2 := mq_b har hh2 htm2
  have hmi := hmq i hi9
  have hmj := hmq2 j hj9
  have hc9 := hco i hi9
  have hdj := hco2 j hj9
  have hti := htm i hi9
  have hu9 := htm2 j hj9
  have hh9 := hh i hi9
  have hk9 := hh2 j hj9
  refine lv_iload_n hx hb qd_M_path_0 rfl (lv_at hl 2 rfl) ?_
  refine lv_iconst (v := zI 1) hx hb qd_M_path_1 rfl ?_
  refine zz_iadd hx hb (↑(prt te i 0)) rfl qd_M_path_2 ?_
  refine lv_istore (lv' := [(5, .int (zI (↑(prt te i 0)))), (0, .ref o), (1, .int (zI (↑b))), (2, .int (zI (↑i))), (3, .int (zI (↑b2))), (4, .int (zI (↑j)))]) hx hb qd_M_path_3 hl (by decide) rfl (fun ls hl => ?_)
  refine lv_aload_n hx hb qd_M_path_5 rfl (lv_at hl 1 rfl) ?_
  refine va_get (D := (dC, dI)) (ci := 6) (v := .ref mC) (C := "TermOrdersModel") (T := qT_M) (N := 17) hx hb hg qi_M hown hK hF 0 rfl rfl 5 (by decide) (hg _ wd_623) (fun _ h9 => h9) rfl qd_M_path_6 ?_
  refine lv_iload_n hx hb qd_M_path_9 rfl (lv_at hl 2 rfl) ?_
  refine lv_iload_n hx hb qd_M_path_10 rfl (lv_at hl 3 rfl) ?_
  refine zz_iadd hx hb ((↑b) + (↑i)) rfl qd_M_path_11 ?_
  refine zz_iald hx hb hK hF 3 0 rfl rfl (b + i) (by omega) (by omega) (by omega) qd_M_path_12 ?_
  refine zz_top (b := th i) hc9 ?_
  refine lv_istore (lv' := [(6, .int (zI (th i))), (5, .int (zI (↑(prt te i 0)))), (0, .ref o), (1, .int (zI (↑b))), (2, .int (zI (↑i))), (3, .int (zI (↑b2))), (4, .int (zI (↑j)))]) hx hb qd_M_path_13 hl (by decide) rfl (fun ls hl => ?_)
  refine lv_aload_n hx hb qd_M_path_15 rfl (lv_at hl 2 rfl) ?_
  refine va_get (D := (dC, dI)) (ci := 6) (v := .ref mC) (C := "TermOrdersModel") (T := qT_M) (N := 17) hx hb hg qi_M hown hK hF 0 rfl rfl 5 (by decide) (hg _ wd_623) (fun _ h9 => h9) rfl qd_M_path_16 ?_
  refine lv_iload_n hx hb qd_M_path_19 rfl (lv_at hl 5 rfl) ?_
  refine lv_iload hx hb qd_M_path_20 (lv_at hl 6 rfl) ?_
  refine zz_iadd hx hb ((↑b2) + (↑j)) rfl qd_M_path_22 ?_
  refine zz_iald hx hb hK hF 3 0 rfl rfl (b2 + j) (by omega) (by omega) (by omega) qd_M_path_23 ?_
  refine zz_top (b := th2 j) hdj ?_
  refine lv_istore (lv' := [(7, .int (zI (th2 j))), (6, .int (zI (th i))), (5, .int (zI (↑(prt te i 0)))), (0, .ref o), (1, .int (zI (↑b))), (2, .int (zI (↑i))), (3, .int (zI (↑b2))), (4, .int (zI (↑j)))]) hx hb qd_M_path_24 hl (by decide) rfl (fun ls hl => ?_)
  refine lv_iconst (v := zI 0) hx hb qd_M_path_26 rfl ?_
  refine lv_istore (lv' := [(8, .int (zI (0))), (7, .int (zI (th2 j))), (6, .int (zI (th i))), (5, .int (zI (↑(prt te i 0)))), (0, .ref o), (1, .int (zI (↑b))), (2, .int (zI (↑i))), (3, .int (zI (↑b2))), (4, .int (zI (↑j)))]) hx hb qd_M_path_27 hl (by decide) rfl (fun ls hl => ?_)
  have L29 : ∀ (d9 : Nat) (k : Nat), ((k : Int) ≤ tm i) → (∀ q, q < k → ¬ (tb gr (prt te i q) j ∨ smP th te (prt te i q) th2 te2 j)) → (tm i).toNat - k = d9 → ∀ ls : Array Slot, lv_has ls 10 [(8, .int (zI (↑k))), (7, .int (zI (th2 j))), (6, .int (zI (th i))), (5, .int (zI (↑(prt te i k)))), (0, .ref o), (1, .int (zI (↑b))), (2, .int (zI (↑i))), (3, .int (zI (↑b2))), (4, .int (zI (↑j)))] → W pg l eg (headSpec qw_M_path ({ frames := 4, cells := 0, slots := 0, locals := 98 })).room sg mg ([.ref o, .int (zI (↑b)), .int (zI (↑i)), .int (zI (↑b2)), .int (zI (↑j))] : List Value).toArray below meth cg sg.heap [] 0 0 (MQ below (rdB (paP (tb gr) rk th te tm i th2 te2 tm2 j)) ([.ref o, .int (zI (↑b)), .int (zI (↑i)), .int (zI (↑b2)), .int (zI (↑j))] : List Value).toArray sg 0 0 (fun _ => False)) (F0 mg 29 ls []) := by
    intro d9
    induction d9 using Nat.strongRecOn with
    | _ d9 ih29 =>
      intro k hk hz hd9 ls hl
      refine lv_iload hx hb qd_M_path_29 (lv_at hl 0 rfl) ?_
      refine lv_aload_n hx hb qd_M_path_31 rfl (lv_at hl 4 rfl) ?_
      refine lv_iload hx hb qd_M_path_32 (lv_at hl 2 rfl) ?_
      refine rd_callI (W.runV (As := [.int (zI ((th i)))]) (rest := [.int (zI (↑k))]) ⟨hx, hb, hml, hown, hg⟩ (c_M_many l dC dI cI cZ cT cJ o mA mR mW mC mS mL mT mH mY mE mG mB mO sy tc rc tw ar rk wt co sz lf rg hi hv ef gr bd ol (th i) (by omega)) ⟨callB_of 1 hg (gw_ok (fun _ h => h) wd_709) rfl rfl rfl (hg _ wd_6) (hg _ wd_706) (by decide +kernel) ⟨Nat.le_of_ble_eq_true rfl, Nat.le_of_ble_eq_true rfl⟩, hg _ wd_708, hg _ se_M_many⟩ (rd_preV (va_recv (q0 := 0) hK hF rfl rfl) (pw_c (q := (o, .inr (6, [.int (zI (↑sy)), .ref mA, .ref mR, .ref mW, .int (zI (↑tc)), .ref mC, .ref mS, .int (zI (↑rc)), .ref mL, .ref mT, .ref mH, .ref mY, .ref mE, .ref mG, .ref mB, .ref mO, .int (zI (tw))]))) hF 0 rfl (pw_c (q := (mA, .inl (cI, 5, .inl (zA ar)))) hF 1 rfl (pw_nil))) hK hN) rfl rfl hl.1 rfl (lv_room (Nat.le_of_ble_eq_true rfl)) qd_M_path_34 ⟨Nat.le_of_ble_eq_true rfl, Nat.le_of_ble_eq_true rfl⟩) (fun r34 hr34 => ?_)
      have e34 : r34 = mny ar (th i) := hr34
      subst e34
      refine zz_icmp_ge (tgt := 86) hx hb qd_M_path_37 (by decide) (by omega) (by omega) (fun h37 => ?_) (fun h37 => ?_)
      · skip
        have hnA : ∀ q : Nat, (q : Int) < tm i → ¬ (tb gr (prt te i q) j ∨ smP th te (prt te i q) th2 te2 j) := fun q hq => hz q (by omega)
        have hnX : paP (tb gr) rk th te tm i th2 te2 tm2 j → (0 ≤ th i ∧ 0 ≤ th2 j ∧ (∀ k : Nat, (k : Int) < tm2 j → tb gr i (prt te2 j k)) ∧ (th i ≠ th2 j → rk (th2 j).toNat < rk (th i).toNat) ∧ (th i = th2 j → ioP (tb gr) th te (tm i) i th2 te2 j)) := fun hs => hs.elim (fun ⟨q, h1, h2⟩ => absurd h2 (hnA q h1)) id
        refine lv_iload hx hb qd_M_path_86 (lv_at hl 2 rfl) ?_
        refine zz_if_lt (tgt := 120) hx hb qd_M_path_88 (by decide) (by omega) (fun h88 => ?_) (fun h88 => ?_)
        · skip
          have hno : ¬ paP (tb gr) rk th te tm i th2 te2 tm2 j := fun hs => by have := (hnX hs).1; omega
          refine lv_iconst (v := zI 0) hx hb qd_M_path_120 rfl ?_
          exact W.zret (v := zI 0) (ty := .boolean) hx hb hr rfl (fun t9 ht9 _ => ⟨false, rfl, bF (hno), ht9⟩) t_nil qd_M_path_121
        · skip
          refine lv_iload hx hb qd_M_path_91 (lv_at hl 1 rfl) ?_
          refine zz_if_lt (tgt := 120) hx hb qd_M_path_93 (by decide) (by omega) (fun h93 => ?_) (fun h93 => ?_)
          · skip
            have hno : ¬ paP (tb gr) rk th te tm i th2 te2 tm2 j := fun hs => by have := (hnX hs).2.1; omega
            refine lv_iconst (v := zI 0) hx hb qd_M_path_120 rfl ?_
            exact W.zret (v := zI 0) (ty := .boolean) hx hb hr rfl (fun t9 ht9 _ => ⟨false, rfl, bF (hno), ht9⟩) t_nil qd_M_path_121
          · skip
            have hq5 := hrk (th i).toNat (by omega)
            have hq6 := hrk (th2 j).toNat (by omega)
            refine lv_iload hx hb qd_M_path_96 (lv_at hl 2 rfl) ?_
            refine lv_iload hx hb qd_M_path_98 (lv_at hl 1 rfl) ?_
            refine zz_icmp_eq (tgt := 122) hx hb qd_M_path_100 (by decide) (by omega) (by omega) (fun h100 => ?_) (fun h100 => ?_)
            · skip
              have hab : th i ≠ th2 j → rk (th2 j).toNat < rk (th i).toNat := fun q => absurd h100 q
              refine lv_iload hx hb qd_M_path_122 (lv_at hl 8 rfl) ?_
              refine lv_iconst (v := zI 1) hx hb qd_M_path_124 rfl ?_
              refine zz_iadd hx hb (↑(prt te2 j 0)) rfl qd_M_path_125 ?_
              refine lv_istore (lv' := [(8, .int (zI (↑(prt te2 j 0)))), (7, .int (zI (th2 j))), (6, .int (zI (th i))), (5, .int (zI (↑(prt te i k)))), (0, .ref o), (1, .int (zI (↑b))), (2, .int (zI (↑i))), (3, .int (zI (↑b2))), (4, .int (zI (↑j)))]) hx hb qd_M_path_126 hl (by decide) rfl (fun ls hl => ?_)
              refine lv_iconst (v := zI 0) hx hb qd_M_path_128 rfl ?_
              refine lv_istore (lv' := [(9, .int (zI (0))), (8, .int (zI (↑(prt te2 j 0)))), (7, .int (zI (th2 j))), (6, .int (zI (th i))), (5, .int (zI (↑(prt te i k)))), (0, .ref o), (1, .int (zI (↑b))), (2, .int (zI (↑i))), (3, .int (zI (↑b2))), (4, .int (zI (↑j)))]) hx hb qd_M_path_129 hl (by decide) rfl (fun ls hl => ?_)
              have L131 : ∀ (d9 : Nat) (k2 : Nat), ((k2 : Int) ≤ tm2 j) → (∀ q, q < k2 → tb gr i (prt te2 j q)) → (tm2 j).toNat - k2 = d9 → ∀ ls : Array Slot, lv_has ls 10 [(9, .int (zI (↑k2))), (8, .int (zI (↑(prt te2 j k2)))), (7, .int (zI (th2 j))), (6, .int (zI (th i))), (5, .int (zI (↑(prt te i k)))), (0, .ref o), (1, .int (zI (↑b))), (2, .int (zI (↑i))), (3, .int (zI (↑b2))), (4, .int (zI (↑j)))] → W pg l eg (headSpec qw_M_path ({ frames := 4, cells := 0, slots := 0, locals := 98 })).room sg mg ([.ref o, .int (zI (↑b)), .int (zI (↑i)), .int (zI (↑b2)), .int (zI (↑j))] : List Value).toArray below meth cg sg.heap [] 0 0 (MQ below (rdB (paP (tb gr) rk th te tm i th2 te2 tm2 j)) ([.ref o, .int (zI (↑b)), .int (zI (↑i)), .int (zI (↑b2)), .int (zI (↑j))] : List Value).toArray sg 0 0 (fun _ => False)) (F0 mg 131 ls []) := by
                intro d9
                induction d9 using Nat.strongRecOn with
                | _ d9 ih131 =>
                  intro k2 hk2 hz2 hd9 ls hl
                  refine lv_iload hx hb qd_M_path_131 (lv_at hl 0 rfl) ?_
                  refine lv_aload_n hx hb qd_M_path_133 rfl (lv_at hl 5 rfl) ?_
                  refine lv_iload hx hb qd_M_path_134 (lv_at hl 2 rfl) ?_
                  refine rd_callI (W.runV (As := [.int (zI ((th2 j)))]) (rest := [.int (zI (↑k2))]) ⟨hx, hb, hml, hown, hg⟩ (c_M_many l dC dI cI cZ cT cJ o mA mR mW mC mS mL mT mH mY mE mG mB mO sy tc rc tw ar rk wt co sz lf rg hi hv ef gr bd ol (th2 j) (by omega)) ⟨callB_of 1 hg (gw_ok (fun _ h => h) wd_709) rfl rfl rfl (hg _ wd_6) (hg _ wd_706) (by decide +kernel) ⟨Nat.le_of_ble_eq_true rfl, Nat.le_of_ble_eq_true rfl⟩, hg _ wd_708, hg _ se_M_many⟩ (rd_preV (va_recv (q0 := 0) hK hF rfl rfl) (pw_c (q := (o, .inr (6, [.int (zI (↑sy)), .ref mA, .ref mR, .ref mW, .int (zI (↑tc)), .ref mC, .ref mS, .int (zI (↑rc)), .ref mL, .ref mT, .ref mH, .ref mY, .ref mE, .ref mG, .ref mB, .ref mO, .int (zI (tw))]))) hF 0 rfl (pw_c (q := (mA, .inl (cI, 5, .inl (zA ar)))) hF 1 rfl (pw_nil))) hK hN) rfl rfl hl.1 rfl (lv_room (Nat.le_of_ble_eq_true rfl)) qd_M_path_136 ⟨Nat.le_of_ble_eq_true rfl, Nat.le_of_ble_eq_true rfl⟩) (fun r136 hr136 => ?_)
                  have e136 : r136 = mny ar (th2 j) := hr136
                  subst e136
                  refine zz_icmp_ge (tgt := 177) hx hb qd_M_path_139 (by decide) (by omega) (by omega) (fun h139 => ?_) (fun h139 => ?_)
                  · skip
                    have hall : ∀ k : Nat, (k : Int) < tm2 j → tb gr i (prt te2 j k) := fun q hq => hz2 q (by omega)
                    refine lv_iload hx hb qd_M_path_177 (lv_at hl 3 rfl) ?_
                    refine lv_iload hx hb qd_M_path_179 (lv_at hl 2 rfl) ?_
                    refine zz_icmp_ne (tgt := 196) hx hb qd_M_path_181 (by decide) (by omega) (by omega) (fun h181 => ?_) (fun h181 => ?_)
                    · skip
                      have hy8 : paP (tb gr) rk th te tm i th2 te2 tm2 j := Or.inr ⟨by omega, by omega, hall, hab, fun q => absurd q h181⟩
                      refine lv_iconst (v := zI 1) hx hb qd_M_path_196 rfl ?_
                      refine lv_goto (tgt := 201) hx hb qd_M_path_197 (by decide) ?_
                      exact W.zret (v := zI 1) (ty := .boolean) hx hb hr rfl (fun t9 ht9 _ => ⟨true, rfl, bT (hy8), ht9⟩) t_nil qd_M_path_201
                    · skip
                      refine lv_aload_n hx hb qd_M_path_184 rfl (lv_at hl 5 rfl) ?_
                      refine lv_iload_n hx hb qd_M_path_185 rfl (lv_at hl 6 rfl) ?_
                      refine lv_iload_n hx hb qd_M_path_186 rfl (lv_at hl 7 rfl) ?_
                      refine lv_iload_n hx hb qd_M_path_187 rfl (lv_at hl 8 rfl) ?_
                      refine lv_iload hx hb qd_M_path_188 (lv_at hl 9 rfl) ?_
                      refine rd_callB (W.runV (As := [.int (zI (↑b)), .int (zI (↑i)), .int (zI (↑b2)), .int (zI (↑j))]) (rest := []) ⟨hx, hb, hml, hown, hg⟩ (c_M_inOrder l dC dI cI cZ cT cJ o mA mR mW mC mS mL mT mH mY mE mG mB mO sy tc rc tw ar rk wt co sz lf rg hi hv ef gr bd ol b n th tm te b2 n2 th2 tm2 te2 i j har h16 hb0 hco htm hh we h162 hb02 hco2 htm2 hh2 we2 hi9 hj9 hef hef2 h181) ⟨callB_of 4 hg (gw_ok (fun _ h => h) wd_753) rfl rfl rfl (hg _ wd_6) (hg _ wd_750) (by decide +kernel) ⟨Nat.le_of_ble_eq_true rfl, Nat.le_of_ble_eq_true rfl⟩, hg _ wd_752, hg _ se_M_inOrder⟩ (rd_preV (va_recv (q0 := 0) hK hF rfl rfl) (pw_c (q := (o, .inr (6, [.int (zI (↑sy)), .ref mA, .ref mR, .ref mW, .int (zI (↑tc)), .ref mC, .ref mS, .int (zI (↑rc)), .ref mL, .ref mT, .ref mH, .ref mY, .ref mE, .ref mG, .ref mB, .ref mO, .int (zI (tw))]))) hF 0 rfl (pw_c (q := (mA, .inl (cI, 5, .inl (zA ar)))) hF 1 rfl (pw_c (q := (mC, .inl (cI, 2608, .inl (zA co)))) hF 3 rfl (pw_c (q := (mE, .inl (cI, 32, .inl (zA (eI ef))))) hF 4 rfl (pw_c (q := (mG, .inl (cZ, 256, .inl (zB gr)))) hF 5 rfl (pw_nil)))))) hK hN) rfl rfl hl.1 rfl (lv_room (Nat.le_of_ble_eq_true rfl)) qd_M_path_190 ⟨Nat.le_of_ble_eq_true rfl, Nat.le_of_ble_eq_true rfl⟩) (fun r190 hr190 => ?_)
                      refine zz_ifeqB (tgt := 200) hx hb qd_M_path_193 (by decide) (fun h193 => ?_) (fun h193 => ?_)
                      · skip
                        have hno : ¬ paP (tb gr) rk th te tm i th2 te2 tm2 j := fun hs => by rw [hr190.mpr ((hnX hs).2.2.2.2 h181)] at h193; exact Bool.noConfusion h193
                        refine lv_iconst (v := zI 0) hx hb qd_M_path_200 rfl ?_
                        exact W.zret (v := zI 0) (ty := .boolean) hx hb hr rfl (fun t9 ht9 _ => ⟨false, rfl, bF (hno), ht9⟩) t_nil qd_M_path_201
                      · skip
                        have hy8 : paP (tb gr) rk th te tm i th2 te2 tm2 j := Or.inr ⟨by omega, by omega, hall, hab, fun _ => hr190.mp h193⟩
                        refine lv_iconst (v := zI 1) hx hb qd_M_path_196 rfl ?_
                        refine lv_goto (tgt := 201) hx hb qd_M_path_197 (by decide) ?_
                        exact W.zret (v := zI 1) (ty := .boolean) hx hb hr rfl (fun t9 ht9 _ => ⟨true, rfl, bT (hy8), ht9⟩) t_nil qd_M_path_201
                  · skip
                    have hp2 := prt_lt we2 hj9 (k := k2) (by omega)
                    have hf2 := hef2 (prt te2 j k2) (by omega)
                    have hw2 := (we2 (prt te2 j k2) (by omega)).2.1
                    refine lv_aload_n hx hb qd_M_path_142 rfl (lv_at hl 5 rfl) ?_
                    refine va_get (D := (dC, dI)) (ci := 6) (v := .ref mG) (C := "TermOrdersModel") (T := qT_M) (N := 17) hx hb hg qi_M hown hK hF 0 rfl rfl 13 (by decide) (hg _ wd_631) (fun _ h9 => h9) rfl qd_M_path_143 ?_
                    refine lv_bipush (v := zI 16) hx hb qd_M_path_146 (by decide) ?_
                    refine lv_iload_n hx hb qd_M_path_148 rfl (lv_at hl 7 rfl) ?_
                    refine zz_imul hx hb (16 * (↑i)) rfl qd_M_path_149 ?_
                    refine lv_iload hx hb qd_M_path_150 (lv_at hl 1 rfl) ?_
                    refine zz_iadd hx hb ((16 * (↑i)) + (↑(prt te2 j k2))) rfl qd_M_path_152 ?_
                    refine zz_zald hx hb hK hF 5 1 rfl rfl (16 * i + prt te2 j k2) (by omega) (by omega) (by omega) qd_M_path_153 ?_
                    refine zz_ifneB (tgt := 159) hx hb qd_M_path_154 (by decide) (fun h154 => ?_) (fun h154 => ?_)
                    · skip
                      refine lv_aload_n hx hb qd_M_path_159 rfl (lv_at hl 5 rfl) ?_
                      refine va_get (D := (dC, dI)) (ci := 6) (v := .ref mE) (C := "TermOrdersModel") (T := qT_M) (N := 17) hx hb hg qi_M hown hK hF 0 rfl rfl 12 (by decide) (hg _ wd_630) (fun _ h9 => h9) rfl qd_M_path_160 ?_
                      refine lv_bipush (v := zI 16) hx hb qd_M_path_163 (by decide) ?_
                      refine lv_iload hx hb qd_M_path_165 (lv_at hl 1 rfl) ?_
                      refine zz_iadd hx hb (16 + (↑(prt te2 j k2))) rfl qd_M_path_167 ?_
                      refine zz_eald hx hb hK hF 4 0 rfl rfl (16 + prt te2 j k2) (by omega) (by omega) (by omega) qd_M_path_168 ?_
                      refine zz_top (b := ↑(prt te2 j (k2 + 1))) (by rw [hf2]; rfl) ?_
                      refine lv_istore (lv' := [(8, .int (zI (↑(prt te2 j (k2 + 1))))), (9, .int (zI (↑k2))), (7, .int (zI (th2 j))), (6, .int (zI (th i))), (5, .int (zI (↑(prt te i k)))), (0, .ref o), (1, .int (zI (↑b))), (2, .int (zI (↑i))), (3, .int (zI (↑b2))), (4, .int (zI (↑j)))]) hx hb qd_M_path_169 hl (by decide) rfl (fun ls hl => ?_)
                      refine lv_iinc (k := 1) (lv' := [(9, .int (zI (↑(k2 + 1)))), (8, .int (zI (↑(prt te2 j (k2 + 1))))), (7, .int (zI (th2 j))), (6, .int (zI (th i))), (5, .int (zI (↑(prt te i k)))), (0, .ref o), (1, .int (zI (↑b))), (2, .int (zI (↑i))), (3, .int (zI (↑b2))), (4, .int (zI (↑j)))]) hx hb qd_M_path_171 hl rfl (zI_inc (v := ↑(k2 + 1)) (by omega)) (by decide) rfl (fun ls hl => ?_)
                      refine lv_goto (tgt := 131) hx hb qd_M_path_174 (by decide) ?_
                      exact ih131 _ (by omega) (k2 + 1) (by omega) (fun q hq => if hqk : q < k2 then hz2 q hqk else (by rw [show q = k2 by omega]; exact h154)) rfl ls hl
                    · skip
                      refine lv_iconst (v := zI 0) hx hb qd_M_path_157 rfl ?_
                      exact W.zret (v := zI 0) (ty := .boolean) hx hb hr rfl (fun t9 ht9 _ => ⟨false, rfl, bF ((fun hs => by have := (hnX hs).2.2.1 k2 (by omega); unfold tb at this; rw [this] at h154; exact Bool.noConfusion h154)), ht9⟩) t_nil qd_M_path_158
              exact L131 _ 0 (by omega) (fun q hq => by omega) rfl ls hl
            · skip
              refine lv_aload_n hx hb qd_M_path_103 rfl (lv_at hl 4 rfl) ?_
              refine va_get (D := (dC, dI)) (ci := 6) (v := .ref mR) (C := "TermOrdersModel") (T := qT_M) (N := 17) hx hb hg qi_M hown hK hF 0 rfl rfl 2 (by decide) (hg _ wd_620) (fun _ h9 => h9) rfl qd_M_path_104 ?_
              refine lv_iload hx hb qd_M_path_107 (lv_at hl 2 rfl) ?_
              refine zz_iald hx hb hK hF 2 0 rfl rfl ((th i).toNat) (by omega) (by omega) (by omega) qd_M_path_109 ?_
              refine lv_aload_n hx hb qd_M_path_110 rfl (lv_at hl 4 rfl) ?_
              refine va_get (D := (dC, dI)) (ci := 6) (v := .ref mR) (C := "TermOrdersModel") (T := qT_M) (N := 17) hx hb hg qi_M hown hK hF 0 rfl rfl 2 (by decide) (hg _ wd_620) (fun _ h9 => h9) rfl qd_M_path_111 ?_
              refine lv_iload hx hb qd_M_path_114 (lv_at hl 1 rfl) ?_
              refine zz_iald hx hb hK hF 2 0 rfl rfl ((th2 j).toNat) (by omega) (by omega) (by omega) qd_M_path_116 ?_
              refine zz_icmp_gt (tgt := 122) hx hb qd_M_path_117 (by decide) (by omega) (by omega) (fun h117 => ?_) (fun h117 => ?_)
              · skip
                have hab : th i ≠ th2 j → rk (th2 j).toNat < rk (th i).toNat := fun _ => h117
                refine lv_iload hx hb qd_M_path_122 (lv_at hl 8 rfl) ?_
                refine lv_iconst (v := zI 1) hx hb qd_M_path_124 rfl ?_
                refine zz_iadd hx hb (↑(prt te2 j 0)) rfl qd_M_path_125 ?_
                refine lv_istore (lv' := [(8, .int (zI (↑(prt te2 j 0)))), (7, .int (zI (th2 j))), (6, .int (zI (th i))), (5, .int (zI (↑(prt te i k)))), (0, .ref o), (1, .int (zI (↑b))), (2, .int (zI (↑i))), (3, .int (zI (↑b2))), (4, .int (zI (↑j)))]) hx hb qd_M_path_126 hl (by decide) rfl (fun ls hl => ?_)
                refine lv_iconst (v := zI 0) hx hb qd_M_path_128 rfl ?_
                refine lv_istore (lv' := [(9, .int (zI (0))), (8, .int (zI (↑(prt te2 j 0)))), (7, .int (zI (th2 j))), (6, .int (zI (th i))), (5, .int (zI (↑(prt te i k)))), (0, .ref o), (1, .int (zI (↑b))), (2, .int (zI (↑i))), (3, .int (zI (↑b2))), (4, .int (zI (↑j)))]) hx hb qd_M_path_129 hl (by decide) rfl (fun ls hl => ?_)
                have L131 : ∀ (d9 : Nat) (k2 : Nat), ((k2 : Int) ≤ tm2 j) → (∀ q, q < k2 → tb gr i (prt te2 j q)) → (tm2 j).toNat - k2 = d9 → ∀ ls : Array Slot, lv_has ls 10 [(9, .int (zI (↑k2))), (8, .int (zI (↑(prt te2 j k2)))), (7, .int (zI (th2 j))), (6, .int (zI (th i))), (5, .int (zI (↑(prt te i k)))), (0, .ref o), (1, .int (zI (↑b))), (2, .int (zI (↑i))), (3, .int (zI (↑b2))), (4, .int (zI (↑j)))] → W pg l eg (headSpec qw_M_path ({ frames := 4, cells := 0, slots := 0, locals := 98 })).room sg mg ([.ref o, .int (zI (↑b)), .int (zI (↑i)), .int (zI (↑b2)), .int (zI (↑j))] : List Value).toArray below meth cg sg.heap [] 0 0 (MQ below (rdB (paP (tb gr) rk th te tm i th2 te2 tm2 j)) ([.ref o, .int (zI (↑b)), .int (zI (↑i)), .int (zI (↑b2)), .int (zI (↑j))] : List Value).toArray sg 0 0 (fun _ => False)) (F0 mg 131 ls []) := by
                  intro d9
                  induction d9 using Nat.strongRecOn with
                  | _ d9 ih131 =>
                    intro k2 hk2 hz2 hd9 ls hl
                    refine lv_iload hx hb qd_M_path_131 (lv_at hl 0 rfl) ?_
                    refine lv_aload_n hx hb qd_M_path_133 rfl (lv_at hl 5 rfl) ?_
                    refine lv_iload hx hb qd_M_path_134 (lv_at hl 2 rfl) ?_
                    refine rd_callI (W.runV (As := [.int (zI ((th2 j)))]) (rest := [.int (zI (↑k2))]) ⟨hx, hb, hml, hown, hg⟩ (c_M_many l dC dI cI cZ cT cJ o mA mR mW mC mS mL mT mH mY mE mG mB mO sy tc rc tw ar rk wt co sz lf rg hi hv ef gr bd ol (th2 j) (by omega)) ⟨callB_of 1 hg (gw_ok (fun _ h => h) wd_709) rfl rfl rfl (hg _ wd_6) (hg _ wd_706) (by decide +kernel) ⟨Nat.le_of_ble_eq_true rfl, Nat.le_of_ble_eq_true rfl⟩, hg _ wd_708, hg _ se_M_many⟩ (rd_preV (va_recv (q0 := 0) hK hF rfl rfl) (pw_c (q := (o, .inr (6, [.int (zI (↑sy)), .ref mA, .ref mR, .ref mW, .int (zI (↑tc)), .ref mC, .ref mS, .int (zI (↑rc)), .ref mL, .ref mT, .ref mH, .ref mY, .ref mE, .ref mG, .ref mB, .ref mO, .int (zI (tw))]))) hF 0 rfl (pw_c (q := (mA, .inl (cI, 5, .inl (zA ar)))) hF 1 rfl (pw_nil))) hK hN) rfl rfl hl.1 rfl (lv_room (Nat.le_of_ble_eq_true rfl)) qd_M_path_136 ⟨Nat.le_of_ble_eq_true rfl, Nat.le_of_ble_eq_true rfl⟩) (fun r136 hr136 => ?_)
                    have e136 : r136 = mny ar (th2 j) := hr136
                    subst e136
                    refine zz_icmp_ge (tgt := 177) hx hb qd_M_path_139 (by decide) (by omega) (by omega) (fun h139 => ?_) (fun h139 => ?_)
                    · skip
                      have hall : ∀ k : Nat, (k : Int) < tm2 j → tb gr i (prt te2 j k) := fun q hq => hz2 q (by omega)
                      refine lv_iload hx hb qd_M_path_177 (lv_at hl 3 rfl) ?_
                      refine lv_iload hx hb qd_M_path_179 (lv_at hl 2 rfl) ?_
                      refine zz_icmp_ne (tgt := 196) hx hb qd_M_path_181 (by decide) (by omega) (by omega) (fun h181 => ?_) (fun h181 => ?_)
                      · skip
                        have hy8 : paP (tb gr) rk th te tm i th2 te2 tm2 j := Or.inr ⟨by omega, by omega, hall, hab, fun q => absurd q h181⟩
                        refine lv_iconst (v := zI 1) hx hb qd_M_path_196 rfl ?_
                        refine lv_goto (tgt := 201) hx hb qd_M_path_197 (by decide) ?_
                        exact W.zret (v := zI 1) (ty := .boolean) hx hb hr rfl (fun t9 ht9 _ => ⟨true, rfl, bT (hy8), ht9⟩) t_nil qd_M_path_201
                      · skip
                        refine lv_aload_n hx hb qd_M_path_184 rfl (lv_at hl 5 rfl) ?_
                        refine lv_iload_n hx hb qd_M_path_185 rfl (lv_at hl 6 rfl) ?_
                        refine lv_iload_n hx hb qd_M_path_186 rfl (lv_at hl 7 rfl) ?_
                        refine lv_iload_n hx hb qd_M_path_187 rfl (lv_at hl 8 rfl) ?_
                        refine lv_iload hx hb qd_M_path_188 (lv_at hl 9 rfl) ?_
                        refine rd_callB (W.runV (As := [.int (zI (↑b)), .int (zI (↑i)), .int (zI (↑b2)), .int (zI (↑j))]) (rest := []) ⟨hx, hb, hml, hown, hg⟩ (c_M_inOrder l dC dI cI cZ cT cJ o mA mR mW mC mS mL mT mH mY mE mG mB mO sy tc rc tw ar rk wt co sz lf rg hi hv ef gr bd ol b n th tm te b2 n2 th2 tm2 te2 i j har h16 hb0 hco htm hh we h162 hb02 hco2 htm2 hh2 we2 hi9 hj9 hef hef2 h181) ⟨callB_of 4 hg (gw_ok (fun _ h => h) wd_753) rfl rfl rfl (hg _ wd_6) (hg _ wd_750) (by decide +kernel) ⟨Nat.le_of_ble_eq_true rfl, Nat.le_of_ble_eq_true rfl⟩, hg _ wd_752, hg _ se_M_inOrder⟩ (rd_preV (va_recv (q0 := 0) hK hF rfl rfl) (pw_c (q := (o, .inr (6, [.int (zI (↑sy)), .ref mA, .ref mR, .ref mW, .int (zI (↑tc)), .ref mC, .ref mS, .int (zI (↑rc)), .ref mL, .ref mT, .ref mH, .ref mY, .ref mE, .ref mG, .ref mB, .ref mO, .int (zI (tw))]))) hF 0 rfl (pw_c (q := (mA, .inl (cI, 5, .inl (zA ar)))) hF 1 rfl (pw_c (q := (mC, .inl (cI, 2608, .inl (zA co)))) hF 3 rfl (pw_c (q := (mE, .inl (cI, 32, .inl (zA (eI ef))))) hF 4 rfl (pw_c (q := (mG, .inl (cZ, 256, .inl (zB gr)))) hF 5 rfl (pw_nil)))))) hK hN) rfl rfl hl.1 rfl (lv_room (Nat.le_of_ble_eq_true rfl)) qd_M_path_190 ⟨Nat.le_of_ble_eq_true rfl, Nat.le_of_ble_eq_true rfl⟩) (fun r190 hr190 => ?_)
                        refine zz_ifeqB (tgt := 200) hx hb qd_M_path_193 (by decide) (fun h193 => ?_) (fun h193 => ?_)
                        · skip
                          have hno : ¬ paP (tb gr) rk th te tm i th2 te2 tm2 j := fun hs => by rw [hr190.mpr ((hnX hs).2.2.2.2 h181)] at h193; exact Bool.noConfusion h193
                          refine lv_iconst (v := zI 0) hx hb qd_M_path_200 rfl ?_
                          exact W.zret (v := zI 0) (ty := .boolean) hx hb hr rfl (fun t9 ht9 _ => ⟨false, rfl, bF (hno), ht9⟩) t_nil qd_M_path_201
                        · skip
                          have hy8 : paP (tb gr) rk th te tm i th2 te2 tm2 j := Or.inr ⟨by omega, by omega, hall, hab, fun _ => hr190.mp h193⟩
                          refine lv_iconst (v := zI 1) hx hb qd_M_path_196 rfl ?_
                          refine lv_goto (tgt := 201) hx hb qd_M_path_197 (by decide) ?_
                          exact W.zret (v := zI 1) (ty := .boolean) hx hb hr rfl (fun t9 ht9 _ => ⟨true, rfl, bT (hy8), ht9⟩) t_nil qd_M_path_201
                    · skip
                      have hp2 := prt_lt we2 hj9 (k := k2) (by omega)
                      have hf2 := hef2 (prt te2 j k2) (by omega)
                      have hw2 := (we2 (prt te2 j k2) (by omega)).2.1
                      refine lv_aload_n hx hb qd_M_path_142 rfl (lv_at hl 5 rfl) ?_
                      refine va_get (D := (dC, dI)) (ci := 6) (v := .ref mG) (C := "TermOrdersModel") (T := qT_M) (N := 17) hx hb hg qi_M hown hK hF 0 rfl rfl 13 (by decide) (hg _ wd_631) (fun _ h9 => h9) rfl qd_M_path_143 ?_
                      refine lv_bipush (v := zI 16) hx hb qd_M_path_146 (by decide) ?_
                      refine lv_iload_n hx hb qd_M_path_148 rfl (lv_at hl 7 rfl) ?_
                      refine zz_imul hx hb (16 * (↑i)) rfl qd_M_path_149 ?_
                      refine lv_iload hx hb qd_M_path_150 (lv_at hl 1 rfl) ?_
                      refine zz_iadd hx hb ((16 * (↑i)) + (↑(prt te2 j k2))) rfl qd_M_path_152 ?_
                      refine zz_zald hx hb hK hF 5 1 rfl rfl (16 * i + prt te2 j k2) (by omega) (by omega) (by omega) qd_M_path_153 ?_
                      refine zz_ifneB (tgt := 159) hx hb qd_M_path_154 (by decide) (fun h154 => ?_) (fun h154 => ?_)
                      · skip
                        refine lv_aload_n hx hb qd_M_path_159 rfl (lv_at hl 5 rfl) ?_
                        refine va_get (D := (dC, dI)) (ci := 6) (v := .ref mE) (C := "TermOrdersModel") (T := qT_M) (N := 17) hx hb hg qi_M hown hK hF 0 rfl rfl 12 (by decide) (hg _ wd_630) (fun _ h9 => h9) rfl qd_M_path_160 ?_
                        refine lv_bipush (v := zI 16) hx hb qd_M_path_163 (by decide) ?_
                        refine lv_iload hx hb qd_M_path_165 (lv_at hl 1 rfl) ?_
                        refine zz_iadd hx hb (16 + (↑(prt te2 j k2))) rfl qd_M_path_167 ?_
                        refine zz_eald hx hb hK hF 4 0 rfl rfl (16 + prt te2 j k2) (by omega) (by omega) (by omega) qd_M_path_168 ?_
                        refine zz_top (b := ↑(prt te2 j (k2 + 1))) (by rw [hf2]; rfl) ?_
                        refine lv_istore (lv' := [(8, .int (zI (↑(prt te2 j (k2 + 1))))), (9, .int (zI (↑k2))), (7, .int (zI (th2 j))), (6, .int (zI (th i))), (5, .int (zI (↑(prt te i k)))), (0, .ref o), (1, .int (zI (↑b))), (2, .int (zI (↑i))), (3, .int (zI (↑b2))), (4, .int (zI (↑j)))]) hx hb qd_M_path_169 hl (by decide) rfl (fun ls hl => ?_)
                        refine lv_iinc (k := 1) (lv' := [(9, .int (zI (↑(k2 + 1)))), (8, .int (zI (↑(prt te2 j (k2 + 1))))), (7, .int (zI (th2 j))), (6, .int (zI (th i))), (5, .int (zI (↑(prt te i k)))), (0, .ref o), (1, .int (zI (↑b))), (2, .int (zI (↑i))), (3, .int (zI (↑b2))), (4, .int (zI (↑j)))]) hx hb qd_M_path_171 hl rfl (zI_inc (v := ↑(k2 + 1)) (by omega)) (by decide) rfl (fun ls hl => ?_)
                        refine lv_goto (tgt := 131) hx hb qd_M_path_174 (by decide) ?_
                        exact ih131 _ (by omega) (k2 + 1) (by omega) (fun q hq => if hqk : q < k2 then hz2 q hqk else (by rw [show q = k2 by omega]; exact h154)) rfl ls hl
                      · skip
                        refine lv_iconst (v := zI 0) hx hb qd_M_path_157 rfl ?_
                        exact W.zret (v := zI 0) (ty := .boolean) hx hb hr rfl (fun t9 ht9 _ => ⟨false, rfl, bF ((fun hs => by have := (hnX hs).2.2.1 k2 (by omega); unfold tb at this; rw [this] at h154; exact Bool.noConfusion h154)), ht9⟩) t_nil qd_M_path_158
                exact L131 _ 0 (by omega) (fun q hq => by omega) rfl ls hl
              · skip
                have hno : ¬ paP (tb gr) rk th te tm i th2 te2 tm2 j := fun hs => h117 ((hnX hs).2.2.2.1 h100)
                refine lv_iconst (v := zI 0) hx hb qd_M_path_120 rfl ?_
                exact W.zret (v := zI 0) (ty := .boolean) hx hb hr rfl (fun t9 ht9 _ => ⟨false, rfl, bF (hno), ht9⟩) t_nil qd_M_path_121
      · skip
        have hp1 := prt_lt we hi9 (k := k) (by omega)
        have hf1 := hef (prt te i k) (by omega)
        have hw1 := (we (prt te i k) (by omega)).2.1
        refine lv_aload_n hx hb qd_M_path_40 rfl (lv_at hl 4 rfl) ?_
        refine va_get (D := (dC, dI)) (ci := 6) (v := .ref mG) (C := "TermOrdersModel") (T := qT_M) (N := 17) hx hb hg qi_M hown hK hF 0 rfl rfl 13 (by decide) (hg _ wd_631) (fun _ h9 => h9) rfl qd_M_path_41 ?_
        refine lv_bipush (v := zI 16) hx hb qd_M_path_44 (by decide) ?_
        refine lv_iload hx hb qd_M_path_46 (lv_at hl 3 rfl) ?_
        refine zz_imul hx hb (16 * (↑(prt te i k))) rfl qd_M_path_48 ?_
        refine lv_iload hx hb qd_M_path_49 (lv_at hl 8 rfl) ?_
        refine zz_iadd hx hb ((16 * (↑(prt te i k))) + (↑j)) rfl qd_M_path_51 ?_
        refine zz_zald hx hb hK hF 5 1 rfl rfl (16 * prt te i k + j) (by omega) (by omega) (by omega) qd_M_path_52 ?_
        refine zz_ifneB (tgt := 69) hx hb qd_M_path_53 (by decide) (fun h53 => ?_) (fun h53 => ?_)
        · skip
          have hy9 : paP (tb gr) rk th te tm i th2 te2 tm2 j := Or.inl ⟨k, by omega, Or.inl h53⟩
          refine lv_iconst (v := zI 1) hx hb qd_M_path_69 rfl ?_
          exact W.zret (v := zI 1) (ty := .boolean) hx hb hr rfl (fun t9 ht9 _ => ⟨true, rfl, bT (hy9), ht9⟩) t_nil qd_M_path_70
        · skip
          refine lv_aload_n hx hb qd_M_path_56 rfl (lv_at hl 4 rfl) ?_
          refine lv_iload_n hx hb qd_M_path_57 rfl (lv_at hl 5 rfl) ?_
          refine lv_iload hx hb qd_M_path_58 (lv_at hl 3 rfl) ?_
          refine lv_iload_n hx hb qd_M_path_60 rfl (lv_at hl 7 rfl) ?_
          refine lv_iload hx hb qd_M_path_61 (lv_at hl 8 rfl) ?_
          refine rd_callB (W.runV (As := [.int (zI (↑b)), .int (zI (↑(prt te i k))), .int (zI (↑b2)), .int (zI (↑j))]) (rest := []) ⟨hx, hb, hml, hown, hg⟩ (c_M_alike l dC dI cI cZ cT cJ o mA mR mW mC mS mL mT mH mY mE mG mB mO sy tc rc tw ar rk wt co sz lf rg hi hv ef gr bd ol b n th tm te b2 n2 th2 tm2 te2 (prt te i k) j har h16 hb0 hco htm hh we h162 hb02 hco2 htm2 hh2 we2 (by omega) hj9) ⟨callB_of 4 hg (gw_ok (fun _ h => h) wd_749) rfl rfl rfl (hg _ wd_6) (hg _ wd_746) (by decide +kernel) ⟨Nat.le_of_ble_eq_true rfl, Nat.le_of_ble_eq_true rfl⟩, hg _ wd_748, hg _ se_M_alike⟩ (rd_preV (va_recv (q0 := 0) hK hF rfl rfl) (pw_c (q := (o, .inr (6, [.int (zI (↑sy)), .ref mA, .ref mR, .ref mW, .int (zI (↑tc)), .ref mC, .ref mS, .int (zI (↑rc)), .ref mL, .ref mT, .ref mH, .ref mY, .ref mE, .ref mG, .ref mB, .ref mO, .int (zI (tw))]))) hF 0 rfl (pw_c (q := (mA, .inl (cI, 5, .inl (zA ar)))) hF 1 rfl (pw_c (q := (mC, .inl (cI, 2608, .inl (zA co)))) hF 3 rfl (pw_nil)))) hK hN) rfl rfl hl.1 rfl (lv_room (Nat.le_of_ble_eq_true rfl)) qd_M_path_63 ⟨Nat.le_of_ble_eq_true rfl, Nat.le_of_ble_eq_true rfl⟩) (fun r63 hr63 => ?_)
          refine zz_ifeqB (tgt := 71) hx hb qd_M_path_66 (by decide) (fun h66 => ?_) (fun h66 => ?_)
          · skip
            have hn9 : ¬ (tb gr (prt te i k) j ∨ smP th te (prt te i k) th2 te2 j) := fun hs => hs.elim (fun q => by unfold tb at q; rw [q] at h53; exact Bool.noConfusion h53) (fun q => by rw [hr63.mpr q] at h66; exact Bool.noConfusion h66)
            refine lv_aload_n hx hb qd_M_path_71 rfl (lv_at hl 4 rfl) ?_
            refine va_get (D := (dC, dI)) (ci := 6) (v := .ref mE) (C := "TermOrdersModel") (T := qT_M) (N := 17) hx hb hg qi_M hown hK hF 0 rfl rfl 12 (by decide) (hg _ wd_630) (fun _ h9 => h9) rfl qd_M_path_72 ?_
            refine lv_iload hx hb qd_M_path_75 (lv_at hl 3 rfl) ?_
            refine zz_eald hx hb hK hF 4 0 rfl rfl (prt te i k) rfl (by omega) (by omega) qd_M_path_77 ?_
            refine zz_top (b := ↑(prt te i (k + 1))) (by rw [hf1]; rfl) ?_
            refine lv_istore (lv' := [(5, .int (zI (↑(prt te i (k + 1))))), (8, .int (zI (↑k))), (7, .int (zI (th2 j))), (6, .int (zI (th i))), (0, .ref o), (1, .int (zI (↑b))), (2, .int (zI (↑i))), (3, .int (zI (↑b2))), (4, .int (zI (↑j)))]) hx hb qd_M_path_78 hl (by decide) rfl (fun ls hl => ?_)
            refine lv_iinc (k := 1) (lv' := [(8, .int (zI (↑(k + 1)))), (5, .int (zI (↑(prt te i (k + 1))))), (7, .int (zI (th2 j))), (6, .int (zI (th i))), (0, .ref o), (1, .int (zI (↑b))), (2, .int (zI (↑i))), (3, .int (zI (↑b2))), (4, .int (zI (↑j)))]) hx hb qd_M_path_80 hl rfl (zI_inc (v := ↑(k + 1)) (by omega)) (by decide) rfl (fun ls hl => ?_)
            refine lv_goto (tgt := 29) hx hb qd_M_path_83 (by decide) ?_
            have hl := lv_sub (l' := [(8, .int (zI (↑(k + 1)))), (7, .int (zI (th2 j))), (6, .int (zI (th i))), (5, .int (zI (↑(prt te i (k + 1))))), (0, .ref o), (1, .int (zI (↑b))), (2, .int (zI (↑i))), (3, .int (zI (↑b2))), (4, .int (zI (↑j)))]) hl [0, 2, 3, 1, 4, 5, 6, 7, 8] rfl
            exact ih29 _ (by omega) (k + 1) (by omega) (fun q hq => if hqk : q < k then hz q hqk else (by rw [show q = k by omega]; exact hn9)) rfl ls hl
          · skip
            have hy9 : paP (tb gr) rk th te tm i th2 te2 tm2 j := Or.inl ⟨k, by omega, Or.inr (hr63.mp h66)⟩
            refine lv_iconst (v := zI 1) hx hb qd_M_path_69 rfl ?_
            exact W.zret (v := zI 1) (ty := .boolean) hx hb hr rfl (fun t9 ht9 _ => ⟨true, rfl, bT (hy9), ht9⟩) t_nil qd_M_path_70
  exact L29 _ 0 (by omega) (fun q hq => by omega) rfl ls hl
set_option maxHeartbeats 4000000 in
set_option maxRecDepth 100000 in
theorem c_M_weighs (l : Launch) (dC : Nat → ClassId) (dI : Nat → Nat → Nat) (cI cZ cT cJ : ClassId) (o mA mR mW mC mS mL mT mH mY mE mG mB mO sy tc rc : Nat) (tw : Int) (ar rk wt co : Nat → Int) (sz lf rg : Nat → Nat) (hi hv : Nat → Int) (ef : Nat → Nat) (gr : Nat → Bool) (bd ol : Nat → Int) (b n : Nat) (th tm : Nat → Int) (te : Nat → Nat) (b2 n2 : Nat) (th2 tm2 : Nat → Int) (te2 : Nat → Nat) (i j : Nat) (hrk : ∀ q, q < 5 → 0 ≤ rk q ∧ rk q ≤ 4) (hwt : ∀ q, q < 5 → 0 ≤ wt q ∧ wt q ≤ 9) (har : ∀ q, q < 5 → 0 ≤ ar q ∧ ar q ≤ 3) (h16 : n ≤ 16) (hb0 : b + 16 ≤ 2608) (hco : ∀ q, q < n → co (b + q) = th q) (htm : ∀ q, q < n → tm q = mny ar (th q)) (hh : ∀ q, q < n → -4 ≤ th q ∧ th q ≤ 4) (we : wfE tm n te) (h162 : n2 ≤ 16) (hb02 : b2 + 16 ≤ 2608) (hco2 : ∀ q, q < n2 → co (b2 + q) = th2 q) (htm2 : ∀ q, q < n2 → tm2 q = mny ar (th2 q)) (hh2 : ∀ q, q < n2 → -4 ≤ th2 q ∧ th2 q ≤ 4) (we2 : wfE tm2 n2 te2) (hi9 : i < n) (hj9 : j < n2) (hef : ∀ q, q < n → ef q = te q) (hef2 : ∀ q, q < n2 → ef (16 + q) = te2 q) (hhv : ∀ q, q < n → hv q = wsum th wt q (te q - q)) (hhv2 : ∀ q, q < n2 → hv (16 + q) = wsum th2 wt q (te2 q - q)) : Met l qy_M_weighs qw_M_weighs ({ frames := 4, cells := 0, slots := 0, locals := 98 }) (rdP (dC, dI) qcl (qty cI cZ cT cJ) nwL [(o, .inr (6, [.int (zI (↑sy)), .ref mA, .ref mR, .ref mW, .int (zI (↑tc)), .ref mC, .ref mS, .int (zI (↑rc)), .ref mL, .ref mT, .ref mH, .ref mY, .ref mE, .ref mG, .ref mB, .ref mO, .int (zI (tw))])), (mA, .inl (cI, 5, .inl (zA ar))), (mR, .inl (cI, 5, .inl (zA rk))), (mW, .inl (cI, 5, .inl (zA wt))), (mC, .inl (cI, 2608, .inl (zA co))), (mY, .inl (cI, 32, .inl (zA hv))), (mE, .inl (cI, 32, .inl (zA (eI ef)))), (mG, .inl (cZ, 256, .inl (zB gr)))] [.ref o, .int (zI (↑b)), .int (zI (↑i)), .int (zI (↑b2)), .int (zI (↑j))]) (rdB (weP (tb gr) rk wt th te tm i th2 te2 j)) 0 0 (fun _ => False) := by
  refine Met.ofW (cc := qc_M_weighs) (maxL := 10) (ret := (Option.some Jvm.ClassFile.FieldType.boolean)) (by decide) rfl ?_
  intro pg eg sg mg args below meth cg s₁ B hml hv
  obtain ⟨rfl, hF, hK, hN⟩ := hv
  have hx := B.exec
  have hb := B.bytes
  have hr := B.returns
  have hts := atoms_spec (ws := qw_M_weighs) B.pre
  have hg : ∀ w ∈ gw, w.before _ sg = true := fun w h => hts w (List.mem_cons_of_mem _ h)
  have hown : sg.vm.findClass "TermOrdersModel" = some mg.cls := findClass_of_methodNamed B.named
  have hlocks := B.notSynchronized
  have hl := lv_entry ([.ref o, .int (zI (↑b)), .int (zI (↑i)), .int (zI (↑b2)), .int (zI (↑j))]) (n := 10) (Nat.le_of_ble_eq_true rfl)
  rw [lg_entry_eq]
  generalize (lg_sl ([.ref o, .int (zI (↑b)), .int (zI (↑i)), .int (zI (↑b2)), .int (zI (↑j))]) ++ List.replicate (10 - (lg_sl ([.ref o, .int (zI (↑b)), .int (zI (↑i)), .int (zI (↑b2)), .int (zI (↑j))])).length) Slot.unset).toArray = ls at hl ⊢
  have hl : lv_has ls 10 [(0, .ref o), (1, .int (zI (↑b))), (2, .int (zI (↑i))), (3, .int (zI (↑b2))), (4, .int (zI (↑j)))] := hl
  have hmq := mq_b har hh htm
  have hmi := hmq i hi9
  have hc9 := hco i hi9
  have hdj := hco2 j hj9
  have hti := htm i hi9
  have hh9 := hh i hi9
  have hk9 := hh2 j hj9
  obtain ⟨w1, w2, w3, w4⟩ := we i hi9
  obtain ⟨v1, v2, v3, v4⟩ := we2 j hj9
  have hf1 := hef i hi9
  have hf2 := hef2 j hj9
  have hy1 := hhv i hi9
  have hy2 := hhv2 j hj9
  have hwb1 := wsum_b (h := th) (wt := wt) (a := i) (te i - i) (fun k hk hz => hwt _ (by have := hh (i + k) (by omega); omega))
  have hwb2 := wsum_b (h := th2) (wt := wt) (a := j) (te2 j - j) (fun k hk hz => hwt _ (by have := hh2 (j + k) (by omega); omega))
  refine lv_iconst (v := zI 0) hx hb qd_M_weighs_0 rfl ?_
  refine lv_istore (lv' := [(5, .int (zI (0))), (0, .ref o), (1, .int (zI (↑b))), (2, .int (zI (↑i))), (3, .int (zI (↑b2))), (4, .int (zI (↑j)))]) hx hb qd_M_weighs_1 hl (by decide) rfl (fun ls hl => ?_)
  have L3 : ∀ (d9 : Nat) (v : Nat), (v ≤ 4) → (∀ u : Nat, u < v → cnt th2 (-1 - u) j (te2 j - j) ≤ cnt th (-1 - u) i (te i - i)) → 4 - v = d9 → ∀ ls : Array Slot, lv_has ls 10 [(5, .int (zI (↑v))), (0, .ref o), (1, .int (zI (↑b))), (2, .int (zI (↑i))), (3, .int (zI (↑b2))), (4, .int (zI (↑j)))] → W pg l eg (headSpec qw_M_weighs ({ frames := 4, cells := 0, slots := 0, locals := 98 })).room sg mg ([.ref o, .int (zI (↑b)), .int (zI (↑i)), .int (zI (↑b2)), .int (zI (↑j))] : List Value).toArray below meth cg sg.heap [] 0 0 (MQ below (rdB (weP (tb gr) rk wt th te tm i th2 te2 j)) ([.ref o, .int (zI (↑b)), .int (zI (↑i)), .int (zI (↑b2)), .int (zI (↑j))] : List Value).toArray sg 0 0 (fun _ => False)) (F0 mg 3 ls []) := by
    intro d9
    induction d9 using Nat.strongRecOn with
    | _ d9 ih3 =>
      intro v hv4 hz hd9 ls hl
      refine lv_iload hx hb qd_M_weighs_3 (lv_at hl 0 rfl) ?_
      refine lv_iconst (v := zI 4) hx hb qd_M_weighs_5 rfl ?_
      refine zz_icmp_ge (tgt := 57) hx hb qd_M_weighs_6 (by decide) (by omega) (by omega) (fun h6 => ?_) (fun h6 => ?_)
      · skip
        have hV : ∀ u : Nat, u < 4 → cnt th2 (-1 - u) j (te2 j - j) ≤ cnt th (-1 - u) i (te i - i) := fun u hu => hz u (by omega)
        refine lv_aload_n hx hb qd_M_weighs_57 rfl (lv_at hl 1 rfl) ?_
        refine va_get (D := (dC, dI)) (ci := 6) (v := .ref mC) (C := "TermOrdersModel") (T := qT_M) (N := 17) hx hb hg qi_M hown hK hF 0 rfl rfl 5 (by decide) (hg _ wd_623) (fun _ h9 => h9) rfl qd_M_weighs_58 ?_
        refine lv_iload_n hx hb qd_M_weighs_61 rfl (lv_at hl 2 rfl) ?_
        refine lv_iload_n hx hb qd_M_weighs_62 rfl (lv_at hl 3 rfl) ?_
        refine zz_iadd hx hb ((↑b) + (↑i)) rfl qd_M_weighs_63 ?_
        refine zz_iald hx hb hK hF 4 0 rfl rfl (b + i) (by omega) (by omega) (by omega) qd_M_weighs_64 ?_
        refine zz_top (b := th i) hc9 ?_
        refine lv_istore (lv' := [(5, .int (zI (th i))), (0, .ref o), (1, .int (zI (↑b))), (2, .int (zI (↑i))), (3, .int (zI (↑b2))), (4, .int (zI (↑j)))]) hx hb qd_M_weighs_65 hl (by decide) rfl (fun ls hl => ?_)
        refine lv_aload_n hx hb qd_M_weighs_67 rfl (lv_at hl 1 rfl) ?_
        refine va_get (D := (dC, dI)) (ci := 6) (v := .ref mC) (C := "TermOrdersModel") (T := qT_M) (N := 17) hx hb hg qi_M hown hK hF 0 rfl rfl 5 (by decide) (hg _ wd_623) (fun _ h9 => h9) rfl qd_M_weighs_68 ?_
        refine lv_iload_n hx hb qd_M_weighs_71 rfl (lv_at hl 4 rfl) ?_
        refine lv_iload hx hb qd_M_weighs_72 (lv_at hl 5 rfl) ?_
        refine zz_iadd hx hb ((↑b2) + (↑j)) rfl qd_M_weighs_74 ?_
        refine zz_iald hx hb hK hF 4 0 rfl rfl (b2 + j) (by omega) (by omega) (by omega) qd_M_weighs_75 ?_
        refine zz_top (b := th2 j) hdj ?_
        refine lv_istore (lv' := [(6, .int (zI (th2 j))), (5, .int (zI (th i))), (0, .ref o), (1, .int (zI (↑b))), (2, .int (zI (↑i))), (3, .int (zI (↑b2))), (4, .int (zI (↑j)))]) hx hb qd_M_weighs_76 hl (by decide) rfl (fun ls hl => ?_)
        refine lv_aload_n hx hb qd_M_weighs_78 rfl (lv_at hl 2 rfl) ?_
        refine va_get (D := (dC, dI)) (ci := 6) (v := .ref mY) (C := "TermOrdersModel") (T := qT_M) (N := 17) hx hb hg qi_M hown hK hF 0 rfl rfl 11 (by decide) (hg _ wd_629) (fun _ h9 => h9) rfl qd_M_weighs_79 ?_
        refine lv_iload_n hx hb qd_M_weighs_82 rfl (lv_at hl 4 rfl) ?_
        refine zz_iald hx hb hK hF 5 0 rfl rfl i rfl (by omega) (by omega) qd_M_weighs_83 ?_
        refine zz_top (b := wsum th wt i (te i - i)) hy1 ?_
        refine lv_aload_n hx hb qd_M_weighs_84 rfl (lv_at hl 2 rfl) ?_
        refine va_get (D := (dC, dI)) (ci := 6) (v := .ref mY) (C := "TermOrdersModel") (T := qT_M) (N := 17) hx hb hg qi_M hown hK hF 0 rfl rfl 11 (by decide) (hg _ wd_629) (fun _ h9 => h9) rfl qd_M_weighs_85 ?_
        refine lv_bipush (v := zI 16) hx hb qd_M_weighs_88 (by decide) ?_
        refine lv_iload hx hb qd_M_weighs_90 (lv_at hl 6 rfl) ?_
        refine zz_iadd hx hb (16 + (↑j)) rfl qd_M_weighs_92 ?_
        refine zz_iald hx hb hK hF 5 0 rfl rfl (16 + j) (by omega) (by omega) (by omega) qd_M_weighs_93 ?_
        refine zz_top (b := wsum th2 wt j (te2 j - j)) hy2 ?_
        refine zz_icmp_eq (tgt := 122) hx hb qd_M_weighs_94 (by decide) (by omega) (by omega) (fun h94 => ?_) (fun h94 => ?_)
        · skip
          refine lv_iload hx hb qd_M_weighs_122 (lv_at hl 0 rfl) ?_
          refine zz_if_ge (tgt := 224) hx hb qd_M_weighs_124 (by decide) (by omega) (fun h124 => ?_) (fun h124 => ?_)
          · skip
            have hX : weP (tb gr) rk wt th te tm i th2 te2 j → _ := fun q => (q.2.2 h94).2 h124
            refine lv_iload hx hb qd_M_weighs_224 (lv_at hl 1 rfl) ?_
            refine zz_if_lt (tgt := 272) hx hb qd_M_weighs_226 (by decide) (by omega) (fun h226 => ?_) (fun h226 => ?_)
            · skip
              have hno : ¬ weP (tb gr) rk wt th te tm i th2 te2 j := fun q => by have := (hX q).1; omega
              refine lv_iconst (v := zI 0) hx hb qd_M_weighs_272 rfl ?_
              exact W.zret (v := zI 0) (ty := .boolean) hx hb hr rfl (fun t9 ht9 _ => ⟨false, rfl, bF (hno), ht9⟩) t_nil qd_M_weighs_273
            · skip
              have hq5 := hrk (th i).toNat (by omega)
              have hq6 := hrk (th2 j).toNat (by omega)
              refine lv_iload hx hb qd_M_weighs_229 (lv_at hl 1 rfl) ?_
              refine lv_iload hx hb qd_M_weighs_231 (lv_at hl 0 rfl) ?_
              refine zz_icmp_ne (tgt := 251) hx hb qd_M_weighs_233 (by decide) (by omega) (by omega) (fun h233 => ?_) (fun h233 => ?_)
              · skip
                refine lv_aload_n hx hb qd_M_weighs_251 rfl (lv_at hl 2 rfl) ?_
                refine va_get (D := (dC, dI)) (ci := 6) (v := .ref mR) (C := "TermOrdersModel") (T := qT_M) (N := 17) hx hb hg qi_M hown hK hF 0 rfl rfl 2 (by decide) (hg _ wd_620) (fun _ h9 => h9) rfl qd_M_weighs_252 ?_
                refine lv_iload hx hb qd_M_weighs_255 (lv_at hl 1 rfl) ?_
                refine zz_iald hx hb hK hF 2 0 rfl rfl ((th i).toNat) (by omega) (by omega) (by omega) qd_M_weighs_257 ?_
                refine lv_aload_n hx hb qd_M_weighs_258 rfl (lv_at hl 2 rfl) ?_
                refine va_get (D := (dC, dI)) (ci := 6) (v := .ref mR) (C := "TermOrdersModel") (T := qT_M) (N := 17) hx hb hg qi_M hown hK hF 0 rfl rfl 2 (by decide) (hg _ wd_620) (fun _ h9 => h9) rfl qd_M_weighs_259 ?_
                refine lv_iload hx hb qd_M_weighs_262 (lv_at hl 0 rfl) ?_
                refine zz_iald hx hb hK hF 2 0 rfl rfl ((th2 j).toNat) (by omega) (by omega) (by omega) qd_M_weighs_264 ?_
                refine zz_icmp_le (tgt := 272) hx hb qd_M_weighs_265 (by decide) (by omega) (by omega) (fun h265 => ?_) (fun h265 => ?_)
                · skip
                  have hno : ¬ weP (tb gr) rk wt th te tm i th2 te2 j := fun q => by have := (hX q).2.1 h233; omega
                  refine lv_iconst (v := zI 0) hx hb qd_M_weighs_272 rfl ?_
                  exact W.zret (v := zI 0) (ty := .boolean) hx hb hr rfl (fun t9 ht9 _ => ⟨false, rfl, bF (hno), ht9⟩) t_nil qd_M_weighs_273
                · skip
                  have hye : weP (tb gr) rk wt th te tm i th2 te2 j := ⟨hV, fun q9 => absurd h94 q9, fun _ => ⟨fun q9 => absurd q9 (by omega), fun _ => ⟨by omega, fun _ => by omega, fun q9 => absurd q9 h233⟩⟩⟩
                  refine lv_iconst (v := zI 1) hx hb qd_M_weighs_268 rfl ?_
                  refine lv_goto (tgt := 273) hx hb qd_M_weighs_269 (by decide) ?_
                  exact W.zret (v := zI 1) (ty := .boolean) hx hb hr rfl (fun t9 ht9 _ => ⟨true, rfl, bT (hye), ht9⟩) t_nil qd_M_weighs_273
              · skip
                refine lv_aload_n hx hb qd_M_weighs_236 rfl (lv_at hl 2 rfl) ?_
                refine lv_iload_n hx hb qd_M_weighs_237 rfl (lv_at hl 3 rfl) ?_
                refine lv_iload_n hx hb qd_M_weighs_238 rfl (lv_at hl 4 rfl) ?_
                refine lv_iload_n hx hb qd_M_weighs_239 rfl (lv_at hl 5 rfl) ?_
                refine lv_iload hx hb qd_M_weighs_240 (lv_at hl 6 rfl) ?_
                refine rd_callB (W.runV (As := [.int (zI (↑b)), .int (zI (↑i)), .int (zI (↑b2)), .int (zI (↑j))]) (rest := []) ⟨hx, hb, hml, hown, hg⟩ (c_M_inOrder l dC dI cI cZ cT cJ o mA mR mW mC mS mL mT mH mY mE mG mB mO sy tc rc tw ar rk wt co sz lf rg hi hv ef gr bd ol b n th tm te b2 n2 th2 tm2 te2 i j har h16 hb0 hco htm hh we h162 hb02 hco2 htm2 hh2 we2 hi9 hj9 hef hef2 h233) ⟨callB_of 4 hg (gw_ok (fun _ h => h) wd_753) rfl rfl rfl (hg _ wd_6) (hg _ wd_750) (by decide +kernel) ⟨Nat.le_of_ble_eq_true rfl, Nat.le_of_ble_eq_true rfl⟩, hg _ wd_752, hg _ se_M_inOrder⟩ (rd_preV (va_recv (q0 := 0) hK hF rfl rfl) (pw_c (q := (o, .inr (6, [.int (zI (↑sy)), .ref mA, .ref mR, .ref mW, .int (zI (↑tc)), .ref mC, .ref mS, .int (zI (↑rc)), .ref mL, .ref mT, .ref mH, .ref mY, .ref mE, .ref mG, .ref mB, .ref mO, .int (zI (tw))]))) hF 0 rfl (pw_c (q := (mA, .inl (cI, 5, .inl (zA ar)))) hF 1 rfl (pw_c (q := (mC, .inl (cI, 2608, .inl (zA co)))) hF 4 rfl (pw_c (q := (mE, .inl (cI, 32, .inl (zA (eI ef))))) hF 6 rfl (pw_c (q := (mG, .inl (cZ, 256, .inl (zB gr)))) hF 7 rfl (pw_nil)))))) hK hN) rfl rfl hl.1 rfl (lv_room (Nat.le_of_ble_eq_true rfl)) qd_M_weighs_242 ⟨Nat.le_of_ble_eq_true rfl, Nat.le_of_ble_eq_true rfl⟩) (fun r242 hr242 => ?_)
                refine zz_ifeqB (tgt := 272) hx hb qd_M_weighs_245 (by decide) (fun h245 => ?_) (fun h245 => ?_)
                · skip
                  have hno : ¬ weP (tb gr) rk wt th te tm i th2 te2 j := fun q => by rw [hr242.mpr ((hX q).2.2 h233)] at h245; exact Bool.noConfusion h245
                  refine lv_iconst (v := zI 0) hx hb qd_M_weighs_272 rfl ?_
                  exact W.zret (v := zI 0) (ty := .boolean) hx hb hr rfl (fun t9 ht9 _ => ⟨false, rfl, bF (hno), ht9⟩) t_nil qd_M_weighs_273
                · skip
                  have hye : weP (tb gr) rk wt th te tm i th2 te2 j := ⟨hV, fun q9 => absurd h94 q9, fun _ => ⟨fun q9 => absurd q9 (by omega), fun _ => ⟨by omega, fun q9 => absurd h233 q9, fun _ => hr242.mp h245⟩⟩⟩
                  refine lv_goto (tgt := 268) hx hb qd_M_weighs_248 (by decide) ?_
                  refine lv_iconst (v := zI 1) hx hb qd_M_weighs_268 rfl ?_
                  refine lv_goto (tgt := 273) hx hb qd_M_weighs_269 (by decide) ?_
                  exact W.zret (v := zI 1) (ty := .boolean) hx hb hr rfl (fun t9 ht9 _ => ⟨true, rfl, bT (hye), ht9⟩) t_nil qd_M_weighs_273
          · skip
            have hdv : th2 j < 0 := by omega
            have hY : rdV th te tm i (th2 j) → weP (tb gr) rk wt th te tm i th2 te2 j := fun q => ⟨hV, fun q9 => absurd h94 q9, fun _ => ⟨fun _ => q, fun q9 => absurd hdv (by omega)⟩⟩
            have hX : weP (tb gr) rk wt th te tm i th2 te2 j → rdV th te tm i (th2 j) := fun q => (q.2.2 h94).1 hdv
            refine lv_aload_n hx hb qd_M_weighs_127 rfl (lv_at hl 2 rfl) ?_
            refine va_get (D := (dC, dI)) (ci := 6) (v := .ref mE) (C := "TermOrdersModel") (T := qT_M) (N := 17) hx hb hg qi_M hown hK hF 0 rfl rfl 12 (by decide) (hg _ wd_630) (fun _ h9 => h9) rfl qd_M_weighs_128 ?_
            refine lv_iload_n hx hb qd_M_weighs_131 rfl (lv_at hl 4 rfl) ?_
            refine zz_eald hx hb hK hF 6 0 rfl rfl i rfl (by omega) (by omega) qd_M_weighs_132 ?_
            refine zz_top (b := ↑(te i)) (by rw [hf1]) ?_
            refine lv_iconst (v := zI 1) hx hb qd_M_weighs_133 rfl ?_
            refine zz_isub hx hb (↑(te i - 1)) (by omega) qd_M_weighs_134 ?_
            refine lv_istore (lv' := [(7, .int (zI (↑(te i - 1)))), (6, .int (zI (th2 j))), (5, .int (zI (th i))), (0, .ref o), (1, .int (zI (↑b))), (2, .int (zI (↑i))), (3, .int (zI (↑b2))), (4, .int (zI (↑j)))]) hx hb qd_M_weighs_135 hl (by decide) rfl (fun ls hl => ?_)
            have J177 : ∀ (r0 : Bool), (r0 = true ↔ (i + 1 < te i ∧ 0 ≤ th i ∧ tm i = 1 ∧ th (te i - 1) = th2 j ∧ ∀ k, i ≤ k → k < i + 0 → th k = th i)) → ∀ ls : Array Slot, lv_has ls 10 [(7, .int (zI (↑(te i - 1)))), (6, .int (zI (th2 j))), (5, .int (zI (th i))), (0, .ref o), (1, .int (zI (↑b))), (2, .int (zI (↑i))), (3, .int (zI (↑b2))), (4, .int (zI (↑j)))] → W pg l eg (headSpec qw_M_weighs ({ frames := 4, cells := 0, slots := 0, locals := 98 })).room sg mg ([.ref o, .int (zI (↑b)), .int (zI (↑i)), .int (zI (↑b2)), .int (zI (↑j))] : List Value).toArray below meth cg sg.heap [] 0 0 (MQ below (rdB (weP (tb gr) rk wt th te tm i th2 te2 j)) ([.ref o, .int (zI (↑b)), .int (zI (↑i)), .int (zI (↑b2)), .int (zI (↑j))] : List Value).toArray sg 0 0 (fun _ => False)) (F0 mg 177 ls [.int (zI (bI (r0)))]) := by
              intro r0 hr0 ls hl
              refine lv_istore (lv' := [(8, .int (zI (bI (r0)))), (7, .int (zI (↑(te i - 1)))), (6, .int (zI (th2 j))), (5, .int (zI (th i))), (0, .ref o), (1, .int (zI (↑b))), (2, .int (zI (↑i))), (3, .int (zI (↑b2))), (4, .int (zI (↑j)))]) hx hb qd_M_weighs_177 hl (by decide) rfl (fun ls hl => ?_)
              refine lv_iload_n hx hb qd_M_weighs_179 rfl (lv_at hl 6 rfl) ?_
              refine lv_istore (lv' := [(9, .int (zI (↑i))), (8, .int (zI (bI (r0)))), (7, .int (zI (↑(te i - 1)))), (6, .int (zI (th2 j))), (5, .int (zI (th i))), (0, .ref o), (1, .int (zI (↑b))), (2, .int (zI (↑i))), (3, .int (zI (↑b2))), (4, .int (zI (↑j)))]) hx hb qd_M_weighs_180 hl (by decide) rfl (fun ls hl => ?_)
              have L182 : ∀ (d9 : Nat) (rd : Bool) (k : Nat), (i + k ≤ te i - 1 ∨ k = 0) → (rd = true ↔ (i + 1 < te i ∧ 0 ≤ th i ∧ tm i = 1 ∧ th (te i - 1) = th2 j ∧ ∀ q, i ≤ q → q < i + k → th q = th i)) → te i - 1 - (i + k) = d9 → ∀ ls : Array Slot, lv_has ls 10 [(9, .int (zI (↑(i + k)))), (8, .int (zI (bI (rd)))), (7, .int (zI (↑(te i - 1)))), (6, .int (zI (th2 j))), (5, .int (zI (th i))), (0, .ref o), (1, .int (zI (↑b))), (2, .int (zI (↑i))), (3, .int (zI (↑b2))), (4, .int (zI (↑j)))] → W pg l eg (headSpec qw_M_weighs ({ frames := 4, cells := 0, slots := 0, locals := 98 })).room sg mg ([.ref o, .int (zI (↑b)), .int (zI (↑i)), .int (zI (↑b2)), .int (zI (↑j))] : List Value).toArray below meth cg sg.heap [] 0 0 (MQ below (rdB (weP (tb gr) rk wt th te tm i th2 te2 j)) ([.ref o, .int (zI (↑b)), .int (zI (↑i)), .int (zI (↑b2)), .int (zI (↑j))] : List Value).toArray sg 0 0 (fun _ => False)) (F0 mg 182 ls []) := by
                intro d9
                induction d9 using Nat.strongRecOn with
                | _ d9 ih182 =>
                  intro rd k hk hrd hd9 ls hl
                  refine lv_iload hx hb qd_M_weighs_182 (lv_at hl 0 rfl) ?_
                  refine lv_iload hx hb qd_M_weighs_184 (lv_at hl 2 rfl) ?_
                  refine zz_icmp_ge (tgt := 221) hx hb qd_M_weighs_186 (by decide) (by omega) (by omega) (fun h186 => ?_) (fun h186 => ?_)
                  · skip
                    refine lv_iload hx hb qd_M_weighs_221 (lv_at hl 1 rfl) ?_
                    exact W.zret (v := zI (bI rd)) (ty := .boolean) hx hb hr (bI_n _) (fun t9 ht9 _ => ⟨rd, rfl, ⟨fun q => hY (by have hA := hrd.mp q; exact ⟨hA.1, hA.2.2.2.1, hA.2.2.1, fun k9 a1 a2 => hA.2.2.2.2 k9 a1 (by omega)⟩), fun q => hrd.mpr (by have hA := hX q; refine ⟨hA.1, ?_, hA.2.2.1, hA.2.1, fun k9 a1 a2 => hA.2.2.2 k9 a1 (by have := hA.1; omega)⟩; have h8 := hA.2.2.1; rw [hti] at h8; unfold mny at h8; split at h8 <;> omega)⟩, ht9⟩) t_nil qd_M_weighs_223
                  · skip
                    have J213 : ∀ (r1 : Bool), (r1 = true ↔ (i + 1 < te i ∧ 0 ≤ th i ∧ tm i = 1 ∧ th (te i - 1) = th2 j ∧ ∀ q, i ≤ q → q < i + (k + 1) → th q = th i)) → ∀ ls : Array Slot, lv_has ls 10 [(9, .int (zI (↑(i + k)))), (8, .int (zI (bI (rd)))), (7, .int (zI (↑(te i - 1)))), (6, .int (zI (th2 j))), (5, .int (zI (th i))), (0, .ref o), (1, .int (zI (↑b))), (2, .int (zI (↑i))), (3, .int (zI (↑b2))), (4, .int (zI (↑j)))] → W pg l eg (headSpec qw_M_weighs ({ frames := 4, cells := 0, slots := 0, locals := 98 })).room sg mg ([.ref o, .int (zI (↑b)), .int (zI (↑i)), .int (zI (↑b2)), .int (zI (↑j))] : List Value).toArray below meth cg sg.heap [] 0 0 (MQ below (rdB (weP (tb gr) rk wt th te tm i th2 te2 j)) ([.ref o, .int (zI (↑b)), .int (zI (↑i)), .int (zI (↑b2)), .int (zI (↑j))] : List Value).toArray sg 0 0 (fun _ => False)) (F0 mg 213 ls [.int (zI (bI (r1)))]) := by
                      intro r1 hr1 ls hl
                      refine lv_istore (lv' := [(8, .int (zI (bI (r1)))), (9, .int (zI (↑(i + k)))), (7, .int (zI (↑(te i - 1)))), (6, .int (zI (th2 j))), (5, .int (zI (th i))), (0, .ref o), (1, .int (zI (↑b))), (2, .int (zI (↑i))), (3, .int (zI (↑b2))), (4, .int (zI (↑j)))]) hx hb qd_M_weighs_213 hl (by decide) rfl (fun ls hl => ?_)
                      refine lv_iinc (k := 1) (lv' := [(9, .int (zI (↑(i + (k + 1))))), (8, .int (zI (bI (r1)))), (7, .int (zI (↑(te i - 1)))), (6, .int (zI (th2 j))), (5, .int (zI (th i))), (0, .ref o), (1, .int (zI (↑b))), (2, .int (zI (↑i))), (3, .int (zI (↑b2))), (4, .int (zI (↑j)))]) hx hb qd_M_weighs_215 hl rfl (zI_inc (v := ↑(i + (k + 1))) (by omega)) (by decide) rfl (fun ls hl => ?_)
                      refine lv_goto (tgt := 182) hx hb qd_M_weighs_218 (by decide) ?_
                      exact ih182 _ (by omega) r1 (k + 1) (by omega) hr1 rfl ls hl
                    refine lv_iload hx hb qd_M_weighs_189 (lv_at hl 1 rfl) ?_
                    refine zz_ifeqB (tgt := 212) hx hb qd_M_weighs_191 (by decide) (fun h191 => ?_) (fun h191 => ?_)
                    · skip
                      have hr1 : (false = true ↔ (i + 1 < te i ∧ 0 ≤ th i ∧ tm i = 1 ∧ th (te i - 1) = th2 j ∧ ∀ q, i ≤ q → q < i + (k + 1) → th q = th i)) := bF (fun q => by rw [hrd.mpr ⟨q.1, q.2.1, q.2.2.1, q.2.2.2.1, fun k9 a1 a2 => q.2.2.2.2 k9 a1 (by omega)⟩] at h191; exact Bool.noConfusion h191)
                      refine lv_iconst (v := zI 0) hx hb qd_M_weighs_212 rfl ?_
                      exact J213 false hr1 ls hl
                    · skip
                      have hz7 := hco (i + k) (by omega)
                      have hz6 := hh (i + k) (by omega)
                      have hA := hrd.mp h191
                      refine lv_aload_n hx hb qd_M_weighs_194 rfl (lv_at hl 5 rfl) ?_
                      refine va_get (D := (dC, dI)) (ci := 6) (v := .ref mC) (C := "TermOrdersModel") (T := qT_M) (N := 17) hx hb hg qi_M hown hK hF 0 rfl rfl 5 (by decide) (hg _ wd_623) (fun _ h9 => h9) rfl qd_M_weighs_195 ?_
                      refine lv_iload_n hx hb qd_M_weighs_198 rfl (lv_at hl 6 rfl) ?_
                      refine lv_iload hx hb qd_M_weighs_199 (lv_at hl 0 rfl) ?_
                      refine zz_iadd hx hb ((↑b) + (↑(i + k))) rfl qd_M_weighs_201 ?_
                      refine zz_iald hx hb hK hF 4 0 rfl rfl (b + (i + k)) (by omega) (by omega) (by omega) qd_M_weighs_202 ?_
                      refine zz_top (b := th (i + k)) hz7 ?_
                      refine lv_iload hx hb qd_M_weighs_203 (lv_at hl 4 rfl) ?_
                      refine zz_icmp_ne (tgt := 212) hx hb qd_M_weighs_205 (by decide) (by omega) (by omega) (fun h205 => ?_) (fun h205 => ?_)
                      · skip
                        have hr1 : (false = true ↔ (i + 1 < te i ∧ 0 ≤ th i ∧ tm i = 1 ∧ th (te i - 1) = th2 j ∧ ∀ q, i ≤ q → q < i + (k + 1) → th q = th i)) := bF (fun q => h205 (q.2.2.2.2 (i + k) (by omega) (by omega)))
                        refine lv_iconst (v := zI 0) hx hb qd_M_weighs_212 rfl ?_
                        exact J213 false hr1 ls hl
                      · skip
                        have hr1 : (true = true ↔ (i + 1 < te i ∧ 0 ≤ th i ∧ tm i = 1 ∧ th (te i - 1) = th2 j ∧ ∀ q, i ≤ q → q < i + (k + 1) → th q = th i)) := bT ⟨hA.1, hA.2.1, hA.2.2.1, hA.2.2.2.1, fun q a1 a2 => if hq : q < i + k then hA.2.2.2.2 q a1 hq else (by rw [show q = i + k by omega]; exact h205)⟩
                        refine lv_iconst (v := zI 1) hx hb qd_M_weighs_208 rfl ?_
                        refine lv_goto (tgt := 213) hx hb qd_M_weighs_209 (by decide) ?_
                        exact J213 true hr1 ls hl
              exact L182 _ r0 0 (Or.inr rfl) hr0 rfl ls hl
            refine lv_iload hx hb qd_M_weighs_137 (lv_at hl 0 rfl) ?_
            refine lv_iload_n hx hb qd_M_weighs_139 rfl (lv_at hl 5 rfl) ?_
            refine zz_icmp_le (tgt := 176) hx hb qd_M_weighs_140 (by decide) (by omega) (by omega) (fun h140 => ?_) (fun h140 => ?_)
            · skip
              have hr0 : (false = true ↔ (i + 1 < te i ∧ 0 ≤ th i ∧ tm i = 1 ∧ th (te i - 1) = th2 j ∧ ∀ k, i ≤ k → k < i + 0 → th k = th i)) := bF (fun q => by omega)
              refine lv_iconst (v := zI 0) hx hb qd_M_weighs_176 rfl ?_
              exact J177 false hr0 ls hl
            · skip
              refine lv_iload hx hb qd_M_weighs_143 (lv_at hl 2 rfl) ?_
              refine zz_if_lt (tgt := 176) hx hb qd_M_weighs_145 (by decide) (by omega) (fun h145 => ?_) (fun h145 => ?_)
              · skip
                have hr0 : (false = true ↔ (i + 1 < te i ∧ 0 ≤ th i ∧ tm i = 1 ∧ th (te i - 1) = th2 j ∧ ∀ k, i ≤ k → k < i + 0 → th k = th i)) := bF (fun q => by omega)
                refine lv_iconst (v := zI 0) hx hb qd_M_weighs_176 rfl ?_
                exact J177 false hr0 ls hl
              · skip
                refine lv_aload_n hx hb qd_M_weighs_148 rfl (lv_at hl 3 rfl) ?_
                refine lv_iload hx hb qd_M_weighs_149 (lv_at hl 2 rfl) ?_
                refine rd_callI (W.runV (As := [.int (zI ((th i)))]) (rest := []) ⟨hx, hb, hml, hown, hg⟩ (c_M_many l dC dI cI cZ cT cJ o mA mR mW mC mS mL mT mH mY mE mG mB mO sy tc rc tw ar rk wt co sz lf rg hi hv ef gr bd ol (th i) (by omega)) ⟨callB_of 1 hg (gw_ok (fun _ h => h) wd_709) rfl rfl rfl (hg _ wd_6) (hg _ wd_706) (by decide +kernel) ⟨Nat.le_of_ble_eq_true rfl, Nat.le_of_ble_eq_true rfl⟩, hg _ wd_708, hg _ se_M_many⟩ (rd_preV (va_recv (q0 := 0) hK hF rfl rfl) (pw_c (q := (o, .inr (6, [.int (zI (↑sy)), .ref mA, .ref mR, .ref mW, .int (zI (↑tc)), .ref mC, .ref mS, .int (zI (↑rc)), .ref mL, .ref mT, .ref mH, .ref mY, .ref mE, .ref mG, .ref mB, .ref mO, .int (zI (tw))]))) hF 0 rfl (pw_c (q := (mA, .inl (cI, 5, .inl (zA ar)))) hF 1 rfl (pw_nil))) hK hN) rfl rfl hl.1 rfl (lv_room (Nat.le_of_ble_eq_true rfl)) qd_M_weighs_151 ⟨Nat.le_of_ble_eq_true rfl, Nat.le_of_ble_eq_true rfl⟩) (fun r151 hr151 => ?_)
                have e151 : r151 = mny ar (th i) := hr151
                subst e151
                refine lv_iconst (v := zI 1) hx hb qd_M_weighs_154 rfl ?_
                refine zz_icmp_ne (tgt := 176) hx hb qd_M_weighs_155 (by decide) (by omega) (by omega) (fun h155 => ?_) (fun h155 => ?_)
                · skip
                  have hr0 : (false = true ↔ (i + 1 < te i ∧ 0 ≤ th i ∧ tm i = 1 ∧ th (te i - 1) = th2 j ∧ ∀ k, i ≤ k → k < i + 0 → th k = th i)) := bF (fun q => by omega)
                  refine lv_iconst (v := zI 0) hx hb qd_M_weighs_176 rfl ?_
                  exact J177 false hr0 ls hl
                · skip
                  have hz9 := hco (te i - 1) (by omega)
                  have hz8 := hh (te i - 1) (by omega)
                  refine lv_aload_n hx hb qd_M_weighs_158 rfl (lv_at hl 3 rfl) ?_
                  refine va_get (D := (dC, dI)) (ci := 6) (v := .ref mC) (C := "TermOrdersModel") (T := qT_M) (N := 17) hx hb hg qi_M hown hK hF 0 rfl rfl 5 (by decide) (hg _ wd_623) (fun _ h9 => h9) rfl qd_M_weighs_159 ?_
                  refine lv_iload_n hx hb qd_M_weighs_162 rfl (lv_at hl 4 rfl) ?_
                  refine lv_iload hx hb qd_M_weighs_163 (lv_at hl 0 rfl) ?_
                  refine zz_iadd hx hb ((↑b) + (↑(te i - 1))) rfl qd_M_weighs_165 ?_
                  refine zz_iald hx hb hK hF 4 0 rfl rfl (b + (te i - 1)) (by omega) (by omega) (by omega) qd_M_weighs_166 ?_
                  refine zz_top (b := th (te i - 1)) hz9 ?_
                  refine lv_iload hx hb qd_M_weighs_167 (lv_at hl 1 rfl) ?_
                  refine zz_icmp_ne (tgt := 176) hx hb qd_M_weighs_169 (by decide) (by omega) (by omega) (fun h169 => ?_) (fun h169 => ?_)
                  · skip
                    have hr0 : (false = true ↔ (i + 1 < te i ∧ 0 ≤ th i ∧ tm i = 1 ∧ th (te i - 1) = th2 j ∧ ∀ k, i ≤ k → k < i + 0 → th k = th i)) := bF (fun q => h169 q.2.2.2.1)
                    refine lv_iconst (v := zI 0) hx hb qd_M_weighs_176 rfl ?_
                    exact J177 false hr0 ls hl
                  · skip
                    have hr0 : (true = true ↔ (i + 1 < te i ∧ 0 ≤ th i ∧ tm i = 1 ∧ th (te i - 1) = th2 j ∧ ∀ k, i ≤ k → k < i + 0 → th k = th i)) := bT ⟨by omega, by omega, by omega, h169, fun k a1 a2 => by omega⟩
                    refine lv_iconst (v := zI 1) hx hb qd_M_weighs_172 rfl ?_
                    refine lv_goto (tgt := 177) hx hb qd_M_weighs_173 (by decide) ?_
                    exact J177 true hr0 ls hl
        · skip
          refine lv_aload_n hx hb qd_M_weighs_97 rfl (lv_at hl 2 rfl) ?_
          refine va_get (D := (dC, dI)) (ci := 6) (v := .ref mY) (C := "TermOrdersModel") (T := qT_M) (N := 17) hx hb hg qi_M hown hK hF 0 rfl rfl 11 (by decide) (hg _ wd_629) (fun _ h9 => h9) rfl qd_M_weighs_98 ?_
          refine lv_iload_n hx hb qd_M_weighs_101 rfl (lv_at hl 4 rfl) ?_
          refine zz_iald hx hb hK hF 5 0 rfl rfl i rfl (by omega) (by omega) qd_M_weighs_102 ?_
          refine zz_top (b := wsum th wt i (te i - i)) hy1 ?_
          refine lv_aload_n hx hb qd_M_weighs_103 rfl (lv_at hl 2 rfl) ?_
          refine va_get (D := (dC, dI)) (ci := 6) (v := .ref mY) (C := "TermOrdersModel") (T := qT_M) (N := 17) hx hb hg qi_M hown hK hF 0 rfl rfl 11 (by decide) (hg _ wd_629) (fun _ h9 => h9) rfl qd_M_weighs_104 ?_
          refine lv_bipush (v := zI 16) hx hb qd_M_weighs_107 (by decide) ?_
          refine lv_iload hx hb qd_M_weighs_109 (lv_at hl 6 rfl) ?_
          refine zz_iadd hx hb (16 + (↑j)) rfl qd_M_weighs_111 ?_
          refine zz_iald hx hb hK hF 5 0 rfl rfl (16 + j) (by omega) (by omega) (by omega) qd_M_weighs_112 ?_
          refine zz_top (b := wsum th2 wt j (te2 j - j)) hy2 ?_
          refine zz_icmp_le (tgt := 120) hx hb qd_M_weighs_113 (by decide) (by omega) (by omega) (fun h113 => ?_) (fun h113 => ?_)
          · skip
            have h113 : ¬ wsum th2 wt j (te2 j - j) < wsum th wt i (te i - i) := by omega
            refine lv_iconst (v := zI 0) hx hb qd_M_weighs_120 rfl ?_
            exact W.zret (v := zI 0) (ty := .boolean) hx hb hr rfl (fun t9 ht9 _ => ⟨false, rfl, bF ((fun hs => h113 (hs.2.1 h94))), ht9⟩) t_nil qd_M_weighs_121
          · skip
            refine lv_iconst (v := zI 1) hx hb qd_M_weighs_116 rfl ?_
            refine lv_goto (tgt := 121) hx hb qd_M_weighs_117 (by decide) ?_
            exact W.zret (v := zI 1) (ty := .boolean) hx hb hr rfl (fun t9 ht9 _ => ⟨true, rfl, bT (⟨hV, fun _ => by omega, fun q => absurd q h94⟩), ht9⟩) t_nil qd_M_weighs_121
      · skip
        refine lv_aload_n hx hb qd_M_weighs_9 rfl (lv_at hl 1 rfl) ?_
        refine lv_iload_n hx hb qd_M_weighs_10 rfl (lv_at hl 4 rfl) ?_
        refine lv_iload hx hb qd_M_weighs_11 (lv_at hl 5 rfl) ?_
        refine lv_aload_n hx hb qd_M_weighs_13 rfl (lv_at hl 1 rfl) ?_
        refine va_get (D := (dC, dI)) (ci := 6) (v := .ref mE) (C := "TermOrdersModel") (T := qT_M) (N := 17) hx hb hg qi_M hown hK hF 0 rfl rfl 12 (by decide) (hg _ wd_630) (fun _ h9 => h9) rfl qd_M_weighs_14 ?_
        refine lv_bipush (v := zI 16) hx hb qd_M_weighs_17 (by decide) ?_
        refine lv_iload hx hb qd_M_weighs_19 (lv_at hl 5 rfl) ?_
        refine zz_iadd hx hb (16 + (↑j)) rfl qd_M_weighs_21 ?_
        refine zz_eald hx hb hK hF 6 0 rfl rfl (16 + j) (by omega) (by omega) (by omega) qd_M_weighs_22 ?_
        refine zz_top (b := ↑(te2 j)) (by rw [hf2]) ?_
        refine lv_iconst (v := zI (-1)) hx hb qd_M_weighs_23 rfl ?_
        refine lv_iload hx hb qd_M_weighs_24 (lv_at hl 0 rfl) ?_
        refine zz_isub hx hb ((-1) - ↑v) (by omega) qd_M_weighs_26 ?_
        refine rd_callI (W.runV (As := [.int (zI (↑b2)), .int (zI (↑j)), .int (zI (↑(te2 j))), .int (zI (((-1) - ↑v)))]) (rest := []) ⟨hx, hb, hml, hown, hg⟩ (c_M_times l dC dI cI cZ cT cJ o mA mR mW mC mS mL mT mH mY mE mG mB mO sy tc rc tw ar rk wt co sz lf rg hi hv ef gr bd ol b2 n2 th2 tm2 te2 j (te2 j) ((-1) - ↑v) h162 hb02 hco2 hh2 (by omega) (by omega) (by omega)) ⟨callB_of 4 hg (gw_ok (fun _ h => h) wd_761) rfl rfl rfl (hg _ wd_6) (hg _ wd_758) (by decide +kernel) ⟨Nat.le_of_ble_eq_true rfl, Nat.le_of_ble_eq_true rfl⟩, hg _ wd_760, hg _ se_M_times⟩ (rd_preV (va_recv (q0 := 0) hK hF rfl rfl) (pw_c (q := (o, .inr (6, [.int (zI (↑sy)), .ref mA, .ref mR, .ref mW, .int (zI (↑tc)), .ref mC, .ref mS, .int (zI (↑rc)), .ref mL, .ref mT, .ref mH, .ref mY, .ref mE, .ref mG, .ref mB, .ref mO, .int (zI (tw))]))) hF 0 rfl (pw_c (q := (mC, .inl (cI, 2608, .inl (zA co)))) hF 4 rfl (pw_nil))) hK hN) rfl rfl hl.1 rfl (lv_room (Nat.le_of_ble_eq_true rfl)) qd_M_weighs_27 ⟨Nat.le_of_ble_eq_true rfl, Nat.le_of_ble_eq_true rfl⟩) (fun r27 hr27 => ?_)
        have e27 : r27 = cnt th2 ((-1) - ↑v) j (te2 j - j) := hr27
        subst e27
        refine lv_aload_n hx hb qd_M_weighs_30 rfl (lv_at hl 1 rfl) ?_
        refine lv_iload_n hx hb qd_M_weighs_31 rfl (lv_at hl 2 rfl) ?_
        refine lv_iload_n hx hb qd_M_weighs_32 rfl (lv_at hl 3 rfl) ?_
        refine lv_aload_n hx hb qd_M_weighs_33 rfl (lv_at hl 1 rfl) ?_
        refine va_get (D := (dC, dI)) (ci := 6) (v := .ref mE) (C := "TermOrdersModel") (T := qT_M) (N := 17) hx hb hg qi_M hown hK hF 0 rfl rfl 12 (by decide) (hg _ wd_630) (fun _ h9 => h9) rfl qd_M_weighs_34 ?_
        refine lv_iload_n hx hb qd_M_weighs_37 rfl (lv_at hl 3 rfl) ?_
        refine zz_eald hx hb hK hF 6 0 rfl rfl i rfl (by omega) (by omega) qd_M_weighs_38 ?_
        refine zz_top (b := ↑(te i)) (by rw [hf1]) ?_
        refine lv_iconst (v := zI (-1)) hx hb qd_M_weighs_39 rfl ?_
        refine lv_iload hx hb qd_M_weighs_40 (lv_at hl 0 rfl) ?_
        refine zz_isub hx hb ((-1) - ↑v) (by omega) qd_M_weighs_42 ?_
        refine rd_callI (W.runV (As := [.int (zI (↑b)), .int (zI (↑i)), .int (zI (↑(te i))), .int (zI (((-1) - ↑v)))]) (rest := [.int (zI (cnt th2 ((-1) - ↑v) j (te2 j - j)))]) ⟨hx, hb, hml, hown, hg⟩ (c_M_times l dC dI cI cZ cT cJ o mA mR mW mC mS mL mT mH mY mE mG mB mO sy tc rc tw ar rk wt co sz lf rg hi hv ef gr bd ol b n th tm te i (te i) ((-1) - ↑v) h16 hb0 hco hh (by omega) (by omega) (by omega)) ⟨callB_of 4 hg (gw_ok (fun _ h => h) wd_761) rfl rfl rfl (hg _ wd_6) (hg _ wd_758) (by decide +kernel) ⟨Nat.le_of_ble_eq_true rfl, Nat.le_of_ble_eq_true rfl⟩, hg _ wd_760, hg _ se_M_times⟩ (rd_preV (va_recv (q0 := 0) hK hF rfl rfl) (pw_c (q := (o, .inr (6, [.int (zI (↑sy)), .ref mA, .ref mR, .ref mW, .int (zI (↑tc)), .ref mC, .ref mS, .int (zI (↑rc)), .ref mL, .ref mT, .ref mH, .ref mY, .ref mE, .ref mG, .ref mB, .ref mO, .int (zI (tw))]))) hF 0 rfl (pw_c (q := (mC, .inl (cI, 2608, .inl (zA co)))) hF 4 rfl (pw_nil))) hK hN) rfl rfl hl.1 rfl (lv_room (Nat.le_of_ble_eq_true rfl)) qd_M_weighs_43 ⟨Nat.le_of_ble_eq_true rfl, Nat.le_of_ble_eq_true rfl⟩) (fun r43 hr43 => ?_)
        have e43 : r43 = cnt th ((-1) - ↑v) i (te i - i) := hr43
        subst e43
        have hb1 := cnt_b (h := th) (c := (-1) - ↑v) (a := i) (te i - i)
        have hb2 := cnt_b (h := th2) (c := (-1) - ↑v) (a := j) (te2 j - j)
        refine zz_icmp_le (tgt := 51) hx hb qd_M_weighs_46 (by decide) (by omega) (by omega) (fun h46 => ?_) (fun h46 => ?_)
        · skip
          refine lv_iinc (k := 0) (lv' := [(5, .int (zI (↑(v + 1)))), (0, .ref o), (1, .int (zI (↑b))), (2, .int (zI (↑i))), (3, .int (zI (↑b2))), (4, .int (zI (↑j)))]) hx hb qd_M_weighs_51 hl rfl (zI_inc (v := ↑(v + 1)) (by omega)) (by decide) rfl (fun ls hl => ?_)
          refine lv_goto (tgt := 3) hx hb qd_M_weighs_54 (by decide) ?_
          exact ih3 _ (by omega) (v + 1) (by omega) (fun u hu => if huv : u < v then hz u huv else (by rw [show u = v by omega]; exact h46)) rfl ls hl
        · skip
          refine lv_iconst (v := zI 0) hx hb qd_M_weighs_49 rfl ?_
          exact W.zret (v := zI 0) (ty := .boolean) hx hb hr rfl (fun t9 ht9 _ => ⟨false, rfl, bF ((fun hs => h46 (hs.1 v (by omega)))), ht9⟩) t_nil qd_M_weighs_50
  exact L3 _ 0 (by omega) (fun u hu => by omega) rfl ls hl
set_option maxHeartbeats 4000000 in
set_option maxRecDepth 100000 in
theorem c_M_isAdmissible (l : Launch) (dC : Nat → ClassId) (dI : Nat → Nat → Nat) (cI cZ cT cJ : ClassId) (o mA mR mW mC mS mL mT mH mY mE mG mB mO sy tc rc : Nat) (tw : Int) (ar rk wt co : Nat → Int) (sz lf rg : Nat → Nat) (hi hv : Nat → Int) (ef : Nat → Nat) (gr : Nat → Bool) (bd ol : Nat → Int) (hsy : sy ≤ 5) (hrk : ∀ q, q < 5 → 0 ≤ rk q ∧ rk q ≤ 4) (har : ∀ q, q < 5 → 0 ≤ ar q ∧ ar q ≤ 3) (hwt : ∀ q, q < 5 → 0 ≤ wt q ∧ wt q ≤ 9) : Met l qy_M_isAdmissible qw_M_isAdmissible ({ frames := 0, cells := 0, slots := 0, locals := 0 }) (rdP (dC, dI) qcl (qty cI cZ cT cJ) nwL [(o, .inr (6, [.int (zI (↑sy)), .ref mA, .ref mR, .ref mW, .int (zI (↑tc)), .ref mC, .ref mS, .int (zI (↑rc)), .ref mL, .ref mT, .ref mH, .ref mY, .ref mE, .ref mG, .ref mB, .ref mO, .int (zI (tw))])), (mA, .inl (cI, 5, .inl (zA ar))), (mR, .inl (cI, 5, .inl (zA rk))), (mW, .inl (cI, 5, .inl (zA wt)))] [.ref o]) (rdB (∀ x, x < sy → ¬ (ar x = 0 ∧ wt x = 0) ∧ ∀ t, t < sy → ¬ (ar x = 1 ∧ wt x = 0 ∧ t ≠ x ∧ rk x ≤ rk t))) 0 0 (fun _ => False) := by
  refine Met.ofW (cc := qc_M_isAdmissible) (maxL := 3) (ret := (Option.some Jvm.ClassFile.FieldType.boolean)) (by decide) rfl ?_
  intro pg eg sg mg args below meth cg s₁ B hml hv
  obtain ⟨rfl, hF, hK, hN⟩ := hv
  have hx := B.exec
  have hb := B.bytes
  have hr := B.returns
  have hts := atoms_spec (ws := qw_M_isAdmissible) B.pre
  have hg : ∀ w ∈ gw, w.before _ sg = true := fun w h => hts w (List.mem_cons_of_mem _ h)
  have hown : sg.vm.findClass "TermOrdersModel" = some mg.cls := findClass_of_methodNamed B.named
  have hlocks := B.notSynchronized
  have hl := lv_entry ([.ref o]) (n := 3) (Nat.le_of_ble_eq_true rfl)
  rw [lg_entry_eq]
  generalize (lg_sl ([.ref o]) ++ List.replicate (3 - (lg_sl ([.ref o])).length) Slot.unset).toArray = ls at hl ⊢
  have hl : lv_has ls 3 [(0, .ref o)] := hl
  refine lv_iconst (v := zI 0) hx hb qd_M_isAdmissible_0 rfl ?_
  refine lv_istore_n (lv' := [(1, .int (zI (0))), (0, .ref o)]) hx hb qd_M_isAdmissible_1 rfl hl (by decide) rfl (fun ls hl => ?_)
  have L2 : ∀ (d9 : Nat) (i : Nat), (i ≤ sy) → (∀ x, x < i → ¬ (ar x = 0 ∧ wt x = 0) ∧ ∀ t, t < sy → ¬ (ar x = 1 ∧ wt x = 0 ∧ t ≠ x ∧ rk x ≤ rk t)) → sy - i = d9 → ∀ ls : Array Slot, lv_has ls 3 [(1, .int (zI (↑i))), (0, .ref o)] → W pg l eg (headSpec qw_M_isAdmissible ({ frames := 0, cells := 0, slots := 0, locals := 0 })).room sg mg ([.ref o] : List Value).toArray below meth cg sg.heap [] 0 0 (MQ below (rdB (∀ x, x < sy → ¬ (ar x = 0 ∧ wt x = 0) ∧ ∀ t, t < sy → ¬ (ar x = 1 ∧ wt x = 0 ∧ t ≠ x ∧ rk x ≤ rk t))) ([.ref o] : List Value).toArray sg 0 0 (fun _ => False)) (F0 mg 2 ls []) := by
    intro d9
    induction d9 using Nat.strongRecOn with
    | _ d9 ih2 =>
      intro i hi8 hz hd9 ls hl
      refine lv_iload_n hx hb qd_M_isAdmissible_2 rfl (lv_at hl 0 rfl) ?_
      refine lv_aload_n hx hb qd_M_isAdmissible_3 rfl (lv_at hl 1 rfl) ?_
      refine va_get (D := (dC, dI)) (ci := 6) (v := .int (zI (↑sy))) (C := "TermOrdersModel") (T := qT_M) (N := 17) hx hb hg qi_M hown hK hF 0 rfl rfl 0 (by decide) (hg _ wd_618) (fun _ h9 => h9) rfl qd_M_isAdmissible_4 ?_
      refine zz_icmp_ge (tgt := 93) hx hb qd_M_isAdmissible_7 (by decide) (by omega) (by omega) (fun h7 => ?_) (fun h7 => ?_)
      · skip
        refine lv_iconst (v := zI 1) hx hb qd_M_isAdmissible_93 rfl ?_
        exact W.zret (v := zI 1) (ty := .boolean) hx hb hr rfl (fun t9 ht9 _ => ⟨true, rfl, bT ((fun x hx => hz x (by omega))), ht9⟩) t_nil qd_M_isAdmissible_94
      · skip
        have hq1 := har i (by omega)
        have hq2 := hwt i (by omega)
        have hq3 := hrk i (by omega)
        refine lv_aload_n hx hb qd_M_isAdmissible_10 rfl (lv_at hl 1 rfl) ?_
        refine va_get (D := (dC, dI)) (ci := 6) (v := .ref mA) (C := "TermOrdersModel") (T := qT_M) (N := 17) hx hb hg qi_M hown hK hF 0 rfl rfl 1 (by decide) (hg _ wd_619) (fun _ h9 => h9) rfl qd_M_isAdmissible_11 ?_
        refine lv_iload_n hx hb qd_M_isAdmissible_14 rfl (lv_at hl 0 rfl) ?_
        refine zz_iald hx hb hK hF 1 0 rfl rfl i rfl (by omega) (by omega) qd_M_isAdmissible_15 ?_
        refine zz_if_ne (tgt := 30) hx hb qd_M_isAdmissible_16 (by decide) (by omega) (fun h16 => ?_) (fun h16 => ?_)
        · skip
          have h0 : ¬ (ar i = 0 ∧ wt i = 0) := fun q => h16 q.1
          refine lv_iconst (v := zI 0) hx hb qd_M_isAdmissible_30 rfl ?_
          refine lv_istore_n (lv' := [(2, .int (zI (0))), (1, .int (zI (↑i))), (0, .ref o)]) hx hb qd_M_isAdmissible_31 rfl hl (by decide) rfl (fun ls hl => ?_)
          have L32 : ∀ (d9 : Nat) (t : Nat), (t ≤ sy) → (∀ u, u < t → ¬ (ar i = 1 ∧ wt i = 0 ∧ u ≠ i ∧ rk i ≤ rk u)) → sy - t = d9 → ∀ ls : Array Slot, lv_has ls 3 [(2, .int (zI (↑t))), (1, .int (zI (↑i))), (0, .ref o)] → W pg l eg (headSpec qw_M_isAdmissible ({ frames := 0, cells := 0, slots := 0, locals := 0 })).room sg mg ([.ref o] : List Value).toArray below meth cg sg.heap [] 0 0 (MQ below (rdB (∀ x, x < sy → ¬ (ar x = 0 ∧ wt x = 0) ∧ ∀ t, t < sy → ¬ (ar x = 1 ∧ wt x = 0 ∧ t ≠ x ∧ rk x ≤ rk t))) ([.ref o] : List Value).toArray sg 0 0 (fun _ => False)) (F0 mg 32 ls []) := by
            intro d9
            induction d9 using Nat.strongRecOn with
            | _ d9 ih32 =>
              intro t ht8 hz2 hd9 ls hl
              refine lv_iload_n hx hb qd_M_isAdmissible_32 rfl (lv_at hl 0 rfl) ?_
              refine lv_aload_n hx hb qd_M_isAdmissible_33 rfl (lv_at hl 2 rfl) ?_
              refine va_get (D := (dC, dI)) (ci := 6) (v := .int (zI (↑sy))) (C := "TermOrdersModel") (T := qT_M) (N := 17) hx hb hg qi_M hown hK hF 0 rfl rfl 0 (by decide) (hg _ wd_618) (fun _ h9 => h9) rfl qd_M_isAdmissible_34 ?_
              refine zz_icmp_ge (tgt := 87) hx hb qd_M_isAdmissible_37 (by decide) (by omega) (by omega) (fun h37 => ?_) (fun h37 => ?_)
              · skip
                refine lv_iinc (k := 1) (lv' := [(1, .int (zI (↑(i + 1)))), (2, .int (zI (↑t))), (0, .ref o)]) hx hb qd_M_isAdmissible_87 hl rfl (zI_inc (v := ↑(i + 1)) (by omega)) (by decide) rfl (fun ls hl => ?_)
                refine lv_goto (tgt := 2) hx hb qd_M_isAdmissible_90 (by decide) ?_
                have hl := lv_sub (l' := [(1, .int (zI (↑(i + 1)))), (0, .ref o)]) hl [0, 2] rfl
                exact ih2 _ (by omega) (i + 1) (by omega) (fun x hx => if hxi : x < i then hz x hxi else (by rw [show x = i by omega]; exact ⟨h0, fun t ht => hz2 t (by omega)⟩)) rfl ls hl
              · skip
                have hq4 := hrk t (by omega)
                refine lv_aload_n hx hb qd_M_isAdmissible_40 rfl (lv_at hl 2 rfl) ?_
                refine va_get (D := (dC, dI)) (ci := 6) (v := .ref mA) (C := "TermOrdersModel") (T := qT_M) (N := 17) hx hb hg qi_M hown hK hF 0 rfl rfl 1 (by decide) (hg _ wd_619) (fun _ h9 => h9) rfl qd_M_isAdmissible_41 ?_
                refine lv_iload_n hx hb qd_M_isAdmissible_44 rfl (lv_at hl 1 rfl) ?_
                refine zz_iald hx hb hK hF 1 0 rfl rfl i rfl (by omega) (by omega) qd_M_isAdmissible_45 ?_
                refine lv_iconst (v := zI 1) hx hb qd_M_isAdmissible_46 rfl ?_
                refine zz_icmp_ne (tgt := 81) hx hb qd_M_isAdmissible_47 (by decide) (by omega) (by omega) (fun h47 => ?_) (fun h47 => ?_)
                · skip
                  have hn9 : ¬ (ar i = 1 ∧ wt i = 0 ∧ t ≠ i ∧ rk i ≤ rk t) := fun q => by omega
                  refine lv_iinc (k := 0) (lv' := [(2, .int (zI (↑(t + 1)))), (1, .int (zI (↑i))), (0, .ref o)]) hx hb qd_M_isAdmissible_81 hl rfl (zI_inc (v := ↑(t + 1)) (by omega)) (by decide) rfl (fun ls hl => ?_)
                  refine lv_goto (tgt := 32) hx hb qd_M_isAdmissible_84 (by decide) ?_
                  exact ih32 _ (by omega) (t + 1) (by omega) (fun u hu => if hut : u < t then hz2 u hut else (by rw [show u = t by omega]; exact hn9)) rfl ls hl
                · skip
                  refine lv_aload_n hx hb qd_M_isAdmissible_50 rfl (lv_at hl 2 rfl) ?_
                  refine va_get (D := (dC, dI)) (ci := 6) (v := .ref mW) (C := "TermOrdersModel") (T := qT_M) (N := 17) hx hb hg qi_M hown hK hF 0 rfl rfl 3 (by decide) (hg _ wd_621) (fun _ h9 => h9) rfl qd_M_isAdmissible_51 ?_
                  refine lv_iload_n hx hb qd_M_isAdmissible_54 rfl (lv_at hl 1 rfl) ?_
                  refine zz_iald hx hb hK hF 3 0 rfl rfl i rfl (by omega) (by omega) qd_M_isAdmissible_55 ?_
                  refine zz_if_ne (tgt := 81) hx hb qd_M_isAdmissible_56 (by decide) (by omega) (fun h56 => ?_) (fun h56 => ?_)
                  · skip
                    have hn9 : ¬ (ar i = 1 ∧ wt i = 0 ∧ t ≠ i ∧ rk i ≤ rk t) := fun q => by omega
                    refine lv_iinc (k := 0) (lv' := [(2, .int (zI (↑(t + 1)))), (1, .int (zI (↑i))), (0, .ref o)]) hx hb qd_M_isAdmissible_81 hl rfl (zI_inc (v := ↑(t + 1)) (by omega)) (by decide) rfl (fun ls hl => ?_)
                    refine lv_goto (tgt := 32) hx hb qd_M_isAdmissible_84 (by decide) ?_
                    exact ih32 _ (by omega) (t + 1) (by omega) (fun u hu => if hut : u < t then hz2 u hut else (by rw [show u = t by omega]; exact hn9)) rfl ls hl
                  · skip
                    refine lv_iload_n hx hb qd_M_isAdmissible_59 rfl (lv_at hl 0 rfl) ?_
                    refine lv_iload_n hx hb qd_M_isAdmissible_60 rfl (lv_at hl 1 rfl) ?_
                    refine zz_icmp_eq (tgt := 81) hx hb qd_M_isAdmissible_61 (by decide) (by omega) (by omega) (fun h61 => ?_) (fun h61 => ?_)
                    · skip
                      have hn9 : ¬ (ar i = 1 ∧ wt i = 0 ∧ t ≠ i ∧ rk i ≤ rk t) := fun q => by omega
                      refine lv_iinc (k := 0) (lv' := [(2, .int (zI (↑(t + 1)))), (1, .int (zI (↑i))), (0, .ref o)]) hx hb qd_M_isAdmissible_81 hl rfl (zI_inc (v := ↑(t + 1)) (by omega)) (by decide) rfl (fun ls hl => ?_)
                      refine lv_goto (tgt := 32) hx hb qd_M_isAdmissible_84 (by decide) ?_
                      exact ih32 _ (by omega) (t + 1) (by omega) (fun u hu => if hut : u < t then hz2 u hut else (by rw [show u = t by omega]; exact hn9)) rfl ls hl
                    · skip
                      refine lv_aload_n hx hb qd_M_isAdmissible_64 rfl (lv_at hl 2 rfl) ?_
                      refine va_get (D := (dC, dI)) (ci := 6) (v := .ref mR) (C := "TermOrdersModel") (T := qT_M) (N := 17) hx hb hg qi_M hown hK hF 0 rfl rfl 2 (by decide) (hg _ wd_620) (fun _ h9 => h9) rfl qd_M_isAdmissible_65 ?_
                      refine lv_iload_n hx hb qd_M_isAdmissible_68 rfl (lv_at hl 0 rfl) ?_
                      refine zz_iald hx hb hK hF 2 0 rfl rfl t rfl (by omega) (by omega) qd_M_isAdmissible_69 ?_
                      refine lv_aload_n hx hb qd_M_isAdmissible_70 rfl (lv_at hl 2 rfl) ?_
                      refine va_get (D := (dC, dI)) (ci := 6) (v := .ref mR) (C := "TermOrdersModel") (T := qT_M) (N := 17) hx hb hg qi_M hown hK hF 0 rfl rfl 2 (by decide) (hg _ wd_620) (fun _ h9 => h9) rfl qd_M_isAdmissible_71 ?_
                      refine lv_iload_n hx hb qd_M_isAdmissible_74 rfl (lv_at hl 1 rfl) ?_
                      refine zz_iald hx hb hK hF 2 0 rfl rfl i rfl (by omega) (by omega) qd_M_isAdmissible_75 ?_
                      refine zz_icmp_lt (tgt := 81) hx hb qd_M_isAdmissible_76 (by decide) (by omega) (by omega) (fun h76 => ?_) (fun h76 => ?_)
                      · skip
                        have hn9 : ¬ (ar i = 1 ∧ wt i = 0 ∧ t ≠ i ∧ rk i ≤ rk t) := fun q => by omega
                        refine lv_iinc (k := 0) (lv' := [(2, .int (zI (↑(t + 1)))), (1, .int (zI (↑i))), (0, .ref o)]) hx hb qd_M_isAdmissible_81 hl rfl (zI_inc (v := ↑(t + 1)) (by omega)) (by decide) rfl (fun ls hl => ?_)
                        refine lv_goto (tgt := 32) hx hb qd_M_isAdmissible_84 (by decide) ?_
                        exact ih32 _ (by omega) (t + 1) (by omega) (fun u hu => if hut : u < t then hz2 u hut else (by rw [show u = t by omega]; exact hn9)) rfl ls hl
                      · skip
                        refine lv_iconst (v := zI 0) hx hb qd_M_isAdmissible_79 rfl ?_
                        exact W.zret (v := zI 0) (ty := .boolean) hx hb hr rfl (fun t9 ht9 _ => ⟨false, rfl, bF ((fun hs => (hs i (by omega)).2 t (by omega) ⟨h47, h56, by omega, by omega⟩)), ht9⟩) t_nil qd_M_isAdmissible_80
          exact L32 _ 0 (by omega) (fun u hu => by omega) rfl ls hl
        · skip
          refine lv_aload_n hx hb qd_M_isAdmissible_19 rfl (lv_at hl 1 rfl) ?_
          refine va_get (D := (dC, dI)) (ci := 6) (v := .ref mW) (C := "TermOrdersModel") (T := qT_M) (N := 17) hx hb hg qi_M hown hK hF 0 rfl rfl 3 (by decide) (hg _ wd_621) (fun _ h9 => h9) rfl qd_M_isAdmissible_20 ?_
          refine lv_iload_n hx hb qd_M_isAdmissible_23 rfl (lv_at hl 0 rfl) ?_
          refine zz_iald hx hb hK hF 3 0 rfl rfl i rfl (by omega) (by omega) qd_M_isAdmissible_24 ?_
          refine zz_if_ne (tgt := 30) hx hb qd_M_isAdmissible_25 (by decide) (by omega) (fun h25 => ?_) (fun h25 => ?_)
          · skip
            have h0 : ¬ (ar i = 0 ∧ wt i = 0) := fun q => h25 q.2
            refine lv_iconst (v := zI 0) hx hb qd_M_isAdmissible_30 rfl ?_
            refine lv_istore_n (lv' := [(2, .int (zI (0))), (1, .int (zI (↑i))), (0, .ref o)]) hx hb qd_M_isAdmissible_31 rfl hl (by decide) rfl (fun ls hl => ?_)
            have L32 : ∀ (d9 : Nat) (t : Nat), (t ≤ sy) → (∀ u, u < t → ¬ (ar i = 1 ∧ wt i = 0 ∧ u ≠ i ∧ rk i ≤ rk u)) → sy - t = d9 → ∀ ls : Array Slot, lv_has ls 3 [(2, .int (zI (↑t))), (1, .int (zI (↑i))), (0, .ref o)] → W pg l eg (headSpec qw_M_isAdmissible ({ frames := 0, cells := 0, slots := 0, locals := 0 })).room sg mg ([.ref o] : List Value).toArray below meth cg sg.heap [] 0 0 (MQ below (rdB (∀ x, x < sy → ¬ (ar x = 0 ∧ wt x = 0) ∧ ∀ t, t < sy → ¬ (ar x = 1 ∧ wt x = 0 ∧ t ≠ x ∧ rk x ≤ rk t))) ([.ref o] : List Value).toArray sg 0 0 (fun _ => False)) (F0 mg 32 ls []) := by
              intro d9
              induction d9 using Nat.strongRecOn with
              | _ d9 ih32 =>
                intro t ht8 hz2 hd9 ls hl
                refine lv_iload_n hx hb qd_M_isAdmissible_32 rfl (lv_at hl 0 rfl) ?_
                refine lv_aload_n hx hb qd_M_isAdmissible_33 rfl (lv_at hl 2 rfl) ?_
                refine va_get (D := (dC, dI)) (ci := 6) (v := .int (zI (↑sy))) (C := "TermOrdersModel") (T := qT_M) (N := 17) hx hb hg qi_M hown hK hF 0 rfl rfl 0 (by decide) (hg _ wd_618) (fun _ h9 => h9) rfl qd_M_isAdmissible_34 ?_
                refine zz_icmp_ge (tgt := 87) hx hb qd_M_isAdmissible_37 (by decide) (by omega) (by omega) (fun h37 => ?_) (fun h37 => ?_)
                · skip
                  refine lv_iinc (k := 1) (lv' := [(1, .int (zI (↑(i + 1)))), (2, .int (zI (↑t))), (0, .ref o)]) hx hb qd_M_isAdmissible_87 hl rfl (zI_inc (v := ↑(i + 1)) (by omega)) (by decide) rfl (fun ls hl => ?_)
                  refine lv_goto (tgt := 2) hx hb qd_M_isAdmissible_90 (by decide) ?_
                  have hl := lv_sub (l' := [(1, .int (zI (↑(i + 1)))), (0, .ref o)]) hl [0, 2] rfl
                  exact ih2 _ (by omega) (i + 1) (by omega) (fun x hx => if hxi : x < i then hz x hxi else (by rw [show x = i by omega]; exact ⟨h0, fun t ht => hz2 t (by omega)⟩)) rfl ls hl
                · skip
                  have hq4 := hrk t (by omega)
                  refine lv_aload_n hx hb qd_M_isAdmissible_40 rfl (lv_at hl 2 rfl) ?_
                  refine va_get (D := (dC, dI)) (ci := 6) (v := .ref mA) (C := "TermOrdersModel") (T := qT_M) (N := 17) hx hb hg qi_M hown hK hF 0 rfl rfl 1 (by decide) (hg _ wd_619) (fun _ h9 => h9) rfl qd_M_isAdmissible_41 ?_
                  refine lv_iload_n hx hb qd_M_isAdmissible_44 rfl (lv_at hl 1 rfl) ?_
                  refine zz_iald hx hb hK hF 1 0 rfl rfl i rfl (by omega) (by omega) qd_M_isAdmissible_45 ?_
                  refine lv_iconst (v := zI 1) hx hb qd_M_isAdmissible_46 rfl ?_
                  refine zz_icmp_ne (tgt := 81) hx hb qd_M_isAdmissible_47 (by decide) (by omega) (by omega) (fun h47 => ?_) (fun h47 => ?_)
                  · skip
                    have hn9 : ¬ (ar i = 1 ∧ wt i = 0 ∧ t ≠ i ∧ rk i ≤ rk t) := fun q => by omega
                    refine lv_iinc (k := 0) (lv' := [(2, .int (zI (↑(t + 1)))), (1, .int (zI (↑i))), (0, .ref o)]) hx hb qd_M_isAdmissible_81 hl rfl (zI_inc (v := ↑(t + 1)) (by omega)) (by decide) rfl (fun ls hl => ?_)
                    refine lv_goto (tgt := 32) hx hb qd_M_isAdmissible_84 (by decide) ?_
                    exact ih32 _ (by omega) (t + 1) (by omega) (fun u hu => if hut : u < t then hz2 u hut else (by rw [show u = t by omega]; exact hn9)) rfl ls hl
                  · skip
                    refine lv_aload_n hx hb qd_M_isAdmissible_50 rfl (lv_at hl 2 rfl) ?_
                    refine va_get (D := (dC, dI)) (ci := 6) (v := .ref mW) (C := "TermOrdersModel") (T := qT_M) (N := 17) hx hb hg qi_M hown hK hF 0 rfl rfl 3 (by decide) (hg _ wd_621) (fun _ h9 => h9) rfl qd_M_isAdmissible_51 ?_
                    refine lv_iload_n hx hb qd_M_isAdmissible_54 rfl (lv_at hl 1 rfl) ?_
                    refine zz_iald hx hb hK hF 3 0 rfl rfl i rfl (by omega) (by omega) qd_M_isAdmissible_55 ?_
                    refine zz_if_ne (tgt := 81) hx hb qd_M_isAdmissible_56 (by decide) (by omega) (fun h56 => ?_) (fun h56 => ?_)
                    · skip
                      have hn9 : ¬ (ar i = 1 ∧ wt i = 0 ∧ t ≠ i ∧ rk i ≤ rk t) := fun q => by omega
                      refine lv_iinc (k := 0) (lv' := [(2, .int (zI (↑(t + 1)))), (1, .int (zI (↑i))), (0, .ref o)]) hx hb qd_M_isAdmissible_81 hl rfl (zI_inc (v := ↑(t + 1)) (by omega)) (by decide) rfl (fun ls hl => ?_)
                      refine lv_goto (tgt := 32) hx hb qd_M_isAdmissible_84 (by decide) ?_
                      exact ih32 _ (by omega) (t + 1) (by omega) (fun u hu => if hut : u < t then hz2 u hut else (by rw [show u = t by omega]; exact hn9)) rfl ls hl
                    · skip
                      refine lv_iload_n hx hb qd_M_isAdmissible_59 rfl (lv_at hl 0 rfl) ?_
                      refine lv_iload_n hx hb qd_M_isAdmissible_60 rfl (lv_at hl 1 rfl) ?_
                      refine zz_icmp_eq (tgt := 81) hx hb qd_M_isAdmissible_61 (by decide) (by omega) (by omega) (fun h61 => ?_) (fun h61 => ?_)
                      · skip
                        have hn9 : ¬ (ar i = 1 ∧ wt i = 0 ∧ t ≠ i ∧ rk i ≤ rk t) := fun q => by omega
                        refine lv_iinc (k := 0) (lv' := [(2, .int (zI (↑(t + 1)))), (1, .int (zI (↑i))), (0, .ref o)]) hx hb qd_M_isAdmissible_81 hl rfl (zI_inc (v := ↑(t + 1)) (by omega)) (by decide) rfl (fun ls hl => ?_)
                        refine lv_goto (tgt := 32) hx hb qd_M_isAdmissible_84 (by decide) ?_
                        exact ih32 _ (by omega) (t + 1) (by omega) (fun u hu => if hut : u < t then hz2 u hut else (by rw [show u = t by omega]; exact hn9)) rfl ls hl
                      · skip
                        refine lv_aload_n hx hb qd_M_isAdmissible_64 rfl (lv_at hl 2 rfl) ?_
                        refine va_get (D := (dC, dI)) (ci := 6) (v := .ref mR) (C := "TermOrdersModel") (T := qT_M) (N := 17) hx hb hg qi_M hown hK hF 0 rfl rfl 2 (by decide) (hg _ wd_620) (fun _ h9 => h9) rfl qd_M_isAdmissible_65 ?_
                        refine lv_iload_n hx hb qd_M_isAdmissible_68 rfl (lv_at hl 0 rfl) ?_
                        refine zz_iald hx hb hK hF 2 0 rfl rfl t rfl (by omega) (by omega) qd_M_isAdmissible_69 ?_
                        refine lv_aload_n hx hb qd_M_isAdmissible_70 rfl (lv_at hl 2 rfl) ?_
                        refine va_get (D := (dC, dI)) (ci := 6) (v := .ref mR) (C := "TermOrdersModel") (T := qT_M) (N := 17) hx hb hg qi_M hown hK hF 0 rfl rfl 2 (by decide) (hg _ wd_620) (fun _ h9 => h9) rfl qd_M_isAdmissible_71 ?_
                        refine lv_iload_n hx hb qd_M_isAdmissible_74 rfl (lv_at hl 1 rfl) ?_
                        refine zz_iald hx hb hK hF 2 0 rfl rfl i rfl (by omega) (by omega) qd_M_isAdmissible_75 ?_
                        refine zz_icmp_lt (tgt := 81) hx hb qd_M_isAdmissible_76 (by decide) (by omega) (by omega) (fun h76 => ?_) (fun h76 => ?_)
                        · skip
                          have hn9 : ¬ (ar i = 1 ∧ wt i = 0 ∧ t ≠ i ∧ rk i ≤ rk t) := fun q => by omega
                          refine lv_iinc (k := 0) (lv' := [(2, .int (zI (↑(t + 1)))), (1, .int (zI (↑i))), (0, .ref o)]) hx hb qd_M_isAdmissible_81 hl rfl (zI_inc (v := ↑(t + 1)) (by omega)) (by decide) rfl (fun ls hl => ?_)
                          refine lv_goto (tgt := 32) hx hb qd_M_isAdmissible_84 (by decide) ?_
                          exact ih32 _ (by omega) (t + 1) (by omega) (fun u hu => if hut : u < t then hz2 u hut else (by rw [show u = t by omega]; exact hn9)) rfl ls hl
                        · skip
                          refine lv_iconst (v := zI 0) hx hb qd_M_isAdmissible_79 rfl ?_
                          exact W.zret (v := zI 0) (ty := .boolean) hx hb hr rfl (fun t9 ht9 _ => ⟨false, rfl, bF ((fun hs => (hs i (by omega)).2 t (by omega) ⟨h47, h56, by omega, by omega⟩)), ht9⟩) t_nil qd_M_isAdmissible_80
            exact L32 _ 0 (by omega) (fun u hu => by omega) rfl ls hl
          · skip
            refine lv_iconst (v := zI 0) hx hb qd_M_isAdmissible_28 rfl ?_
            exact W.zret (v := zI 0) (ty := .boolean) hx hb hr rfl (fun t9 ht9 _ => ⟨false, rfl, bF ((fun hs => (hs i (by omega)).1 ⟨h16, h25⟩)), ht9⟩) t_nil qd_M_isAdmissible_29
  exact L2 _ 0 (by omega) (fun x hx => by omega) rfl ls hl
