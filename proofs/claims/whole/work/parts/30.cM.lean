theorem mq_b {ar th tm : Nat → Int} {n : Nat} (har : ∀ q, q < 5 → 0 ≤ ar q ∧ ar q ≤ 3) (hh : ∀ q, q < n → -4 ≤ th q ∧ th q ≤ 4) (htm : ∀ q, q < n → tm q = mny ar (th q)) : ∀ q, q < n → 0 ≤ tm q ∧ tm q ≤ 3 := by
  intro q hq
  rw [htm q hq]
  have h9 := hh q hq
  unfold mny
  split
  · omega
  · exact har _ (by omega)
set_option maxHeartbeats 4000000 in
set_option maxRecDepth 100000 in
theorem c_M_thrown (l : Launch) (dC : Nat → ClassId) (dI : Nat → Nat → Nat) (cI cZ cT cJ : ClassId) (o mA mR mW mC mS mL mT mH mY mE mG mB mO sy tc rc : Nat) (tw : Int) (ar rk wt co : Nat → Int) (sz lf rg : Nat → Nat) (hi hv : Nat → Int) (ef : Nat → Nat) (gr : Nat → Bool) (bd ol : Nat → Int)  : Met l qy_M_thrown qw_M_thrown ({ frames := 0, cells := 0, slots := 0, locals := 0 }) (rdP (dC, dI) qcl (qty cI cZ cT cJ) nwL [(o, .inr (6, [.int (zI (↑sy)), .ref mA, .ref mR, .ref mW, .int (zI (↑tc)), .ref mC, .ref mS, .int (zI (↑rc)), .ref mL, .ref mT, .ref mH, .ref mY, .ref mE, .ref mG, .ref mB, .ref mO, .int (zI (tw))]))] [.ref o]) (rdI (fun r => r = tw)) 0 0 (fun _ => False) := by
  refine Met.ofW (cc := qc_M_thrown) (maxL := 1) (ret := (Option.some Jvm.ClassFile.FieldType.int)) (by decide) rfl ?_
  intro pg eg sg mg args below meth cg s₁ B hml hv
  obtain ⟨rfl, hF, hK, hN⟩ := hv
  have hx := B.exec
  have hb := B.bytes
  have hr := B.returns
  have hts := atoms_spec (ws := qw_M_thrown) B.pre
  have hg : ∀ w ∈ gw, w.before _ sg = true := fun w h => hts w (List.mem_cons_of_mem _ h)
  have hown : sg.vm.findClass "TermOrdersModel" = some mg.cls := findClass_of_methodNamed B.named
  have hlocks := B.notSynchronized
  have hl := lv_entry ([.ref o]) (n := 1) (Nat.le_of_ble_eq_true rfl)
  rw [lg_entry_eq]
  generalize (lg_sl ([.ref o]) ++ List.replicate (1 - (lg_sl ([.ref o])).length) Slot.unset).toArray = ls at hl ⊢
  have hl : lv_has ls 1 [(0, .ref o)] := hl
  refine lv_aload_n hx hb qd_M_thrown_0 rfl (lv_at hl 0 rfl) ?_
  refine va_get (D := (dC, dI)) (ci := 6) (v := .int (zI (tw))) (C := "TermOrdersModel") (T := qT_M) (N := 17) hx hb hg qi_M hown hK hF 0 rfl rfl 16 (by decide) (hg _ wd_634) (fun _ h9 => h9) rfl qd_M_thrown_1 ?_
  exact W.iret (v := zI tw) hx hb hr (fun t9 ht9 _ => ⟨tw, rfl, rfl, ht9⟩) t_nil qd_M_thrown_4
set_option maxHeartbeats 4000000 in
set_option maxRecDepth 100000 in
theorem c_M_many (l : Launch) (dC : Nat → ClassId) (dI : Nat → Nat → Nat) (cI cZ cT cJ : ClassId) (o mA mR mW mC mS mL mT mH mY mE mG mB mO sy tc rc : Nat) (tw : Int) (ar rk wt co : Nat → Int) (sz lf rg : Nat → Nat) (hi hv : Nat → Int) (ef : Nat → Nat) (gr : Nat → Bool) (bd ol : Nat → Int) (c : Int) (hc : -4 ≤ c ∧ c ≤ 4) : Met l qy_M_many qw_M_many ({ frames := 0, cells := 0, slots := 0, locals := 0 }) (rdP (dC, dI) qcl (qty cI cZ cT cJ) nwL [(o, .inr (6, [.int (zI (↑sy)), .ref mA, .ref mR, .ref mW, .int (zI (↑tc)), .ref mC, .ref mS, .int (zI (↑rc)), .ref mL, .ref mT, .ref mH, .ref mY, .ref mE, .ref mG, .ref mB, .ref mO, .int (zI (tw))])), (mA, .inl (cI, 5, .inl (zA ar)))] [.ref o, .int (zI (c))]) (rdI (fun r => r = mny ar c)) 0 0 (fun _ => False) := by
  refine Met.ofW (cc := qc_M_many) (maxL := 2) (ret := (Option.some Jvm.ClassFile.FieldType.int)) (by decide) rfl ?_
  intro pg eg sg mg args below meth cg s₁ B hml hv
  obtain ⟨rfl, hF, hK, hN⟩ := hv
  have hx := B.exec
  have hb := B.bytes
  have hr := B.returns
  have hts := atoms_spec (ws := qw_M_many) B.pre
  have hg : ∀ w ∈ gw, w.before _ sg = true := fun w h => hts w (List.mem_cons_of_mem _ h)
  have hown : sg.vm.findClass "TermOrdersModel" = some mg.cls := findClass_of_methodNamed B.named
  have hlocks := B.notSynchronized
  have hl := lv_entry ([.ref o, .int (zI (c))]) (n := 2) (Nat.le_of_ble_eq_true rfl)
  rw [lg_entry_eq]
  generalize (lg_sl ([.ref o, .int (zI (c))]) ++ List.replicate (2 - (lg_sl ([.ref o, .int (zI (c))])).length) Slot.unset).toArray = ls at hl ⊢
  have hl : lv_has ls 2 [(0, .ref o), (1, .int (zI (c)))] := hl
  refine lv_iload_n hx hb qd_M_many_0 rfl (lv_at hl 1 rfl) ?_
  refine zz_if_ge (tgt := 8) hx hb qd_M_many_1 (by decide) (by omega) (fun h1 => ?_) (fun h1 => ?_)
  · skip
    refine lv_aload_n hx hb qd_M_many_8 rfl (lv_at hl 0 rfl) ?_
    refine va_get (D := (dC, dI)) (ci := 6) (v := .ref mA) (C := "TermOrdersModel") (T := qT_M) (N := 17) hx hb hg qi_M hown hK hF 0 rfl rfl 1 (by decide) (hg _ wd_619) (fun _ h9 => h9) rfl qd_M_many_9 ?_
    refine lv_iload_n hx hb qd_M_many_12 rfl (lv_at hl 1 rfl) ?_
    refine zz_iald hx hb hK hF 1 0 rfl rfl c.toNat (by omega) (by omega) (by omega) qd_M_many_13 ?_
    exact W.iret (v := zI (ar c.toNat)) hx hb hr (fun t9 ht9 _ => ⟨ar c.toNat, rfl, (by unfold mny; rw [if_neg (by omega)]), ht9⟩) t_nil qd_M_many_14
  · skip
    refine lv_iconst (v := zI 0) hx hb qd_M_many_4 rfl ?_
    refine lv_goto (tgt := 14) hx hb qd_M_many_5 (by decide) ?_
    exact W.iret (v := zI 0) hx hb hr (fun t9 ht9 _ => ⟨0, rfl, (by unfold mny; rw [if_pos (by omega)]), ht9⟩) t_nil qd_M_many_14
set_option maxHeartbeats 4000000 in
set_option maxRecDepth 100000 in
theorem c_M_end (l : Launch) (dC : Nat → ClassId) (dI : Nat → Nat → Nat) (cI cZ cT cJ : ClassId) (o mA mR mW mC mS mL mT mH mY mE mG mB mO sy tc rc : Nat) (tw : Int) (ar rk wt co : Nat → Int) (sz lf rg : Nat → Nat) (hi hv : Nat → Int) (ef : Nat → Nat) (gr : Nat → Bool) (bd ol : Nat → Int) (b n : Nat) (th tm : Nat → Int) (te : Nat → Nat) (k : Nat) (har : ∀ q, q < 5 → 0 ≤ ar q ∧ ar q ≤ 3) (h16 : n ≤ 16) (hb0 : b + 16 ≤ 2608) (hco : ∀ q, q < n → co (b + q) = th q) (htm : ∀ q, q < n → tm q = mny ar (th q)) (hh : ∀ q, q < n → -4 ≤ th q ∧ th q ≤ 4) (we : wfE tm n te) (hk : k < n) : Met l qy_M_end qw_M_end ({ frames := 1, cells := 0, slots := 0, locals := 21 }) (rdP (dC, dI) qcl (qty cI cZ cT cJ) nwL [(o, .inr (6, [.int (zI (↑sy)), .ref mA, .ref mR, .ref mW, .int (zI (↑tc)), .ref mC, .ref mS, .int (zI (↑rc)), .ref mL, .ref mT, .ref mH, .ref mY, .ref mE, .ref mG, .ref mB, .ref mO, .int (zI (tw))])), (mA, .inl (cI, 5, .inl (zA ar))), (mC, .inl (cI, 2608, .inl (zA co)))] [.ref o, .int (zI (↑b)), .int (zI (↑k))]) (rdI (fun r => r = ↑(te k))) 0 0 (fun _ => False) := by
  refine Met.ofW (cc := qc_M_end) (maxL := 5) (ret := (Option.some Jvm.ClassFile.FieldType.int)) (by decide) rfl ?_
  intro pg eg sg mg args below meth cg s₁ B hml hv
  obtain ⟨rfl, hF, hK, hN⟩ := hv
  have hx := B.exec
  have hb := B.bytes
  have hr := B.returns
  have hts := atoms_spec (ws := qw_M_end) B.pre
  have hg : ∀ w ∈ gw, w.before _ sg = true := fun w h => hts w (List.mem_cons_of_mem _ h)
  have hown : sg.vm.findClass "TermOrdersModel" = some mg.cls := findClass_of_methodNamed B.named
  have hlocks := B.notSynchronized
  have hl := lv_entry ([.ref o, .int (zI (↑b)), .int (zI (↑k))]) (n := 5) (Nat.le_of_ble_eq_true rfl)
  rw [lg_entry_eq]
  generalize (lg_sl ([.ref o, .int (zI (↑b)), .int (zI (↑k))]) ++ List.replicate (5 - (lg_sl ([.ref o, .int (zI (↑b)), .int (zI (↑k))])).length) Slot.unset).toArray = ls at hl ⊢
  have hl : lv_has ls 5 [(0, .ref o), (1, .int (zI (↑b))), (2, .int (zI (↑k)))] := hl
  obtain ⟨w1, w2, w3, w4⟩ := we k hk
  have hmq := mq_b har hh htm
  refine lv_iconst (v := zI 1) hx hb qd_M_end_0 rfl ?_
  refine lv_istore_n (lv' := [(3, .int (zI (1))), (0, .ref o), (1, .int (zI (↑b))), (2, .int (zI (↑k)))]) hx hb qd_M_end_1 rfl hl (by decide) rfl (fun ls hl => ?_)
  refine lv_iload_n hx hb qd_M_end_2 rfl (lv_at hl 3 rfl) ?_
  refine lv_istore (lv' := [(4, .int (zI (↑k))), (3, .int (zI (1))), (0, .ref o), (1, .int (zI (↑b))), (2, .int (zI (↑k)))]) hx hb qd_M_end_3 hl (by decide) rfl (fun ls hl => ?_)
  have L5 : ∀ (d9 : Nat) (q : Nat), (k ≤ q) → (q ≤ te k) → te k - q = d9 → ∀ ls : Array Slot, lv_has ls 5 [(4, .int (zI (↑q))), (3, .int (zI (1 + pS tm q - pS tm k))), (0, .ref o), (1, .int (zI (↑b))), (2, .int (zI (↑k)))] → W pg l eg (headSpec qw_M_end ({ frames := 1, cells := 0, slots := 0, locals := 21 })).room sg mg ([.ref o, .int (zI (↑b)), .int (zI (↑k))] : List Value).toArray below meth cg sg.heap [] 0 0 (MQ below (rdI (fun r => r = ↑(te k))) ([.ref o, .int (zI (↑b)), .int (zI (↑k))] : List Value).toArray sg 0 0 (fun _ => False)) (F0 mg 5 ls []) := by
    intro d9
    induction d9 using Nat.strongRecOn with
    | _ d9 ih5 =>
      intro q hq1 hq2 hd9 ls hl
      have hnd := wf_need we hk hq1 hq2
      have hub := pS_ub2 hmq hq1 (by omega)
      refine lv_iload_n hx hb qd_M_end_5 rfl (lv_at hl 1 rfl) ?_
      refine zz_if_le (tgt := 33) hx hb qd_M_end_6 (by decide) (by omega) (fun h6 => ?_) (fun h6 => ?_)
      · skip
        refine lv_iload hx hb qd_M_end_33 (lv_at hl 0 rfl) ?_
        exact W.iret (v := zI (↑q)) hx hb hr (fun t9 ht9 _ => ⟨↑q, rfl, (by rw [show q = te k by omega]), ht9⟩) t_nil qd_M_end_35
      · skip
        have hlt : q < te k := hnd.mp (by omega)
        have hq9 := hh q (by omega)
        have hc9 := hco q (by omega)
        have ht9 := htm q (by omega)
        have hs9 := pS_s tm q
        refine lv_iload_n hx hb qd_M_end_9 rfl (lv_at hl 1 rfl) ?_
        refine lv_aload_n hx hb qd_M_end_10 rfl (lv_at hl 2 rfl) ?_
        refine lv_aload_n hx hb qd_M_end_11 rfl (lv_at hl 2 rfl) ?_
        refine va_get (D := (dC, dI)) (ci := 6) (v := .ref mC) (C := "TermOrdersModel") (T := qT_M) (N := 17) hx hb hg qi_M hown hK hF 0 rfl rfl 5 (by decide) (hg _ wd_623) (fun _ h9 => h9) rfl qd_M_end_12 ?_
        refine lv_iload_n hx hb qd_M_end_15 rfl (lv_at hl 3 rfl) ?_
        refine lv_iload hx hb qd_M_end_16 (lv_at hl 0 rfl) ?_
        refine zz_iadd hx hb ((↑b) + (↑q)) rfl qd_M_end_18 ?_
        refine zz_iald hx hb hK hF 2 0 rfl rfl (b + q) (by omega) (by omega) (by omega) qd_M_end_19 ?_
        refine zz_top (b := th q) hc9 ?_
        refine rd_callI (W.runV (As := [.int (zI ((th q)))]) (rest := [.int (zI (1 + pS tm q - pS tm k))]) ⟨hx, hb, hml, hown, hg⟩ (c_M_many l dC dI cI cZ cT cJ o mA mR mW mC mS mL mT mH mY mE mG mB mO sy tc rc tw ar rk wt co sz lf rg hi hv ef gr bd ol (th q) (by omega)) ⟨callB_of 1 hg (gw_ok (fun _ h => h) wd_709) rfl rfl rfl (hg _ wd_6) (hg _ wd_706) (by decide +kernel) ⟨Nat.le_of_ble_eq_true rfl, Nat.le_of_ble_eq_true rfl⟩, hg _ wd_708, hg _ se_M_many⟩ (rd_preV (va_recv (q0 := 0) hK hF rfl rfl) (pw_c (q := (o, .inr (6, [.int (zI (↑sy)), .ref mA, .ref mR, .ref mW, .int (zI (↑tc)), .ref mC, .ref mS, .int (zI (↑rc)), .ref mL, .ref mT, .ref mH, .ref mY, .ref mE, .ref mG, .ref mB, .ref mO, .int (zI (tw))]))) hF 0 rfl (pw_c (q := (mA, .inl (cI, 5, .inl (zA ar)))) hF 1 rfl (pw_nil))) hK hN) rfl rfl hl.1 rfl (lv_room (Nat.le_of_ble_eq_true rfl)) qd_M_end_20 ⟨Nat.le_of_ble_eq_true rfl, Nat.le_of_ble_eq_true rfl⟩) (fun r20 hr20 => ?_)
        have e20 : r20 = mny ar (th q) := hr20
        subst e20
        refine lv_iconst (v := zI 1) hx hb qd_M_end_23 rfl ?_
        refine zz_isub hx hb ((mny ar (th q)) - 1) rfl qd_M_end_24 ?_
        refine zz_iadd hx hb (1 + pS tm (q + 1) - pS tm k) (by omega) qd_M_end_25 ?_
        refine lv_istore_n (lv' := [(3, .int (zI (1 + pS tm (q + 1) - pS tm k))), (4, .int (zI (↑q))), (0, .ref o), (1, .int (zI (↑b))), (2, .int (zI (↑k)))]) hx hb qd_M_end_26 rfl hl (by decide) rfl (fun ls hl => ?_)
        refine lv_iinc (k := 1) (lv' := [(4, .int (zI (↑(q + 1)))), (3, .int (zI (1 + pS tm (q + 1) - pS tm k))), (0, .ref o), (1, .int (zI (↑b))), (2, .int (zI (↑k)))]) hx hb qd_M_end_27 hl rfl (zI_inc (v := ↑(q + 1)) (by omega)) (by decide) rfl (fun ls hl => ?_)
        refine lv_goto (tgt := 5) hx hb qd_M_end_30 (by decide) ?_
        exact ih5 _ (by omega) (q + 1) (by omega) (by omega) rfl ls hl
  have q9 : 1 = 1 + pS tm k - pS tm k := (by omega)
  have hl : lv_has ls 5 [(4, .int (zI (↑k))), (3, .int (zI (1 + pS tm k - pS tm k))), (0, .ref o), (1, .int (zI (↑b))), (2, .int (zI (↑k)))] := by have h8 := hl; rw [q9] at h8; exact h8
  exact L5 _ k (by omega) (by omega) rfl ls hl
set_option maxHeartbeats 4000000 in
set_option maxRecDepth 100000 in
theorem c_M_alike (l : Launch) (dC : Nat → ClassId) (dI : Nat → Nat → Nat) (cI cZ cT cJ : ClassId) (o mA mR mW mC mS mL mT mH mY mE mG mB mO sy tc rc : Nat) (tw : Int) (ar rk wt co : Nat → Int) (sz lf rg : Nat → Nat) (hi hv : Nat → Int) (ef : Nat → Nat) (gr : Nat → Bool) (bd ol : Nat → Int) (b n : Nat) (th tm : Nat → Int) (te : Nat → Nat) (b2 n2 : Nat) (th2 tm2 : Nat → Int) (te2 : Nat → Nat) (i j : Nat) (har : ∀ q, q < 5 → 0 ≤ ar q ∧ ar q ≤ 3) (h16 : n ≤ 16) (hb0 : b + 16 ≤ 2608) (hco : ∀ q, q < n → co (b + q) = th q) (htm : ∀ q, q < n → tm q = mny ar (th q)) (hh : ∀ q, q < n → -4 ≤ th q ∧ th q ≤ 4) (we : wfE tm n te) (h162 : n2 ≤ 16) (hb02 : b2 + 16 ≤ 2608) (hco2 : ∀ q, q < n2 → co (b2 + q) = th2 q) (htm2 : ∀ q, q < n2 → tm2 q = mny ar (th2 q)) (hh2 : ∀ q, q < n2 → -4 ≤ th2 q ∧ th2 q ≤ 4) (we2 : wfE tm2 n2 te2) (hi9 : i < n) (hj9 : j < n2) : Met l qy_M_alike qw_M_alike ({ frames := 2, cells := 0, slots := 0, locals := 45 }) (rdP (dC, dI) qcl (qty cI cZ cT cJ) nwL [(o, .inr (6, [.int (zI (↑sy)), .ref mA, .ref mR, .ref mW, .int (zI (↑tc)), .ref mC, .ref mS, .int (zI (↑rc)), .ref mL, .ref mT, .ref mH, .ref mY, .ref mE, .ref mG, .ref mB, .ref mO, .int (zI (tw))])), (mA, .inl (cI, 5, .inl (zA ar))), (mC, .inl (cI, 2608, .inl (zA co)))] [.ref o, .int (zI (↑b)), .int (zI (↑i)), .int (zI (↑b2)), .int (zI (↑j))]) (rdB (smP th te i th2 te2 j)) 0 0 (fun _ => False) := by
  refine Met.ofW (cc := qc_M_alike) (maxL := 7) (ret := (Option.some Jvm.ClassFile.FieldType.boolean)) (by decide) rfl ?_
  intro pg eg sg mg args below meth cg s₁ B hml hv
  obtain ⟨rfl, hF, hK, hN⟩ := hv
  have hx := B.exec
  have hb := B.bytes
  have hr := B.returns
  have hts := atoms_spec (ws := qw_M_alike) B.pre
  have hg : ∀ w ∈ gw, w.before _ sg = true := fun w h => hts w (List.mem_cons_of_mem _ h)
  have hown : sg.vm.findClass "TermOrdersModel" = some mg.cls := findClass_of_methodNamed B.named
  have hlocks := B.notSynchronized
  have hl := lv_entry ([.ref o, .int (zI (↑b)), .int (zI (↑i)), .int (zI (↑b2)), .int (zI (↑j))]) (n := 7) (Nat.le_of_ble_eq_true rfl)
  rw [lg_entry_eq]
  generalize (lg_sl ([.ref o, .int (zI (↑b)), .int (zI (↑i)), .int (zI (↑b2)), .int (zI (↑j))]) ++ List.replicate (7 - (lg_sl ([.ref o, .int (zI (↑b)), .int (zI (↑i)), .int (zI (↑b2)), .int (zI (↑j))])).length) Slot.unset).toArray = ls at hl ⊢
  have hl : lv_has ls 7 [(0, .ref o), (1, .int (zI (↑b))), (2, .int (zI (↑i))), (3, .int (zI (↑b2))), (4, .int (zI (↑j)))] := hl
  obtain ⟨w1, w2, w3, w4⟩ := we i hi9
  obtain ⟨v1, v2, v3, v4⟩ := we2 j hj9
  refine lv_aload_n hx hb qd_M_alike_0 rfl (lv_at hl 0 rfl) ?_
  refine lv_iload_n hx hb qd_M_alike_1 rfl (lv_at hl 1 rfl) ?_
  refine lv_iload_n hx hb qd_M_alike_2 rfl (lv_at hl 2 rfl) ?_
  refine rd_callI (W.runV (As := [.int (zI (↑b)), .int (zI (↑i))]) (rest := []) ⟨hx, hb, hml, hown, hg⟩ (c_M_end l dC dI cI cZ cT cJ o mA mR mW mC mS mL mT mH mY mE mG mB mO sy tc rc tw ar rk wt co sz lf rg hi hv ef gr bd ol b n th tm te i har h16 hb0 hco htm hh we hi9) ⟨callB_of 2 hg (gw_ok (fun _ h => h) wd_713) rfl rfl rfl (hg _ wd_6) (hg _ wd_710) (by decide +kernel) ⟨Nat.le_of_ble_eq_true rfl, Nat.le_of_ble_eq_true rfl⟩, hg _ wd_712, hg _ se_M_end⟩ (rd_preV (va_recv (q0 := 0) hK hF rfl rfl) (pw_c (q := (o, .inr (6, [.int (zI (↑sy)), .ref mA, .ref mR, .ref mW, .int (zI (↑tc)), .ref mC, .ref mS, .int (zI (↑rc)), .ref mL, .ref mT, .ref mH, .ref mY, .ref mE, .ref mG, .ref mB, .ref mO, .int (zI (tw))]))) hF 0 rfl (pw_c (q := (mA, .inl (cI, 5, .inl (zA ar)))) hF 1 rfl (pw_c (q := (mC, .inl (cI, 2608, .inl (zA co)))) hF 2 rfl (pw_nil)))) hK hN) rfl rfl hl.1 rfl (lv_room (Nat.le_of_ble_eq_true rfl)) qd_M_alike_3 ⟨Nat.le_of_ble_eq_true rfl, Nat.le_of_ble_eq_true rfl⟩) (fun r3 hr3 => ?_)
  have e3 : r3 = ↑(te i) := hr3
  subst e3
  refine lv_iload_n hx hb qd_M_alike_6 rfl (lv_at hl 2 rfl) ?_
  refine zz_isub hx hb ((↑(te i)) - (↑i)) rfl qd_M_alike_7 ?_
  refine lv_istore (lv' := [(5, .int (zI ((↑(te i)) - (↑i)))), (0, .ref o), (1, .int (zI (↑b))), (2, .int (zI (↑i))), (3, .int (zI (↑b2))), (4, .int (zI (↑j)))]) hx hb qd_M_alike_8 hl (by decide) rfl (fun ls hl => ?_)
  refine lv_aload_n hx hb qd_M_alike_10 rfl (lv_at hl 1 rfl) ?_
  refine lv_iload_n hx hb qd_M_alike_11 rfl (lv_at hl 4 rfl) ?_
  refine lv_iload hx hb qd_M_alike_12 (lv_at hl 5 rfl) ?_
  refine rd_callI (W.runV (As := [.int (zI (↑b2)), .int (zI (↑j))]) (rest := []) ⟨hx, hb, hml, hown, hg⟩ (c_M_end l dC dI cI cZ cT cJ o mA mR mW mC mS mL mT mH mY mE mG mB mO sy tc rc tw ar rk wt co sz lf rg hi hv ef gr bd ol b2 n2 th2 tm2 te2 j har h162 hb02 hco2 htm2 hh2 we2 hj9) ⟨callB_of 2 hg (gw_ok (fun _ h => h) wd_713) rfl rfl rfl (hg _ wd_6) (hg _ wd_710) (by decide +kernel) ⟨Nat.le_of_ble_eq_true rfl, Nat.le_of_ble_eq_true rfl⟩, hg _ wd_712, hg _ se_M_end⟩ (rd_preV (va_recv (q0 := 0) hK hF rfl rfl) (pw_c (q := (o, .inr (6, [.int (zI (↑sy)), .ref mA, .ref mR, .ref mW, .int (zI (↑tc)), .ref mC, .ref mS, .int (zI (↑rc)), .ref mL, .ref mT, .ref mH, .ref mY, .ref mE, .ref mG, .ref mB, .ref mO, .int (zI (tw))]))) hF 0 rfl (pw_c (q := (mA, .inl (cI, 5, .inl (zA ar)))) hF 1 rfl (pw_c (q := (mC, .inl (cI, 2608, .inl (zA co)))) hF 2 rfl (pw_nil)))) hK hN) rfl rfl hl.1 rfl (lv_room (Nat.le_of_ble_eq_true rfl)) qd_M_alike_14 ⟨Nat.le_of_ble_eq_true rfl, Nat.le_of_ble_eq_true rfl⟩) (fun r14 hr14 => ?_)
  have e14 : r14 = ↑(te2 j) := hr14
  subst e14
  refine lv_iload hx hb qd_M_alike_17 (lv_at hl 5 rfl) ?_
  refine zz_isub hx hb ((↑(te2 j)) - (↑j)) rfl qd_M_alike_19 ?_
  refine lv_iload hx hb qd_M_alike_20 (lv_at hl 0 rfl) ?_
  refine zz_icmp_eq (tgt := 27) hx hb qd_M_alike_22 (by decide) (by omega) (by omega) (fun h22 => ?_) (fun h22 => ?_)
  · skip
    refine lv_iconst (v := zI 0) hx hb qd_M_alike_27 rfl ?_
    refine lv_istore (lv' := [(6, .int (zI (0))), (5, .int (zI ((↑(te i)) - (↑i)))), (0, .ref o), (1, .int (zI (↑b))), (2, .int (zI (↑i))), (3, .int (zI (↑b2))), (4, .int (zI (↑j)))]) hx hb qd_M_alike_28 hl (by decide) rfl (fun ls hl => ?_)
    have L30 : ∀ (d9 : Nat) (k : Nat), (k ≤ te i - i) → (∀ q, q < k → th (i + q) = th2 (j + q)) → te i - i - k = d9 → ∀ ls : Array Slot, lv_has ls 7 [(6, .int (zI (↑k))), (5, .int (zI ((↑(te i)) - (↑i)))), (0, .ref o), (1, .int (zI (↑b))), (2, .int (zI (↑i))), (3, .int (zI (↑b2))), (4, .int (zI (↑j)))] → W pg l eg (headSpec qw_M_alike ({ frames := 2, cells := 0, slots := 0, locals := 45 })).room sg mg ([.ref o, .int (zI (↑b)), .int (zI (↑i)), .int (zI (↑b2)), .int (zI (↑j))] : List Value).toArray below meth cg sg.heap [] 0 0 (MQ below (rdB (smP th te i th2 te2 j)) ([.ref o, .int (zI (↑b)), .int (zI (↑i)), .int (zI (↑b2)), .int (zI (↑j))] : List Value).toArray sg 0 0 (fun _ => False)) (F0 mg 30 ls []) := by
      intro d9
      induction d9 using Nat.strongRecOn with
      | _ d9 ih30 =>
        intro k hk hz hd9 ls hl
        refine lv_iload hx hb qd_M_alike_30 (lv_at hl 0 rfl) ?_
        refine lv_iload hx hb qd_M_alike_32 (lv_at hl 1 rfl) ?_
        refine zz_icmp_ge (tgt := 71) hx hb qd_M_alike_34 (by decide) (by omega) (by omega) (fun h34 => ?_) (fun h34 => ?_)
        · skip
          refine lv_iconst (v := zI 1) hx hb qd_M_alike_71 rfl ?_
          exact W.zret (v := zI 1) (ty := .boolean) hx hb hr rfl (fun t9 ht9 _ => ⟨true, rfl, bT (⟨by omega, fun q hq => hz q (by omega)⟩), ht9⟩) t_nil qd_M_alike_72
        · skip
          have hq1 := hh (i + k) (by omega)
          have hq2 := hh2 (j + k) (by omega)
          have hc1 := hco (i + k) (by omega)
          have hc2 := hco2 (j + k) (by omega)
          refine lv_aload_n hx hb qd_M_alike_37 rfl (lv_at hl 2 rfl) ?_
          refine va_get (D := (dC, dI)) (ci := 6) (v := .ref mC) (C := "TermOrdersModel") (T := qT_M) (N := 17) hx hb hg qi_M hown hK hF 0 rfl rfl 5 (by decide) (hg _ wd_623) (fun _ h9 => h9) rfl qd_M_alike_38 ?_
          refine lv_iload_n hx hb qd_M_alike_41 rfl (lv_at hl 3 rfl) ?_
          refine lv_iload_n hx hb qd_M_alike_42 rfl (lv_at hl 4 rfl) ?_
          refine zz_iadd hx hb ((↑b) + (↑i)) rfl qd_M_alike_43 ?_
          refine lv_iload hx hb qd_M_alike_44 (lv_at hl 0 rfl) ?_
          refine zz_iadd hx hb (((↑b) + (↑i)) + (↑k)) rfl qd_M_alike_46 ?_
          refine zz_iald hx hb hK hF 2 0 rfl rfl (b + (i + k)) (by omega) (by omega) (by omega) qd_M_alike_47 ?_
          refine zz_top (b := th (i + k)) hc1 ?_
          refine lv_aload_n hx hb qd_M_alike_48 rfl (lv_at hl 2 rfl) ?_
          refine va_get (D := (dC, dI)) (ci := 6) (v := .ref mC) (C := "TermOrdersModel") (T := qT_M) (N := 17) hx hb hg qi_M hown hK hF 0 rfl rfl 5 (by decide) (hg _ wd_623) (fun _ h9 => h9) rfl qd_M_alike_49 ?_
          refine lv_iload_n hx hb qd_M_alike_52 rfl (lv_at hl 5 rfl) ?_
          refine lv_iload hx hb qd_M_alike_53 (lv_at hl 6 rfl) ?_
          refine zz_iadd hx hb ((↑b2) + (↑j)) rfl qd_M_alike_55 ?_
          refine lv_iload hx hb qd_M_alike_56 (lv_at hl 0 rfl) ?_
          refine zz_iadd hx hb (((↑b2) + (↑j)) + (↑k)) rfl qd_M_alike_58 ?_
          refine zz_iald hx hb hK hF 2 0 rfl rfl (b2 + (j + k)) (by omega) (by omega) (by omega) qd_M_alike_59 ?_
          refine zz_top (b := th2 (j + k)) hc2 ?_
          refine zz_icmp_eq (tgt := 65) hx hb qd_M_alike_60 (by decide) (by omega) (by omega) (fun h60 => ?_) (fun h60 => ?_)
          · skip
            refine lv_iinc (k := 0) (lv' := [(6, .int (zI (↑(k + 1)))), (5, .int (zI ((↑(te i)) - (↑i)))), (0, .ref o), (1, .int (zI (↑b))), (2, .int (zI (↑i))), (3, .int (zI (↑b2))), (4, .int (zI (↑j)))]) hx hb qd_M_alike_65 hl rfl (zI_inc (v := ↑(k + 1)) (by omega)) (by decide) rfl (fun ls hl => ?_)
            refine lv_goto (tgt := 30) hx hb qd_M_alike_68 (by decide) ?_
            exact ih30 _ (by omega) (k + 1) (by omega) (fun q hq => if hqk : q < k then hz q hqk else (by rw [show q = k by omega]; exact h60)) rfl ls hl
          · skip
            refine lv_iconst (v := zI 0) hx hb qd_M_alike_63 rfl ?_
            exact W.zret (v := zI 0) (ty := .boolean) hx hb hr rfl (fun t9 ht9 _ => ⟨false, rfl, bF ((fun hs => h60 (hs.2 k (by omega)))), ht9⟩) t_nil qd_M_alike_64
    exact L30 _ 0 (by omega) (fun q hq => by omega) rfl ls hl
  · skip
    refine lv_iconst (v := zI 0) hx hb qd_M_alike_25 rfl ?_
    exact W.zret (v := zI 0) (ty := .boolean) hx hb hr rfl (fun t9 ht9 _ => ⟨false, rfl, bF ((fun hs => by have := hs.1; omega)), ht9⟩) t_nil qd_M_alike_26
set_option maxHeartbeats 4000000 in
set_option maxRecDepth 100000 in
theorem c_M_weighed (l : Launch) (dC : Nat → ClassId) (dI : Nat → Nat → Nat) (cI cZ cT cJ : ClassId) (o mA mR mW mC mS mL mT mH mY mE mG mB mO sy tc rc : Nat) (tw : Int) (ar rk wt co : Nat → Int) (sz lf rg : Nat → Nat) (hi hv : Nat → Int) (ef : Nat → Nat) (gr : Nat → Bool) (bd ol : Nat → Int) (b n : Nat) (th tm : Nat → Int) (te : Nat → Nat) (x y : Nat) (hwt : ∀ q, q < 5 → 0 ≤ wt q ∧ wt q ≤ 9) (h16 : n ≤ 16) (hb0 : b + 16 ≤ 2608) (hco : ∀ q, q < n → co (b + q) = th q) (hh : ∀ q, q < n → -4 ≤ th q ∧ th q ≤ 4) (hxy : x ≤ y) (hyn : y ≤ n) : Met l qy_M_weighed qw_M_weighed ({ frames := 0, cells := 0, slots := 0, locals := 0 }) (rdP (dC, dI) qcl (qty cI cZ cT cJ) nwL [(o, .inr (6, [.int (zI (↑sy)), .ref mA, .ref mR, .ref mW, .int (zI (↑tc)), .ref mC, .ref mS, .int (zI (↑rc)), .ref mL, .ref mT, .ref mH, .ref mY, .ref mE, .ref mG, .ref mB, .ref mO, .int (zI (tw))])), (mW, .inl (cI, 5, .inl (zA wt))), (mC, .inl (cI, 2608, .inl (zA co)))] [.ref o, .int (zI (↑b)), .int (zI (↑x)), .int (zI (↑y))]) (rdI (fun r => r = wsum th wt x (y - x))) 0 0 (fun _ => False) := by
  refine Met.ofW (cc := qc_M_weighed) (maxL := 6) (ret := (Option.some Jvm.ClassFile.FieldType.int)) (by decide) rfl ?_
  intro pg eg sg mg args below meth cg s₁ B hml hv
  obtain ⟨rfl, hF, hK, hN⟩ := hv
  have hx := B.exec
  have hb := B.bytes
  have hr := B.returns
  have hts := atoms_spec (ws := qw_M_weighed) B.pre
  have hg : ∀ w ∈ gw, w.before _ sg = true := fun w h => hts w (List.mem_cons_of_mem _ h)
  have hown : sg.vm.findClass "TermOrdersModel" = some mg.cls := findClass_of_methodNamed B.named
  have hlocks := B.notSynchronized
  have hl := lv_entry ([.ref o, .int (zI (↑b)), .int (zI (↑x)), .int (zI (↑y))]) (n := 6) (Nat.le_of_ble_eq_true rfl)
  rw [lg_entry_eq]
  generalize (lg_sl ([.ref o, .int (zI (↑b)), .int (zI (↑x)), .int (zI (↑y))]) ++ List.replicate (6 - (lg_sl ([.ref o, .int (zI (↑b)), .int (zI (↑x)), .int (zI (↑y))])).length) Slot.unset).toArray = ls at hl ⊢
  have hl : lv_has ls 6 [(0, .ref o), (1, .int (zI (↑b))), (2, .int (zI (↑x))), (3, .int (zI (↑y)))] := hl
  refine lv_iconst (v := zI 0) hx hb qd_M_weighed_0 rfl ?_
  refine lv_istore (lv' := [(4, .int (zI (0))), (0, .ref o), (1, .int (zI (↑b))), (2, .int (zI (↑x))), (3, .int (zI (↑y)))]) hx hb qd_M_weighed_1 hl (by decide) rfl (fun ls hl => ?_)
  refine lv_iload_n hx hb qd_M_weighed_3 rfl (lv_at hl 3 rfl) ?_
  refine lv_istore (lv' := [(5, .int (zI (↑x))), (4, .int (zI (0))), (0, .ref o), (1, .int (zI (↑b))), (2, .int (zI (↑x))), (3, .int (zI (↑y)))]) hx hb qd_M_weighed_4 hl (by decide) rfl (fun ls hl => ?_)
  have L6 : ∀ (d9 : Nat) (k : Nat), (x + k ≤ y) → y - (x + k) = d9 → ∀ ls : Array Slot, lv_has ls 6 [(5, .int (zI (↑(x + k)))), (4, .int (zI (wsum th wt x k))), (0, .ref o), (1, .int (zI (↑b))), (2, .int (zI (↑x))), (3, .int (zI (↑y)))] → W pg l eg (headSpec qw_M_weighed ({ frames := 0, cells := 0, slots := 0, locals := 0 })).room sg mg ([.ref o, .int (zI (↑b)), .int (zI (↑x)), .int (zI (↑y))] : List Value).toArray below meth cg sg.heap [] 0 0 (MQ below (rdI (fun r => r = wsum th wt x (y - x))) ([.ref o, .int (zI (↑b)), .int (zI (↑x)), .int (zI (↑y))] : List Value).toArray sg 0 0 (fun _ => False)) (F0 mg 6 ls []) := by
    intro d9
    induction d9 using Nat.strongRecOn with
    | _ d9 ih6 =>
      intro k hk hd9 ls hl
      refine lv_iload hx hb qd_M_weighed_6 (lv_at hl 0 rfl) ?_
      refine lv_iload_n hx hb qd_M_weighed_8 rfl (lv_at hl 5 rfl) ?_
      refine zz_icmp_ge (tgt := 53) hx hb qd_M_weighed_9 (by decide) (by omega) (by omega) (fun h9 => ?_) (fun h9 => ?_)
      · skip
        refine lv_iload hx hb qd_M_weighed_53 (lv_at hl 1 rfl) ?_
        exact W.iret (v := zI (wsum th wt x k)) hx hb hr (fun t9 ht9 _ => ⟨wsum th wt x k, rfl, (by rw [show k = y - x by omega]), ht9⟩) t_nil qd_M_weighed_55
      · skip
        have hq1 := hh (x + k) (by omega)
        have hc1 := hco (x + k) (by omega)
        refine lv_iload hx hb qd_M_weighed_12 (lv_at hl 1 rfl) ?_
        refine lv_aload_n hx hb qd_M_weighed_14 rfl (lv_at hl 2 rfl) ?_
        refine va_get (D := (dC, dI)) (ci := 6) (v := .ref mC) (C := "TermOrdersModel") (T := qT_M) (N := 17) hx hb hg qi_M hown hK hF 0 rfl rfl 5 (by decide) (hg _ wd_623) (fun _ h9 => h9) rfl qd_M_weighed_15 ?_
        refine lv_iload_n hx hb qd_M_weighed_18 rfl (lv_at hl 3 rfl) ?_
        refine lv_iload hx hb qd_M_weighed_19 (lv_at hl 0 rfl) ?_
        refine zz_iadd hx hb ((↑b) + (↑(x + k))) rfl qd_M_weighed_21 ?_
        refine zz_iald hx hb hK hF 2 0 rfl rfl (b + (x + k)) (by omega) (by omega) (by omega) qd_M_weighed_22 ?_
        refine zz_top (b := th (x + k)) hc1 ?_
        refine zz_if_ge (tgt := 30) hx hb qd_M_weighed_23 (by decide) (by omega) (fun h23 => ?_) (fun h23 => ?_)
        · skip
          refine lv_aload_n hx hb qd_M_weighed_30 rfl (lv_at hl 2 rfl) ?_
          refine va_get (D := (dC, dI)) (ci := 6) (v := .ref mW) (C := "TermOrdersModel") (T := qT_M) (N := 17) hx hb hg qi_M hown hK hF 0 rfl rfl 3 (by decide) (hg _ wd_621) (fun _ h9 => h9) rfl qd_M_weighed_31 ?_
          refine lv_aload_n hx hb qd_M_weighed_34 rfl (lv_at hl 2 rfl) ?_
          refine va_get (D := (dC, dI)) (ci := 6) (v := .ref mC) (C := "TermOrdersModel") (T := qT_M) (N := 17) hx hb hg qi_M hown hK hF 0 rfl rfl 5 (by decide) (hg _ wd_623) (fun _ h9 => h9) rfl qd_M_weighed_35 ?_
          refine lv_iload_n hx hb qd_M_weighed_38 rfl (lv_at hl 3 rfl) ?_
          refine lv_iload hx hb qd_M_weighed_39 (lv_at hl 0 rfl) ?_
          refine zz_iadd hx hb ((↑b) + (↑(x + k))) rfl qd_M_weighed_41 ?_
          refine zz_iald hx hb hK hF 2 0 rfl rfl (b + (x + k)) (by omega) (by omega) (by omega) qd_M_weighed_42 ?_
          refine zz_top (b := th (x + k)) hc1 ?_
          refine zz_iald hx hb hK hF 1 0 rfl rfl ((th (x + k)).toNat) (by omega) (by omega) (by omega) qd_M_weighed_43 ?_
          refine zz_iadd hx hb ((wsum th wt x k) + (wt ((th (x + k)).toNat))) rfl qd_M_weighed_44 ?_
          refine lv_istore (lv' := [(4, .int (zI ((wsum th wt x k) + (wt ((th (x + k)).toNat))))), (5, .int (zI (↑(x + k)))), (0, .ref o), (1, .int (zI (↑b))), (2, .int (zI (↑x))), (3, .int (zI (↑y)))]) hx hb qd_M_weighed_45 hl (by decide) rfl (fun ls hl => ?_)
          refine lv_iinc (k := 1) (lv' := [(5, .int (zI (↑(x + (k + 1))))), (4, .int (zI ((wsum th wt x k) + (wt ((th (x + k)).toNat))))), (0, .ref o), (1, .int (zI (↑b))), (2, .int (zI (↑x))), (3, .int (zI (↑y)))]) hx hb qd_M_weighed_47 hl rfl (zI_inc (v := ↑(x + (k + 1))) (by omega)) (by decide) rfl (fun ls hl => ?_)
          refine lv_goto (tgt := 6) hx hb qd_M_weighed_50 (by decide) ?_
          have q9 : (wsum th wt x k) + (wt ((th (x + k)).toNat)) = wsum th wt x (k + 1) := (by simp only [wsum]; first | rw [if_pos (by omega)] | rw [if_neg (by omega)])
          have hl : lv_has ls 6 [(5, .int (zI (↑(x + (k + 1))))), (4, .int (zI (wsum th wt x (k + 1)))), (0, .ref o), (1, .int (zI (↑b))), (2, .int (zI (↑x))), (3, .int (zI (↑y)))] := by have h8 := hl; rw [q9] at h8; exact h8
          exact ih6 _ (by omega) (k + 1) (by omega) rfl ls hl
        · skip
          refine lv_iconst (v := zI 1) hx hb qd_M_weighed_26 rfl ?_
          refine lv_goto (tgt := 44) hx hb qd_M_weighed_27 (by decide) ?_
          refine zz_iadd hx hb ((wsum th wt x k) + 1) rfl qd_M_weighed_44 ?_
          refine lv_istore (lv' := [(4, .int (zI ((wsum th wt x k) + 1))), (5, .int (zI (↑(x + k)))), (0, .ref o), (1, .int (zI (↑b))), (2, .int (zI (↑x))), (3, .int (zI (↑y)))]) hx hb qd_M_weighed_45 hl (by decide) rfl (fun ls hl => ?_)
          refine lv_iinc (k := 1) (lv' := [(5, .int (zI (↑(x + (k + 1))))), (4, .int (zI ((wsum th wt x k) + 1))), (0, .ref o), (1, .int (zI (↑b))), (2, .int (zI (↑x))), (3, .int (zI (↑y)))]) hx hb qd_M_weighed_47 hl rfl (zI_inc (v := ↑(x + (k + 1))) (by omega)) (by decide) rfl (fun ls hl => ?_)
          refine lv_goto (tgt := 6) hx hb qd_M_weighed_50 (by decide) ?_
          have q9 : (wsum th wt x k) + 1 = wsum th wt x (k + 1) := (by simp only [wsum]; first | rw [if_pos (by omega)] | rw [if_neg (by omega)])
          have hl : lv_has ls 6 [(5, .int (zI (↑(x + (k + 1))))), (4, .int (zI (wsum th wt x (k + 1)))), (0, .ref o), (1, .int (zI (↑b))), (2, .int (zI (↑x))), (3, .int (zI (↑y)))] := by have h8 := hl; rw [q9] at h8; exact h8
          exact ih6 _ (by omega) (k + 1) (by omega) rfl ls hl
  exact L6 _ 0 (by omega) rfl ls hl
set_option maxHeartbeats 4000000 in
set_option maxRecDepth 100000 in
theorem c_M_isTerm (l : Launch) (dC : Nat → ClassId) (dI : Nat → Nat → Nat) (cI cZ cT cJ : ClassId) (o mA mR mW mC mS mL mT mH mY mE mG mB mO sy tc rc : Nat) (tw : Int) (ar rk wt co : Nat → Int) (sz lf rg : Nat → Nat) (hi hv : Nat → Int) (ef : Nat → Nat) (gr : Nat → Bool) (bd ol : Nat → Int) (x : Int) (htc : tc ≤ 160) (hx32 : -2147483648 ≤ x ∧ x < 2147483648) : Met l qy_M_isTerm qw_M_isTerm ({ frames := 0, cells := 0, slots := 0, locals := 0 }) (rdP (dC, dI) qcl (qty cI cZ cT cJ) nwL [(o, .inr (6, [.int (zI (↑sy)), .ref mA, .ref mR, .ref mW, .int (zI (↑tc)), .ref mC, .ref mS, .int (zI (↑rc)), .ref mL, .ref mT, .ref mH, .ref mY, .ref mE, .ref mG, .ref mB, .ref mO, .int (zI (tw))]))] [.ref o, .int (zI (x))]) (rdB (0 ≤ x ∧ x < tc)) 0 0 (fun _ => False) := by
  refine Met.ofW (cc := qc_M_isTerm) (maxL := 2) (ret := (Option.some Jvm.ClassFile.FieldType.boolean)) (by decide) rfl ?_
  intro pg eg sg mg args below meth cg s₁ B hml hv
  obtain ⟨rfl, hF, hK, hN⟩ := hv
  have hx := B.exec
  have hb := B.bytes
  have hr := B.returns
  have hts := atoms_spec (ws := qw_M_isTerm) B.pre
  have hg : ∀ w ∈ gw, w.before _ sg = true := fun w h => hts w (List.mem_cons_of_mem _ h)
  have hown : sg.vm.findClass "TermOrdersModel" = some mg.cls := findClass_of_methodNamed B.named
  have hlocks := B.notSynchronized
  have hl := lv_entry ([.ref o, .int (zI (x))]) (n := 2) (Nat.le_of_ble_eq_true rfl)
  rw [lg_entry_eq]
  generalize (lg_sl ([.ref o, .int (zI (x))]) ++ List.replicate (2 - (lg_sl ([.ref o, .int (zI (x))])).length) Slot.unset).toArray = ls at hl ⊢
  have hl : lv_has ls 2 [(0, .ref o), (1, .int (zI (x)))] := hl
  refine lv_iload_n hx hb qd_M_isTerm_0 rfl (lv_at hl 1 rfl) ?_
  refine zz_if_lt (tgt := 16) hx hb qd_M_isTerm_1 (by decide) (by omega) (fun h1 => ?_) (fun h1 => ?_)
  · skip
    refine lv_iconst (v := zI 0) hx hb qd_M_isTerm_16 rfl ?_
    exact W.zret (v := zI 0) (ty := .boolean) hx hb hr rfl (fun t9 ht9 _ => ⟨false, rfl, bF ((by omega)), ht9⟩) t_nil qd_M_isTerm_17
  · skip
    refine lv_iload_n hx hb qd_M_isTerm_4 rfl (lv_at hl 1 rfl) ?_
    refine lv_aload_n hx hb qd_M_isTerm_5 rfl (lv_at hl 0 rfl) ?_
    refine va_get (D := (dC, dI)) (ci := 6) (v := .int (zI (↑tc))) (C := "TermOrdersModel") (T := qT_M) (N := 17) hx hb hg qi_M hown hK hF 0 rfl rfl 4 (by decide) (hg _ wd_622) (fun _ h9 => h9) rfl qd_M_isTerm_6 ?_
    refine zz_icmp_ge (tgt := 16) hx hb qd_M_isTerm_9 (by decide) (by omega) (by omega) (fun h9 => ?_) (fun h9 => ?_)
    · skip
      refine lv_iconst (v := zI 0) hx hb qd_M_isTerm_16 rfl ?_
      exact W.zret (v := zI 0) (ty := .boolean) hx hb hr rfl (fun t9 ht9 _ => ⟨false, rfl, bF ((by omega)), ht9⟩) t_nil qd_M_isTerm_17
    · skip
      refine lv_iconst (v := zI 1) hx hb qd_M_isTerm_12 rfl ?_
      refine lv_goto (tgt := 17) hx hb qd_M_isTerm_13 (by decide) ?_
      exact W.zret (v := zI 1) (ty := .boolean) hx hb hr rfl (fun t9 ht9 _ => ⟨true, rfl, bT ((by omega)), ht9⟩) t_nil qd_M_isTerm_17
set_option maxHeartbeats 4000000 in
set_option maxRecDepth 100000 in
theorem c_M_isSymbol (l : Launch) (dC : Nat → ClassId) (dI : Nat → Nat → Nat) (cI cZ cT cJ : ClassId) (o mA mR mW mC mS mL mT mH mY mE mG mB mO sy tc rc : Nat) (tw : Int) (ar rk wt co : Nat → Int) (sz lf rg : Nat → Nat) (hi hv : Nat → Int) (ef : Nat → Nat) (gr : Nat → Bool) (bd ol : Nat → Int) (x : Int) (hsy : sy ≤ 5) (hx32 : -2147483648 ≤ x ∧ x < 2147483648) : Met l qy_M_isSymbol qw_M_isSymbol ({ frames := 0, cells := 0, slots := 0, locals := 0 }) (rdP (dC, dI) qcl (qty cI cZ cT cJ) nwL [(o, .inr (6, [.int (zI (↑sy)), .ref mA, .ref mR, .ref mW, .int (zI (↑tc)), .ref mC, .ref mS, .int (zI (↑rc)), .ref mL, .ref mT, .ref mH, .ref mY, .ref mE, .ref mG, .ref mB, .ref mO, .int (zI (tw))]))] [.ref o, .int (zI (x))]) (rdB (0 ≤ x ∧ x < sy)) 0 0 (fun _ => False) := by
  refine Met.ofW (cc := qc_M_isSymbol) (maxL := 2) (ret := (Option.some Jvm.ClassFile.FieldType.boolean)) (by decide) rfl ?_
  intro pg eg sg mg args below meth cg s₁ B hml hv
  obtain ⟨rfl, hF, hK, hN⟩ := hv
  have hx := B.exec
  have hb := B.bytes
  have hr := B.returns
  have hts := atoms_spec (ws := qw_M_isSymbol) B.pre
  have hg : ∀ w ∈ gw, w.before _ sg = true := fun w h => hts w (List.mem_cons_of_mem _ h)
  have hown : sg.vm.findClass "TermOrdersModel" = some mg.cls := findClass_of_methodNamed B.named
  have hlocks := B.notSynchronized
  have hl := lv_entry ([.ref o, .int (zI (x))]) (n := 2) (Nat.le_of_ble_eq_true rfl)
  rw [lg_entry_eq]
  generalize (lg_sl ([.ref o, .int (zI (x))]) ++ List.replicate (2 - (lg_sl ([.ref o, .int (zI (x))])).length) Slot.unset).toArray = ls at hl ⊢
  have hl : lv_has ls 2 [(0, .ref o), (1, .int (zI (x)))] := hl
  refine lv_iload_n hx hb qd_M_isSymbol_0 rfl (lv_at hl 1 rfl) ?_
  refine zz_if_lt (tgt := 16) hx hb qd_M_isSymbol_1 (by decide) (by omega) (fun h1 => ?_) (fun h1 => ?_)
  · skip
    refine lv_iconst (v := zI 0) hx hb qd_M_isSymbol_16 rfl ?_
    exact W.zret (v := zI 0) (ty := .boolean) hx hb hr rfl (fun t9 ht9 _ => ⟨false, rfl, bF ((by omega)), ht9⟩) t_nil qd_M_isSymbol_17
  · skip
    refine lv_iload_n hx hb qd_M_isSymbol_4 rfl (lv_at hl 1 rfl) ?_
    refine lv_aload_n hx hb qd_M_isSymbol_5 rfl (lv_at hl 0 rfl) ?_
    refine va_get (D := (dC, dI)) (ci := 6) (v := .int (zI (↑sy))) (C := "TermOrdersModel") (T := qT_M) (N := 17) hx hb hg qi_M hown hK hF 0 rfl rfl 0 (by decide) (hg _ wd_618) (fun _ h9 => h9) rfl qd_M_isSymbol_6 ?_
    refine zz_icmp_ge (tgt := 16) hx hb qd_M_isSymbol_9 (by decide) (by omega) (by omega) (fun h9 => ?_) (fun h9 => ?_)
    · skip
      refine lv_iconst (v := zI 0) hx hb qd_M_isSymbol_16 rfl ?_
      exact W.zret (v := zI 0) (ty := .boolean) hx hb hr rfl (fun t9 ht9 _ => ⟨false, rfl, bF ((by omega)), ht9⟩) t_nil qd_M_isSymbol_17
    · skip
      refine lv_iconst (v := zI 1) hx hb qd_M_isSymbol_12 rfl ?_
      refine lv_goto (tgt := 17) hx hb qd_M_isSymbol_13 (by decide) ?_
      exact W.zret (v := zI 1) (ty := .boolean) hx hb hr rfl (fun t9 ht9 _ => ⟨true, rfl, bT ((by omega)), ht9⟩) t_nil qd_M_isSymbol_17
set_option maxHeartbeats 4000000 in
set_option maxRecDepth 100000 in
theorem c_M_has (l : Launch) (dC : Nat → ClassId) (dI : Nat → Nat → Nat) (cI cZ cT cJ : ClassId) (o mA mR mW mC mS mL mT mH mY mE mG mB mO sy tc rc : Nat) (tw : Int) (ar rk wt co : Nat → Int) (sz lf rg : Nat → Nat) (hi hv : Nat → Int) (ef : Nat → Nat) (gr : Nat → Bool) (bd ol : Nat → Int) (t n : Nat) (th : Nat → Int) (c : Int) (ht0 : t < 160) (h16 : n ≤ 16) (hsz : sz t = n) (hco : ∀ q, q < n → co (16 * t + q) = th q) (hh : ∀ q, q < n → -4 ≤ th q ∧ th q ≤ 4) (hc : -5 ≤ c ∧ c ≤ 5) : Met l qy_M_has qw_M_has ({ frames := 0, cells := 0, slots := 0, locals := 0 }) (rdP (dC, dI) qcl (qty cI cZ cT cJ) nwL [(o, .inr (6, [.int (zI (↑sy)), .ref mA, .ref mR, .ref mW, .int (zI (↑tc)), .ref mC, .ref mS, .int (zI (↑rc)), .ref mL, .ref mT, .ref mH, .ref mY, .ref mE, .ref mG, .ref mB, .ref mO, .int (zI (tw))])), (mC, .inl (cI, 2608, .inl (zA co))), (mS, .inl (cI, 163, .inl (zA (eI sz))))] [.ref o, .int (zI (↑t)), .int (zI (c))]) (rdB (∃ k, k < n ∧ th k = c)) 0 0 (fun _ => False) := by
  refine Met.ofW (cc := qc_M_has) (maxL := 4) (ret := (Option.some Jvm.ClassFile.FieldType.boolean)) (by decide) rfl ?_
  intro pg eg sg mg args below meth cg s₁ B hml hv
  obtain ⟨rfl, hF, hK, hN⟩ := hv
  have hx := B.exec
  have hb := B.bytes
  have hr := B.returns
  have hts := atoms_spec (ws := qw_M_has) B.pre
  have hg : ∀ w ∈ gw, w.before _ sg = true := fun w h => hts w (List.mem_cons_of_mem _ h)
  have hown : sg.vm.findClass "TermOrdersModel" = some mg.cls := findClass_of_methodNamed B.named
  have hlocks := B.notSynchronized
  have hl := lv_entry ([.ref o, .int (zI (↑t)), .int (zI (c))]) (n := 4) (Nat.le_of_ble_eq_true rfl)
  rw [lg_entry_eq]
  generalize (lg_sl ([.ref o, .int (zI (↑t)), .int (zI (c))]) ++ List.replicate (4 - (lg_sl ([.ref o, .int (zI (↑t)), .int (zI (c))])).length) Slot.unset).toArray = ls at hl ⊢
  have hl : lv_has ls 4 [(0, .ref o), (1, .int (zI (↑t))), (2, .int (zI (c)))] := hl
  refine lv_iconst (v := zI 0) hx hb qd_M_has_0 rfl ?_
  refine lv_istore_n (lv' := [(3, .int (zI (0))), (0, .ref o), (1, .int (zI (↑t))), (2, .int (zI (c)))]) hx hb qd_M_has_1 rfl hl (by decide) rfl (fun ls hl => ?_)
  have L2 : ∀ (d9 : Nat) (k : Nat), (k ≤ n) → (∀ q, q < k → th q ≠ c) → n - k = d9 → ∀ ls : Array Slot, lv_has ls 4 [(3, .int (zI (↑k))), (0, .ref o), (1, .int (zI (↑t))), (2, .int (zI (c)))] → W pg l eg (headSpec qw_M_has ({ frames := 0, cells := 0, slots := 0, locals := 0 })).room sg mg ([.ref o, .int (zI (↑t)), .int (zI (c))] : List Value).toArray below meth cg sg.heap [] 0 0 (MQ below (rdB (∃ k, k < n ∧ th k = c)) ([.ref o, .int (zI (↑t)), .int (zI (c))] : List Value).toArray sg 0 0 (fun _ => False)) (F0 mg 2 ls []) := by
    intro d9
    induction d9 using Nat.strongRecOn with
    | _ d9 ih2 =>
      intro k hk hz hd9 ls hl
      refine lv_iload_n hx hb qd_M_has_2 rfl (lv_at hl 0 rfl) ?_
      refine lv_aload_n hx hb qd_M_has_3 rfl (lv_at hl 1 rfl) ?_
      refine va_get (D := (dC, dI)) (ci := 6) (v := .ref mS) (C := "TermOrdersModel") (T := qT_M) (N := 17) hx hb hg qi_M hown hK hF 0 rfl rfl 6 (by decide) (hg _ wd_624) (fun _ h9 => h9) rfl qd_M_has_4 ?_
      refine lv_iload_n hx hb qd_M_has_7 rfl (lv_at hl 2 rfl) ?_
      refine zz_eald hx hb hK hF 2 0 rfl rfl t rfl (by omega) (by omega) qd_M_has_8 ?_
      refine zz_top (b := ↑n) (by omega) ?_
      refine zz_icmp_ge (tgt := 35) hx hb qd_M_has_9 (by decide) (by omega) (by omega) (fun h9 => ?_) (fun h9 => ?_)
      · skip
        refine lv_iconst (v := zI 0) hx hb qd_M_has_35 rfl ?_
        exact W.zret (v := zI 0) (ty := .boolean) hx hb hr rfl (fun t9 ht9 _ => ⟨false, rfl, bF ((fun hs => by obtain ⟨k1, a1, a2⟩ := hs; exact hz k1 (by omega) a2)), ht9⟩) t_nil qd_M_has_36
      · skip
        have hq1 := hh k (by omega)
        have hc1 := hco k (by omega)
        refine lv_aload_n hx hb qd_M_has_12 rfl (lv_at hl 1 rfl) ?_
        refine va_get (D := (dC, dI)) (ci := 6) (v := .ref mC) (C := "TermOrdersModel") (T := qT_M) (N := 17) hx hb hg qi_M hown hK hF 0 rfl rfl 5 (by decide) (hg _ wd_623) (fun _ h9 => h9) rfl qd_M_has_13 ?_
        refine lv_bipush (v := zI 16) hx hb qd_M_has_16 (by decide) ?_
        refine lv_iload_n hx hb qd_M_has_18 rfl (lv_at hl 2 rfl) ?_
        refine zz_imul hx hb (16 * (↑t)) rfl qd_M_has_19 ?_
        refine lv_iload_n hx hb qd_M_has_20 rfl (lv_at hl 0 rfl) ?_
        refine zz_iadd hx hb ((16 * (↑t)) + (↑k)) rfl qd_M_has_21 ?_
        refine zz_iald hx hb hK hF 1 0 rfl rfl (16 * t + k) (by omega) (by omega) (by omega) qd_M_has_22 ?_
        refine zz_top (b := th k) hc1 ?_
        refine lv_iload_n hx hb qd_M_has_23 rfl (lv_at hl 3 rfl) ?_
        refine zz_icmp_ne (tgt := 29) hx hb qd_M_has_24 (by decide) (by omega) (by omega) (fun h24 => ?_) (fun h24 => ?_)
        · skip
          refine lv_iinc (k := 0) (lv' := [(3, .int (zI (↑(k + 1)))), (0, .ref o), (1, .int (zI (↑t))), (2, .int (zI (c)))]) hx hb qd_M_has_29 hl rfl (zI_inc (v := ↑(k + 1)) (by omega)) (by decide) rfl (fun ls hl => ?_)
          refine lv_goto (tgt := 2) hx hb qd_M_has_32 (by decide) ?_
          exact ih2 _ (by omega) (k + 1) (by omega) (fun q hq => if hqk : q < k then hz q hqk else (by rw [show q = k by omega]; exact h24)) rfl ls hl
        · skip
          refine lv_iconst (v := zI 1) hx hb qd_M_has_27 rfl ?_
          exact W.zret (v := zI 1) (ty := .boolean) hx hb hr rfl (fun t9 ht9 _ => ⟨true, rfl, bT (⟨k, by omega, h24⟩), ht9⟩) t_nil qd_M_has_28
  exact L2 _ 0 (by omega) (fun q hq => by omega) rfl ls hl
set_option maxHeartbeats 4000000 in
set_option maxRecDepth 100000 in
theorem c_M_times (l : Launch) (dC : Nat → ClassId) (dI : Nat → Nat → Nat) (cI cZ cT cJ : ClassId) (o mA mR mW mC mS mL mT mH mY mE mG mB mO sy tc rc : Nat) (tw : Int) (ar rk wt co : Nat → Int) (sz lf rg : Nat → Nat) (hi hv : Nat → Int) (ef : Nat → Nat) (gr : Nat → Bool) (bd ol : Nat → Int) (b n : Nat) (th tm : Nat → Int) (te : Nat → Nat) (x y : Nat) (c : Int) (h16 : n ≤ 16) (hb0 : b + 16 ≤ 2608) (hco : ∀ q, q < n → co (b + q) = th q) (hh : ∀ q, q < n → -4 ≤ th q ∧ th q ≤ 4) (hxy : x ≤ y) (hyn : y ≤ n) (hc : -5 ≤ c ∧ c ≤ 5) : Met l qy_M_times qw_M_times ({ frames := 0, cells := 0, slots := 0, locals := 0 }) (rdP (dC, dI) qcl (qty cI cZ cT cJ) nwL [(o, .inr (6, [.int (zI (↑sy)), .ref mA, .ref mR, .ref mW, .int (zI (↑tc)), .ref mC, .ref mS, .int (zI (↑rc)), .ref mL, .ref mT, .ref mH, .ref mY, .ref mE, .ref mG, .ref mB, .ref mO, .int (zI (tw))])), (mC, .inl (cI, 2608, .inl (zA co)))] [.ref o, .int (zI (↑b)), .int (zI (↑x)), .int (zI (↑y)), .int (zI (c))]) (rdI (fun r => r = cnt th c x (y - x))) 0 0 (fun _ => False) := by
  refine Met.ofW (cc := qc_M_times) (maxL := 7) (ret := (Option.some Jvm.ClassFile.FieldType.int)) (by decide) rfl ?_
  intro pg eg sg mg args below meth cg s₁ B hml hv
  obtain ⟨rfl, hF, hK, hN⟩ := hv
  have hx := B.exec
  have hb := B.bytes
  have hr := B.returns
  have hts := atoms_spec (ws := qw_M_times) B.pre
  have hg : ∀ w ∈ gw, w.before _ sg = true := fun w h => hts w (List.mem_cons_of_mem _ h)
  have hown : sg.vm.findClass "TermOrdersModel" = some mg.cls := findClass_of_methodNamed B.named
  have hlocks := B.notSynchronized
  have hl := lv_entry ([.ref o, .int (zI (↑b)), .int (zI (↑x)), .int (zI (↑y)), .int (zI (c))]) (n := 7) (Nat.le_of_ble_eq_true rfl)
  rw [lg_entry_eq]
  generalize (lg_sl ([.ref o, .int (zI (↑b)), .int (zI (↑x)), .int (zI (↑y)), .int (zI (c))]) ++ List.replicate (7 - (lg_sl ([.ref o, .int (zI (↑b)), .int (zI (↑x)), .int (zI (↑y)), .int (zI (c))])).length) Slot.unset).toArray = ls at hl ⊢
  have hl : lv_has ls 7 [(0, .ref o), (1, .int (zI (↑b))), (2, .int (zI (↑x))), (3, .int (zI (↑y))), (4, .int (zI (c)))] := hl
  refine lv_iconst (v := zI 0) hx hb qd_M_times_0 rfl ?_
  refine lv_istore (lv' := [(5, .int (zI (0))), (0, .ref o), (1, .int (zI (↑b))), (2, .int (zI (↑x))), (3, .int (zI (↑y))), (4, .int (zI (c)))]) hx hb qd_M_times_1 hl (by decide) rfl (fun ls hl => ?_)
  refine lv_iload_n hx hb qd_M_times_3 rfl (lv_at hl 3 rfl) ?_
  refine lv_istore (lv' := [(6, .int (zI (↑x))), (5, .int (zI (0))), (0, .ref o), (1, .int (zI (↑b))), (2, .int (zI (↑x))), (3, .int (zI (↑y))), (4, .int (zI (c)))]) hx hb qd_M_times_4 hl (by decide) rfl (fun ls hl => ?_)
  have L6 : ∀ (d9 : Nat) (k : Nat), (x + k ≤ y) → y - (x + k) = d9 → ∀ ls : Array Slot, lv_has ls 7 [(6, .int (zI (↑(x + k)))), (5, .int (zI (cnt th c x k))), (0, .ref o), (1, .int (zI (↑b))), (2, .int (zI (↑x))), (3, .int (zI (↑y))), (4, .int (zI (c)))] → W pg l eg (headSpec qw_M_times ({ frames := 0, cells := 0, slots := 0, locals := 0 })).room sg mg ([.ref o, .int (zI (↑b)), .int (zI (↑x)), .int (zI (↑y)), .int (zI (c))] : List Value).toArray below meth cg sg.heap [] 0 0 (MQ below (rdI (fun r => r = cnt th c x (y - x))) ([.ref o, .int (zI (↑b)), .int (zI (↑x)), .int (zI (↑y)), .int (zI (c))] : List Value).toArray sg 0 0 (fun _ => False)) (F0 mg 6 ls []) := by
    intro d9
    induction d9 using Nat.strongRecOn with
    | _ d9 ih6 =>
      intro k hk hd9 ls hl
      refine lv_iload hx hb qd_M_times_6 (lv_at hl 0 rfl) ?_
      refine lv_iload_n hx hb qd_M_times_8 rfl (lv_at hl 5 rfl) ?_
      refine zz_icmp_ge (tgt := 43) hx hb qd_M_times_9 (by decide) (by omega) (by omega) (fun h9 => ?_) (fun h9 => ?_)
      · skip
        refine lv_iload hx hb qd_M_times_43 (lv_at hl 1 rfl) ?_
        exact W.iret (v := zI (cnt th c x k)) hx hb hr (fun t9 ht9 _ => ⟨cnt th c x k, rfl, (by rw [show k = y - x by omega]), ht9⟩) t_nil qd_M_times_45
      · skip
        have hq1 := hh (x + k) (by omega)
        have hc1 := hco (x + k) (by omega)
        refine lv_aload_n hx hb qd_M_times_12 rfl (lv_at hl 2 rfl) ?_
        refine va_get (D := (dC, dI)) (ci := 6) (v := .ref mC) (C := "TermOrdersModel") (T := qT_M) (N := 17) hx hb hg qi_M hown hK hF 0 rfl rfl 5 (by decide) (hg _ wd_623) (fun _ h9 => h9) rfl qd_M_times_13 ?_
        refine lv_iload_n hx hb qd_M_times_16 rfl (lv_at hl 3 rfl) ?_
        refine lv_iload hx hb qd_M_times_17 (lv_at hl 0 rfl) ?_
        refine zz_iadd hx hb ((↑b) + (↑(x + k))) rfl qd_M_times_19 ?_
        refine zz_iald hx hb hK hF 1 0 rfl rfl (b + (x + k)) (by omega) (by omega) (by omega) qd_M_times_20 ?_
        refine zz_top (b := th (x + k)) hc1 ?_
        refine lv_iload hx hb qd_M_times_21 (lv_at hl 6 rfl) ?_
        refine zz_icmp_ne (tgt := 33) hx hb qd_M_times_23 (by decide) (by omega) (by omega) (fun h23 => ?_) (fun h23 => ?_)
        · skip
          refine lv_iload hx hb qd_M_times_33 (lv_at hl 1 rfl) ?_
          refine lv_istore (lv' := [(5, .int (zI (cnt th c x k))), (6, .int (zI (↑(x + k)))), (0, .ref o), (1, .int (zI (↑b))), (2, .int (zI (↑x))), (3, .int (zI (↑y))), (4, .int (zI (c)))]) hx hb qd_M_times_35 hl (by decide) rfl (fun ls hl => ?_)
          refine lv_iinc (k := 1) (lv' := [(6, .int (zI (↑(x + (k + 1))))), (5, .int (zI (cnt th c x k))), (0, .ref o), (1, .int (zI (↑b))), (2, .int (zI (↑x))), (3, .int (zI (↑y))), (4, .int (zI (c)))]) hx hb qd_M_times_37 hl rfl (zI_inc (v := ↑(x + (k + 1))) (by omega)) (by decide) rfl (fun ls hl => ?_)
          refine lv_goto (tgt := 6) hx hb qd_M_times_40 (by decide) ?_
          have q9 : cnt th c x k = cnt th c x (k + 1) := (by simp only [cnt]; split <;> omega)
          have hl : lv_has ls 7 [(6, .int (zI (↑(x + (k + 1))))), (5, .int (zI (cnt th c x (k + 1)))), (0, .ref o), (1, .int (zI (↑b))), (2, .int (zI (↑x))), (3, .int (zI (↑y))), (4, .int (zI (c)))] := by have h8 := hl; rw [q9] at h8; exact h8
          exact ih6 _ (by omega) (k + 1) (by omega) rfl ls hl
        · skip
          refine lv_iload hx hb qd_M_times_26 (lv_at hl 1 rfl) ?_
          refine lv_iconst (v := zI 1) hx hb qd_M_times_28 rfl ?_
          refine zz_iadd hx hb ((cnt th c x k) + 1) rfl qd_M_times_29 ?_
          refine lv_goto (tgt := 35) hx hb qd_M_times_30 (by decide) ?_
          refine lv_istore (lv' := [(5, .int (zI ((cnt th c x k) + 1))), (6, .int (zI (↑(x + k)))), (0, .ref o), (1, .int (zI (↑b))), (2, .int (zI (↑x))), (3, .int (zI (↑y))), (4, .int (zI (c)))]) hx hb qd_M_times_35 hl (by decide) rfl (fun ls hl => ?_)
          refine lv_iinc (k := 1) (lv' := [(6, .int (zI (↑(x + (k + 1))))), (5, .int (zI ((cnt th c x k) + 1))), (0, .ref o), (1, .int (zI (↑b))), (2, .int (zI (↑x))), (3, .int (zI (↑y))), (4, .int (zI (c)))]) hx hb qd_M_times_37 hl rfl (zI_inc (v := ↑(x + (k + 1))) (by omega)) (by decide) rfl (fun ls hl => ?_)
          refine lv_goto (tgt := 6) hx hb qd_M_times_40 (by decide) ?_
          have q9 : (cnt th c x k) + 1 = cnt th c x (k + 1) := (by simp only [cnt]; split <;> omega)
          have hl : lv_has ls 7 [(6, .int (zI (↑(x + (k + 1))))), (5, .int (zI (cnt th c x (k + 1)))), (0, .ref o), (1, .int (zI (↑b))), (2, .int (zI (↑x))), (3, .int (zI (↑y))), (4, .int (zI (c)))] := by have h8 := hl; rw [q9] at h8; exact h8
          exact ih6 _ (by omega) (k + 1) (by omega) rfl ls hl
  exact L6 _ 0 (by omega) rfl ls hl
