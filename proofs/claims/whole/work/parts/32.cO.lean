set_option maxHeartbeats 4000000 in
set_option maxRecDepth 100000 in
theorem c_O_hasPartNotBelow (l : Launch) (dC : Nat → ClassId) (dI : Nat → Nat → Nat) (cI cZ cT cJ : ClassId) (o : Nat) (og oG : Nat) (gr : Nat → Bool) (a aH aP aE n : Nat) (th tm : Nat → Int) (te : Nat → Nat) (tg : Int) (a2 aH2 aP2 aE2 n2 : Nat) (th2 tm2 : Nat → Int) (te2 : Nat → Nat) (tg2 : Int) (p q : Nat) (h16 : n ≤ 16) (h162 : n2 ≤ 16) (hh : ∀ q, q < n → -4 ≤ th q ∧ th q ≤ 4) (hh2 : ∀ q, q < n2 → -4 ≤ th2 q ∧ th2 q ≤ 4) (we : wfE tm n te) (we2 : wfE tm2 n2 te2) (hm : ∀ q, q < n → 0 ≤ tm q ∧ tm q ≤ 3) (hm2 : ∀ q, q < n2 → 0 ≤ tm2 q ∧ tm2 q ≤ 3) (hp : p < n) (hq : q < n2) : Met l qy_O_hasPartNotBelow qw_O_hasPartNotBelow ({ frames := 1, cells := 0, slots := 0, locals := 25 }) (rdP (dC, dI) qcl (qty cI cZ cT cJ) nwL [(og, .inr (3, [.ref o, .ref oG])), (oG, .inl (cZ, 256, .inl (zB gr))), (a, .inr (1, [.ref aH, .ref aP, .ref aE, .int (zI (↑n)), .int (zI (tg))])), (aH, .inl (cI, n, .inl (zA th))), (aP, .inl (cI, n, .inl (zA tm))), (aE, .inl (cI, n, .inl (zA (eI te)))), (a2, .inr (1, [.ref aH2, .ref aP2, .ref aE2, .int (zI (↑n2)), .int (zI (tg2))])), (aH2, .inl (cI, n2, .inl (zA th2))), (aP2, .inl (cI, n2, .inl (zA tm2))), (aE2, .inl (cI, n2, .inl (zA (eI te2))))] [.ref og, .ref a, .int (zI (↑p)), .ref a2, .int (zI (↑q))]) (rdB (∃ k : Nat, (k : Int) < tm p ∧ (tb gr (prt te p k) q ∨ smP th te (prt te p k) th2 te2 q))) 0 0 (fun _ => False) := by
  refine Met.ofW (cc := qc_O_hasPartNotBelow) (maxL := 7) (ret := (Option.some Jvm.ClassFile.FieldType.boolean)) (by decide) rfl ?_
  intro pg eg sg mg args below meth cg s₁ B hml hv
  obtain ⟨rfl, hF, hK, hN⟩ := hv
  have hx := B.exec
  have hb := B.bytes
  have hr := B.returns
  have hts := atoms_spec (ws := qw_O_hasPartNotBelow) B.pre
  have hg : ∀ w ∈ gw, w.before _ sg = true := fun w h => hts w (List.mem_cons_of_mem _ h)
  have hown : sg.vm.findClass "TermOrders$Orders" = some mg.cls := findClass_of_methodNamed B.named
  have hlocks := B.notSynchronized
  have hl := lv_entry ([.ref og, .ref a, .int (zI (↑p)), .ref a2, .int (zI (↑q))]) (n := 7) (Nat.le_of_ble_eq_true rfl)
  rw [lg_entry_eq]
  generalize (lg_sl ([.ref og, .ref a, .int (zI (↑p)), .ref a2, .int (zI (↑q))]) ++ List.replicate (7 - (lg_sl ([.ref og, .ref a, .int (zI (↑p)), .ref a2, .int (zI (↑q))])).length) Slot.unset).toArray = ls at hl ⊢
  have hl : lv_has ls 7 [(0, .ref og), (1, .ref a), (2, .int (zI (↑p))), (3, .ref a2), (4, .int (zI (↑q)))] := hl
  have hmp := hm p hp
  refine lv_iconst (v := zI 0) hx hb qd_O_hasPartNotBelow_0 rfl ?_
  refine lv_istore (lv' := [(5, .int (zI (0))), (0, .ref og), (1, .ref a), (2, .int (zI (↑p))), (3, .ref a2), (4, .int (zI (↑q)))]) hx hb qd_O_hasPartNotBelow_1 hl (by decide) rfl (fun ls hl => ?_)
  have L3 : ∀ (d9 : Nat) (i : Nat), ((i : Int) ≤ tm p) → (∀ k, k < i → ¬ (tb gr (prt te p k) q ∨ smP th te (prt te p k) th2 te2 q)) → (tm p).toNat - i = d9 → ∀ ls : Array Slot, lv_has ls 7 [(5, .int (zI (↑i))), (0, .ref og), (1, .ref a), (2, .int (zI (↑p))), (3, .ref a2), (4, .int (zI (↑q)))] → W pg l eg (headSpec qw_O_hasPartNotBelow ({ frames := 1, cells := 0, slots := 0, locals := 25 })).room sg mg ([.ref og, .ref a, .int (zI (↑p)), .ref a2, .int (zI (↑q))] : List Value).toArray below meth cg sg.heap [] 0 0 (MQ below (rdB (∃ k : Nat, (k : Int) < tm p ∧ (tb gr (prt te p k) q ∨ smP th te (prt te p k) th2 te2 q))) ([.ref og, .ref a, .int (zI (↑p)), .ref a2, .int (zI (↑q))] : List Value).toArray sg 0 0 (fun _ => False)) (F0 mg 3 ls []) := by
    intro d9
    induction d9 using Nat.strongRecOn with
    | _ d9 ih3 =>
      intro i hi hz hd9 ls hl
      refine lv_iload hx hb qd_O_hasPartNotBelow_3 (lv_at hl 0 rfl) ?_
      refine lv_aload_n hx hb qd_O_hasPartNotBelow_5 rfl (lv_at hl 2 rfl) ?_
      refine va_getN (D := (dC, dI)) (ci := 1) (v := .ref aP) (C := "TermOrders$Term") (T := qT_T) (N := 5) hx hb hg qi_T hown hK hF 2 rfl rfl 1 (by decide) (va_Nw.use rfl (hN.use nw_330)) (fun _ h9 => h9) rfl qd_O_hasPartNotBelow_6 ?_
      refine lv_iload_n hx hb qd_O_hasPartNotBelow_9 rfl (lv_at hl 3 rfl) ?_
      refine zz_iald hx hb hK hF 4 0 rfl rfl p rfl (by omega) (by omega) qd_O_hasPartNotBelow_10 ?_
      refine zz_icmp_ge (tgt := 59) hx hb qd_O_hasPartNotBelow_11 (by decide) (by omega) (by omega) (fun h11 => ?_) (fun h11 => ?_)
      · skip
        refine lv_iconst (v := zI 0) hx hb qd_O_hasPartNotBelow_59 rfl ?_
        exact W.zret (v := zI 0) (ty := .boolean) hx hb hr rfl (fun t9 ht9 _ => ⟨false, rfl, bF ((fun hs => by obtain ⟨k, a1, a2⟩ := hs; exact hz k (by omega) a2)), ht9⟩) t_nil qd_O_hasPartNotBelow_60
      · skip
        have hp1 := prt_lt we hp (k := i) (by omega)
        refine lv_aload_n hx hb qd_O_hasPartNotBelow_14 rfl (lv_at hl 2 rfl) ?_
        refine lv_iload_n hx hb qd_O_hasPartNotBelow_15 rfl (lv_at hl 3 rfl) ?_
        refine lv_iload hx hb qd_O_hasPartNotBelow_16 (lv_at hl 0 rfl) ?_
        refine rd_callI (va_runVN (As := [.int (zI (↑p)), .int (zI (↑i))]) (rest := []) ⟨hx, hb, hml, hown, hg⟩ (c_T_partOf l dC dI cI cZ cT cJ a aH aP aE n th tm te tg p i h16 we hp (by omega) (by omega)) ⟨va_cnB 2 hg (gw_ok (fun _ h => h) wd_451) rfl rfl rfl (hN.use nw_448) (hg _ wd_13) (by decide +kernel) ⟨Nat.le_of_ble_eq_true rfl, Nat.le_of_ble_eq_true rfl⟩, hg _ wd_450, hg _ se_T_partOf⟩ (rd_preV (va_recv (q0 := 2) hK hF rfl rfl) (pw_c (q := (a, .inr (1, [.ref aH, .ref aP, .ref aE, .int (zI (↑n)), .int (zI (tg))]))) hF 2 rfl (pw_c (q := (aH, .inl (cI, n, .inl (zA th)))) hF 3 rfl (pw_c (q := (aP, .inl (cI, n, .inl (zA tm)))) hF 4 rfl (pw_c (q := (aE, .inl (cI, n, .inl (zA (eI te))))) hF 5 rfl (pw_nil))))) hK hN) rfl rfl hl.1 rfl (lv_room (Nat.le_of_ble_eq_true rfl)) qd_O_hasPartNotBelow_18 ⟨Nat.le_of_ble_eq_true rfl, Nat.le_of_ble_eq_true rfl⟩).run (fun r18 hr18 => ?_)
        have e18 : r18 = ↑(prt te p i) := hr18
        subst e18
        refine lv_istore (lv' := [(6, .int (zI (↑(prt te p i)))), (5, .int (zI (↑i))), (0, .ref og), (1, .ref a), (2, .int (zI (↑p))), (3, .ref a2), (4, .int (zI (↑q)))]) hx hb qd_O_hasPartNotBelow_21 hl (by decide) rfl (fun ls hl => ?_)
        refine lv_aload_n hx hb qd_O_hasPartNotBelow_23 rfl (lv_at hl 2 rfl) ?_
        refine va_get (D := (dC, dI)) (ci := 3) (v := .ref oG) (C := "TermOrders$Orders") (T := qT_O) (N := 2) hx hb hg qi_O hown hK hF 0 rfl rfl 1 (by decide) (hg _ wd_113) (fun _ h9 => h9) rfl qd_O_hasPartNotBelow_24 ?_
        refine lv_iload hx hb qd_O_hasPartNotBelow_27 (lv_at hl 0 rfl) ?_
        refine lv_bipush (v := zI 16) hx hb qd_O_hasPartNotBelow_29 (by decide) ?_
        refine zz_imul hx hb ((↑(prt te p i)) * 16) rfl qd_O_hasPartNotBelow_31 ?_
        refine lv_iload hx hb qd_O_hasPartNotBelow_32 (lv_at hl 6 rfl) ?_
        refine zz_iadd hx hb (((↑(prt te p i)) * 16) + (↑q)) rfl qd_O_hasPartNotBelow_34 ?_
        refine zz_zald hx hb hK hF 1 1 rfl rfl (16 * prt te p i + q) (by omega) (by omega) (by omega) qd_O_hasPartNotBelow_35 ?_
        refine zz_ifneB (tgt := 51) hx hb qd_O_hasPartNotBelow_36 (by decide) (fun h36 => ?_) (fun h36 => ?_)
        · skip
          have hy9 : ∃ k : Nat, (k : Int) < tm p ∧ (tb gr (prt te p k) q ∨ smP th te (prt te p k) th2 te2 q) := ⟨i, by omega, Or.inl h36⟩
          refine lv_iconst (v := zI 1) hx hb qd_O_hasPartNotBelow_51 rfl ?_
          exact W.zret (v := zI 1) (ty := .boolean) hx hb hr rfl (fun t9 ht9 _ => ⟨true, rfl, bT (hy9), ht9⟩) t_nil qd_O_hasPartNotBelow_52
        · skip
          refine lv_aload_n hx hb qd_O_hasPartNotBelow_39 rfl (lv_at hl 3 rfl) ?_
          refine lv_iload hx hb qd_O_hasPartNotBelow_40 (lv_at hl 0 rfl) ?_
          refine lv_aload_n hx hb qd_O_hasPartNotBelow_42 rfl (lv_at hl 5 rfl) ?_
          refine lv_iload hx hb qd_O_hasPartNotBelow_43 (lv_at hl 6 rfl) ?_
          refine rd_callB (va_runVN (As := [.int (zI (↑(prt te p i))), .ref a2, .int (zI (↑q))]) (rest := []) ⟨hx, hb, hml, hown, hg⟩ (c_T_isSamePlace l dC dI cI cZ cT cJ a aH aP aE n th tm te tg a2 aH2 aP2 aE2 n2 th2 tm2 te2 tg2 (prt te p i) q h16 h162 hh hh2 we we2 (by omega) hq) ⟨va_cnB 3 hg (gw_ok (fun _ h => h) wd_455) rfl rfl rfl (hN.use nw_452) (hg _ wd_13) (by decide +kernel) ⟨Nat.le_of_ble_eq_true rfl, Nat.le_of_ble_eq_true rfl⟩, hg _ wd_454, hg _ se_T_isSamePlace⟩ (rd_preV (va_recv (q0 := 2) hK hF rfl rfl) (pw_c (q := (a, .inr (1, [.ref aH, .ref aP, .ref aE, .int (zI (↑n)), .int (zI (tg))]))) hF 2 rfl (pw_c (q := (aH, .inl (cI, n, .inl (zA th)))) hF 3 rfl (pw_c (q := (aP, .inl (cI, n, .inl (zA tm)))) hF 4 rfl (pw_c (q := (aE, .inl (cI, n, .inl (zA (eI te))))) hF 5 rfl (pw_c (q := (a2, .inr (1, [.ref aH2, .ref aP2, .ref aE2, .int (zI (↑n2)), .int (zI (tg2))]))) hF 6 rfl (pw_c (q := (aH2, .inl (cI, n2, .inl (zA th2)))) hF 7 rfl (pw_c (q := (aP2, .inl (cI, n2, .inl (zA tm2)))) hF 8 rfl (pw_c (q := (aE2, .inl (cI, n2, .inl (zA (eI te2))))) hF 9 rfl (pw_nil))))))))) hK hN) rfl rfl hl.1 rfl (lv_room (Nat.le_of_ble_eq_true rfl)) qd_O_hasPartNotBelow_45 ⟨Nat.le_of_ble_eq_true rfl, Nat.le_of_ble_eq_true rfl⟩).run (fun r45 hr45 => ?_)
          refine zz_ifeqB (tgt := 53) hx hb qd_O_hasPartNotBelow_48 (by decide) (fun h48 => ?_) (fun h48 => ?_)
          · skip
            have hn9 : ¬ (tb gr (prt te p i) q ∨ smP th te (prt te p i) th2 te2 q) := fun hs => hs.elim (fun z => by unfold tb at z; rw [z] at h36; exact Bool.noConfusion h36) (fun z => by rw [hr45.mpr z] at h48; exact Bool.noConfusion h48)
            refine lv_iinc (k := 1) (lv' := [(5, .int (zI (↑(i + 1)))), (6, .int (zI (↑(prt te p i)))), (0, .ref og), (1, .ref a), (2, .int (zI (↑p))), (3, .ref a2), (4, .int (zI (↑q)))]) hx hb qd_O_hasPartNotBelow_53 hl rfl (zI_inc (v := ↑(i + 1)) (by omega)) (by decide) rfl (fun ls hl => ?_)
            refine lv_goto (tgt := 3) hx hb qd_O_hasPartNotBelow_56 (by decide) ?_
            have hl := lv_sub (l' := [(5, .int (zI (↑(i + 1)))), (0, .ref og), (1, .ref a), (2, .int (zI (↑p))), (3, .ref a2), (4, .int (zI (↑q)))]) hl [0, 2, 3, 4, 5, 6] rfl
            exact ih3 _ (by omega) (i + 1) (by omega) (fun k hk => if hki : k < i then hz k hki else (by rw [show k = i by omega]; exact hn9)) rfl ls hl
          · skip
            have hy9 : ∃ k : Nat, (k : Int) < tm p ∧ (tb gr (prt te p k) q ∨ smP th te (prt te p k) th2 te2 q) := ⟨i, by omega, Or.inr (hr45.mp h48)⟩
            refine lv_iconst (v := zI 1) hx hb qd_O_hasPartNotBelow_51 rfl ?_
            exact W.zret (v := zI 1) (ty := .boolean) hx hb hr rfl (fun t9 ht9 _ => ⟨true, rfl, bT (hy9), ht9⟩) t_nil qd_O_hasPartNotBelow_52
  exact L3 _ 0 (by omega) (fun k hk => by omega) rfl ls hl
set_option maxHeartbeats 4000000 in
set_option maxRecDepth 100000 in
theorem c_O_isGreaterThanParts (l : Launch) (dC : Nat → ClassId) (dI : Nat → Nat → Nat) (cI cZ cT cJ : ClassId) (o : Nat) (og oG : Nat) (gr : Nat → Bool) (p : Nat) (a2 aH2 aP2 aE2 n2 : Nat) (th2 tm2 : Nat → Int) (te2 : Nat → Nat) (tg2 : Int) (q : Nat) (h162 : n2 ≤ 16) (we2 : wfE tm2 n2 te2) (hm2 : ∀ q, q < n2 → 0 ≤ tm2 q ∧ tm2 q ≤ 3) (hp : p < 16) (hq : q < n2) : Met l qy_O_isGreaterThanParts qw_O_isGreaterThanParts ({ frames := 1, cells := 0, slots := 0, locals := 24 }) (rdP (dC, dI) qcl (qty cI cZ cT cJ) nwL [(og, .inr (3, [.ref o, .ref oG])), (oG, .inl (cZ, 256, .inl (zB gr))), (a2, .inr (1, [.ref aH2, .ref aP2, .ref aE2, .int (zI (↑n2)), .int (zI (tg2))])), (aH2, .inl (cI, n2, .inl (zA th2))), (aP2, .inl (cI, n2, .inl (zA tm2))), (aE2, .inl (cI, n2, .inl (zA (eI te2))))] [.ref og, .int (zI (↑p)), .ref a2, .int (zI (↑q))]) (rdB (∀ k : Nat, (k : Int) < tm2 q → tb gr p (prt te2 q k))) 0 0 (fun _ => False) := by
  refine Met.ofW (cc := qc_O_isGreaterThanParts) (maxL := 5) (ret := (Option.some Jvm.ClassFile.FieldType.boolean)) (by decide) rfl ?_
  intro pg eg sg mg args below meth cg s₁ B hml hv
  obtain ⟨rfl, hF, hK, hN⟩ := hv
  have hx := B.exec
  have hb := B.bytes
  have hr := B.returns
  have hts := atoms_spec (ws := qw_O_isGreaterThanParts) B.pre
  have hg : ∀ w ∈ gw, w.before _ sg = true := fun w h => hts w (List.mem_cons_of_mem _ h)
  have hown : sg.vm.findClass "TermOrders$Orders" = some mg.cls := findClass_of_methodNamed B.named
  have hlocks := B.notSynchronized
  have hl := lv_entry ([.ref og, .int (zI (↑p)), .ref a2, .int (zI (↑q))]) (n := 5) (Nat.le_of_ble_eq_true rfl)
  rw [lg_entry_eq]
  generalize (lg_sl ([.ref og, .int (zI (↑p)), .ref a2, .int (zI (↑q))]) ++ List.replicate (5 - (lg_sl ([.ref og, .int (zI (↑p)), .ref a2, .int (zI (↑q))])).length) Slot.unset).toArray = ls at hl ⊢
  have hl : lv_has ls 5 [(0, .ref og), (1, .int (zI (↑p))), (2, .ref a2), (3, .int (zI (↑q)))] := hl
  have hmp := hm2 q hq
  refine lv_iconst (v := zI 0) hx hb qd_O_isGreaterThanParts_0 rfl ?_
  refine lv_istore (lv' := [(4, .int (zI (0))), (0, .ref og), (1, .int (zI (↑p))), (2, .ref a2), (3, .int (zI (↑q)))]) hx hb qd_O_isGreaterThanParts_1 hl (by decide) rfl (fun ls hl => ?_)
  have L3 : ∀ (d9 : Nat) (i : Nat), ((i : Int) ≤ tm2 q) → (∀ k, k < i → tb gr p (prt te2 q k)) → (tm2 q).toNat - i = d9 → ∀ ls : Array Slot, lv_has ls 5 [(4, .int (zI (↑i))), (0, .ref og), (1, .int (zI (↑p))), (2, .ref a2), (3, .int (zI (↑q)))] → W pg l eg (headSpec qw_O_isGreaterThanParts ({ frames := 1, cells := 0, slots := 0, locals := 24 })).room sg mg ([.ref og, .int (zI (↑p)), .ref a2, .int (zI (↑q))] : List Value).toArray below meth cg sg.heap [] 0 0 (MQ below (rdB (∀ k : Nat, (k : Int) < tm2 q → tb gr p (prt te2 q k))) ([.ref og, .int (zI (↑p)), .ref a2, .int (zI (↑q))] : List Value).toArray sg 0 0 (fun _ => False)) (F0 mg 3 ls []) := by
    intro d9
    induction d9 using Nat.strongRecOn with
    | _ d9 ih3 =>
      intro i hi hz hd9 ls hl
      refine lv_iload hx hb qd_O_isGreaterThanParts_3 (lv_at hl 0 rfl) ?_
      refine lv_aload_n hx hb qd_O_isGreaterThanParts_5 rfl (lv_at hl 3 rfl) ?_
      refine va_getN (D := (dC, dI)) (ci := 1) (v := .ref aP2) (C := "TermOrders$Term") (T := qT_T) (N := 5) hx hb hg qi_T hown hK hF 2 rfl rfl 1 (by decide) (va_Nw.use rfl (hN.use nw_330)) (fun _ h9 => h9) rfl qd_O_isGreaterThanParts_6 ?_
      refine lv_iload_n hx hb qd_O_isGreaterThanParts_9 rfl (lv_at hl 4 rfl) ?_
      refine zz_iald hx hb hK hF 4 0 rfl rfl q rfl (by omega) (by omega) qd_O_isGreaterThanParts_10 ?_
      refine zz_icmp_ge (tgt := 42) hx hb qd_O_isGreaterThanParts_11 (by decide) (by omega) (by omega) (fun h11 => ?_) (fun h11 => ?_)
      · skip
        refine lv_iconst (v := zI 1) hx hb qd_O_isGreaterThanParts_42 rfl ?_
        exact W.zret (v := zI 1) (ty := .boolean) hx hb hr rfl (fun t9 ht9 _ => ⟨true, rfl, bT ((fun k hk => hz k (by omega))), ht9⟩) t_nil qd_O_isGreaterThanParts_43
      · skip
        have hp1 := prt_lt we2 hq (k := i) (by omega)
        refine lv_aload_n hx hb qd_O_isGreaterThanParts_14 rfl (lv_at hl 1 rfl) ?_
        refine va_get (D := (dC, dI)) (ci := 3) (v := .ref oG) (C := "TermOrders$Orders") (T := qT_O) (N := 2) hx hb hg qi_O hown hK hF 0 rfl rfl 1 (by decide) (hg _ wd_113) (fun _ h9 => h9) rfl qd_O_isGreaterThanParts_15 ?_
        refine lv_iload_n hx hb qd_O_isGreaterThanParts_18 rfl (lv_at hl 2 rfl) ?_
        refine lv_bipush (v := zI 16) hx hb qd_O_isGreaterThanParts_19 (by decide) ?_
        refine zz_imul hx hb ((↑p) * 16) rfl qd_O_isGreaterThanParts_21 ?_
        refine lv_aload_n hx hb qd_O_isGreaterThanParts_22 rfl (lv_at hl 3 rfl) ?_
        refine lv_iload_n hx hb qd_O_isGreaterThanParts_23 rfl (lv_at hl 4 rfl) ?_
        refine lv_iload hx hb qd_O_isGreaterThanParts_24 (lv_at hl 0 rfl) ?_
        refine rd_callI (va_runVN (As := [.int (zI (↑q)), .int (zI (↑i))]) (rest := [.int (zI ((↑p) * 16)), .ref oG]) ⟨hx, hb, hml, hown, hg⟩ (c_T_partOf l dC dI cI cZ cT cJ a2 aH2 aP2 aE2 n2 th2 tm2 te2 tg2 q i h162 we2 hq (by omega) (by omega)) ⟨va_cnB 2 hg (gw_ok (fun _ h => h) wd_451) rfl rfl rfl (hN.use nw_448) (hg _ wd_13) (by decide +kernel) ⟨Nat.le_of_ble_eq_true rfl, Nat.le_of_ble_eq_true rfl⟩, hg _ wd_450, hg _ se_T_partOf⟩ (rd_preV (va_recv (q0 := 2) hK hF rfl rfl) (pw_c (q := (a2, .inr (1, [.ref aH2, .ref aP2, .ref aE2, .int (zI (↑n2)), .int (zI (tg2))]))) hF 2 rfl (pw_c (q := (aH2, .inl (cI, n2, .inl (zA th2)))) hF 3 rfl (pw_c (q := (aP2, .inl (cI, n2, .inl (zA tm2)))) hF 4 rfl (pw_c (q := (aE2, .inl (cI, n2, .inl (zA (eI te2))))) hF 5 rfl (pw_nil))))) hK hN) rfl rfl hl.1 rfl (lv_room (Nat.le_of_ble_eq_true rfl)) qd_O_isGreaterThanParts_26 ⟨Nat.le_of_ble_eq_true rfl, Nat.le_of_ble_eq_true rfl⟩).run (fun r26 hr26 => ?_)
        have e26 : r26 = ↑(prt te2 q i) := hr26
        subst e26
        refine zz_iadd hx hb (((↑p) * 16) + (↑(prt te2 q i))) rfl qd_O_isGreaterThanParts_29 ?_
        refine zz_zald hx hb hK hF 1 1 rfl rfl (16 * p + prt te2 q i) (by omega) (by omega) (by omega) qd_O_isGreaterThanParts_30 ?_
        refine zz_ifneB (tgt := 36) hx hb qd_O_isGreaterThanParts_31 (by decide) (fun h31 => ?_) (fun h31 => ?_)
        · skip
          refine lv_iinc (k := 0) (lv' := [(4, .int (zI (↑(i + 1)))), (0, .ref og), (1, .int (zI (↑p))), (2, .ref a2), (3, .int (zI (↑q)))]) hx hb qd_O_isGreaterThanParts_36 hl rfl (zI_inc (v := ↑(i + 1)) (by omega)) (by decide) rfl (fun ls hl => ?_)
          refine lv_goto (tgt := 3) hx hb qd_O_isGreaterThanParts_39 (by decide) ?_
          exact ih3 _ (by omega) (i + 1) (by omega) (fun k hk => if hki : k < i then hz k hki else (by rw [show k = i by omega]; exact h31)) rfl ls hl
        · skip
          refine lv_iconst (v := zI 0) hx hb qd_O_isGreaterThanParts_34 rfl ?_
          exact W.zret (v := zI 0) (ty := .boolean) hx hb hr rfl (fun t9 ht9 _ => ⟨false, rfl, bF ((fun hs => by have z := hs i (by omega); unfold tb at z; rw [z] at h31; exact Bool.noConfusion h31)), ht9⟩) t_nil qd_O_isGreaterThanParts_35
  exact L3 _ 0 (by omega) (fun k hk => by omega) rfl ls hl
set_option maxHeartbeats 4000000 in
set_option maxRecDepth 100000 in
theorem c_O_isPlaceGreaterByPaths (l : Launch) (dC : Nat → ClassId) (dI : Nat → Nat → Nat) (cI cZ cT cJ : ClassId) (o aA aR aW aV sy : Nat) (ar rk wt sv : Nat → Int) (og oG : Nat) (gr : Nat → Bool) (a aH aP aE n : Nat) (th tm : Nat → Int) (te : Nat → Nat) (tg : Int) (a2 aH2 aP2 aE2 n2 : Nat) (th2 tm2 : Nat → Int) (te2 : Nat → Nat) (tg2 : Int) (p q : Nat) (hrk : ∀ q, q < 5 → 0 ≤ rk q ∧ rk q ≤ 4) (h16 : n ≤ 16) (h162 : n2 ≤ 16) (hh : ∀ q, q < n → -4 ≤ th q ∧ th q ≤ 4) (hh2 : ∀ q, q < n2 → -4 ≤ th2 q ∧ th2 q ≤ 4) (we : wfE tm n te) (we2 : wfE tm2 n2 te2) (hm : ∀ q, q < n → 0 ≤ tm q ∧ tm q ≤ 3) (hm2 : ∀ q, q < n2 → 0 ≤ tm2 q ∧ tm2 q ≤ 3) (hp : p < n) (hq : q < n2) (hmm : ∀ i j, i < n → j < n2 → th i = th2 j → tm i = tm2 j) : Met l qy_O_isPlaceGreaterByPaths qw_O_isPlaceGreaterByPaths ({ frames := 2, cells := 0, slots := 0, locals := 51 }) (rdP (dC, dI) qcl (qty cI cZ cT cJ) nwL [(og, .inr (3, [.ref o, .ref oG])), (oG, .inl (cZ, 256, .inl (zB gr))), (o, .inr (0, [.ref aA, .ref aR, .ref aW, .ref aV, .int (zI (↑sy))])), (aA, .inl (cI, 5, .inl (zA ar))), (aR, .inl (cI, 5, .inl (zA rk))), (aW, .inl (cI, 5, .inl (zA wt))), (aV, .inl (cI, 5, .inl (zA sv))), (a, .inr (1, [.ref aH, .ref aP, .ref aE, .int (zI (↑n)), .int (zI (tg))])), (aH, .inl (cI, n, .inl (zA th))), (aP, .inl (cI, n, .inl (zA tm))), (aE, .inl (cI, n, .inl (zA (eI te)))), (a2, .inr (1, [.ref aH2, .ref aP2, .ref aE2, .int (zI (↑n2)), .int (zI (tg2))])), (aH2, .inl (cI, n2, .inl (zA th2))), (aP2, .inl (cI, n2, .inl (zA tm2))), (aE2, .inl (cI, n2, .inl (zA (eI te2))))] [.ref og, .ref a, .int (zI (↑p)), .ref a2, .int (zI (↑q))]) (rdB (paP (tb gr) rk th te tm p th2 te2 tm2 q)) 0 0 (fun _ => False) := by
  refine Met.ofW (cc := qc_O_isPlaceGreaterByPaths) (maxL := 6) (ret := (Option.some Jvm.ClassFile.FieldType.boolean)) (by decide) rfl ?_
  intro pg eg sg mg args below meth cg s₁ B hml hv
  obtain ⟨rfl, hF, hK, hN⟩ := hv
  have hx := B.exec
  have hb := B.bytes
  have hr := B.returns
  have hts := atoms_spec (ws := qw_O_isPlaceGreaterByPaths) B.pre
  have hg : ∀ w ∈ gw, w.before _ sg = true := fun w h => hts w (List.mem_cons_of_mem _ h)
  have hown : sg.vm.findClass "TermOrders$Orders" = some mg.cls := findClass_of_methodNamed B.named
  have hlocks := B.notSynchronized
  have hl := lv_entry ([.ref og, .ref a, .int (zI (↑p)), .ref a2, .int (zI (↑q))]) (n := 6) (Nat.le_of_ble_eq_true rfl)
  rw [lg_entry_eq]
  generalize (lg_sl ([.ref og, .ref a, .int (zI (↑p)), .ref a2, .int (zI (↑q))]) ++ List.replicate (6 - (lg_sl ([.ref og, .ref a, .int (zI (↑p)), .ref a2, .int (zI (↑q))])).length) Slot.unset).toArray = ls at hl ⊢
  have hl : lv_has ls 6 [(0, .ref og), (1, .ref a), (2, .int (zI (↑p))), (3, .ref a2), (4, .int (zI (↑q)))] := hl
  have hmp := hm p hp
  have hmq := hm2 q hq
  have hhp := hh p hp
  have hhq := hh2 q hq
  refine lv_aload_n hx hb qd_O_isPlaceGreaterByPaths_0 rfl (lv_at hl 0 rfl) ?_
  refine lv_aload_n hx hb qd_O_isPlaceGreaterByPaths_1 rfl (lv_at hl 1 rfl) ?_
  refine lv_iload_n hx hb qd_O_isPlaceGreaterByPaths_2 rfl (lv_at hl 2 rfl) ?_
  refine lv_aload_n hx hb qd_O_isPlaceGreaterByPaths_3 rfl (lv_at hl 3 rfl) ?_
  refine lv_iload hx hb qd_O_isPlaceGreaterByPaths_4 (lv_at hl 4 rfl) ?_
  refine rd_callB (W.runV (As := [.ref a, .int (zI (↑p)), .ref a2, .int (zI (↑q))]) (rest := []) ⟨hx, hb, hml, hown, hg⟩ (c_O_hasPartNotBelow l dC dI cI cZ cT cJ o og oG gr a aH aP aE n th tm te tg a2 aH2 aP2 aE2 n2 th2 tm2 te2 tg2 p q h16 h162 hh hh2 we we2 hm hm2 hp hq) ⟨callB_of 4 hg (gw_ok (fun _ h => h) wd_447) rfl rfl rfl (hg _ wd_5) (hg _ wd_444) (by decide +kernel) ⟨Nat.le_of_ble_eq_true rfl, Nat.le_of_ble_eq_true rfl⟩, hg _ wd_446, hg _ se_O_hasPartNotBelow⟩ (rd_preV (va_recv (q0 := 0) hK hF rfl rfl) (pw_c (q := (og, .inr (3, [.ref o, .ref oG]))) hF 0 rfl (pw_c (q := (oG, .inl (cZ, 256, .inl (zB gr)))) hF 1 rfl (pw_c (q := (a, .inr (1, [.ref aH, .ref aP, .ref aE, .int (zI (↑n)), .int (zI (tg))]))) hF 7 rfl (pw_c (q := (aH, .inl (cI, n, .inl (zA th)))) hF 8 rfl (pw_c (q := (aP, .inl (cI, n, .inl (zA tm)))) hF 9 rfl (pw_c (q := (aE, .inl (cI, n, .inl (zA (eI te))))) hF 10 rfl (pw_c (q := (a2, .inr (1, [.ref aH2, .ref aP2, .ref aE2, .int (zI (↑n2)), .int (zI (tg2))]))) hF 11 rfl (pw_c (q := (aH2, .inl (cI, n2, .inl (zA th2)))) hF 12 rfl (pw_c (q := (aP2, .inl (cI, n2, .inl (zA tm2)))) hF 13 rfl (pw_c (q := (aE2, .inl (cI, n2, .inl (zA (eI te2))))) hF 14 rfl (pw_nil))))))))))) hK hN) rfl rfl hl.1 rfl (lv_room (Nat.le_of_ble_eq_true rfl)) qd_O_isPlaceGreaterByPaths_6 ⟨Nat.le_of_ble_eq_true rfl, Nat.le_of_ble_eq_true rfl⟩) (fun r6 hr6 => ?_)
  refine zz_ifeqB (tgt := 14) hx hb qd_O_isPlaceGreaterByPaths_9 (by decide) (fun h9 => ?_) (fun h9 => ?_)
  · skip
    have hX : paP (tb gr) rk th te tm p th2 te2 tm2 q → (0 ≤ th p ∧ 0 ≤ th2 q ∧ (∀ k : Nat, (k : Int) < tm2 q → tb gr p (prt te2 q k)) ∧ (th p ≠ th2 q → rk (th2 q).toNat < rk (th p).toNat) ∧ (th p = th2 q → ioP (tb gr) th te (tm p) p th2 te2 q)) := fun hs => hs.elim (fun z => by rw [hr6.mpr z] at h9; exact Bool.noConfusion h9) id
    refine lv_aload_n hx hb qd_O_isPlaceGreaterByPaths_14 rfl (lv_at hl 1 rfl) ?_
    refine lv_iload_n hx hb qd_O_isPlaceGreaterByPaths_15 rfl (lv_at hl 2 rfl) ?_
    refine rd_callB (va_runVN (As := [.int (zI (↑p))]) (rest := []) ⟨hx, hb, hml, hown, hg⟩ (c_T_isVariable l dC dI cI cZ cT cJ a aH aP aE n th tm te tg p h16 hh hp) ⟨va_cnB 1 hg (gw_ok (fun _ h => h) wd_388) rfl rfl rfl (hN.use nw_456) (hg _ wd_13) (by decide +kernel) ⟨Nat.le_of_ble_eq_true rfl, Nat.le_of_ble_eq_true rfl⟩, hg _ wd_387, hg _ se_T_isVariable⟩ (rd_preV (va_recv (q0 := 7) hK hF rfl rfl) (pw_c (q := (a, .inr (1, [.ref aH, .ref aP, .ref aE, .int (zI (↑n)), .int (zI (tg))]))) hF 7 rfl (pw_c (q := (aH, .inl (cI, n, .inl (zA th)))) hF 8 rfl (pw_c (q := (aP, .inl (cI, n, .inl (zA tm)))) hF 9 rfl (pw_c (q := (aE, .inl (cI, n, .inl (zA (eI te))))) hF 10 rfl (pw_nil))))) hK hN) rfl rfl hl.1 rfl (lv_room (Nat.le_of_ble_eq_true rfl)) qd_O_isPlaceGreaterByPaths_16 ⟨Nat.le_of_ble_eq_true rfl, Nat.le_of_ble_eq_true rfl⟩).run (fun r16 hr16 => ?_)
    refine zz_ifneB (tgt := 42) hx hb qd_O_isPlaceGreaterByPaths_19 (by decide) (fun h19 => ?_) (fun h19 => ?_)
    · skip
      have hno : ¬ paP (tb gr) rk th te tm p th2 te2 tm2 q := fun hs => by have z1 := (hX hs).1; have z2 := hr16.mp h19; omega
      refine lv_iconst (v := zI 0) hx hb qd_O_isPlaceGreaterByPaths_42 rfl ?_
      exact W.zret (v := zI 0) (ty := .boolean) hx hb hr rfl (fun t9 ht9 _ => ⟨false, rfl, bF (hno), ht9⟩) t_nil qd_O_isPlaceGreaterByPaths_43
    · skip
      have hc0 : 0 ≤ th p := Classical.byContradiction (fun z => by rw [hr16.mpr (by omega)] at h19; exact Bool.noConfusion h19)
      refine lv_aload_n hx hb qd_O_isPlaceGreaterByPaths_22 rfl (lv_at hl 3 rfl) ?_
      refine lv_iload hx hb qd_O_isPlaceGreaterByPaths_23 (lv_at hl 4 rfl) ?_
      refine rd_callB (va_runVN (As := [.int (zI (↑q))]) (rest := []) ⟨hx, hb, hml, hown, hg⟩ (c_T_isVariable l dC dI cI cZ cT cJ a2 aH2 aP2 aE2 n2 th2 tm2 te2 tg2 q h162 hh2 hq) ⟨va_cnB 1 hg (gw_ok (fun _ h => h) wd_388) rfl rfl rfl (hN.use nw_456) (hg _ wd_13) (by decide +kernel) ⟨Nat.le_of_ble_eq_true rfl, Nat.le_of_ble_eq_true rfl⟩, hg _ wd_387, hg _ se_T_isVariable⟩ (rd_preV (va_recv (q0 := 11) hK hF rfl rfl) (pw_c (q := (a2, .inr (1, [.ref aH2, .ref aP2, .ref aE2, .int (zI (↑n2)), .int (zI (tg2))]))) hF 11 rfl (pw_c (q := (aH2, .inl (cI, n2, .inl (zA th2)))) hF 12 rfl (pw_c (q := (aP2, .inl (cI, n2, .inl (zA tm2)))) hF 13 rfl (pw_c (q := (aE2, .inl (cI, n2, .inl (zA (eI te2))))) hF 14 rfl (pw_nil))))) hK hN) rfl rfl hl.1 rfl (lv_room (Nat.le_of_ble_eq_true rfl)) qd_O_isPlaceGreaterByPaths_25 ⟨Nat.le_of_ble_eq_true rfl, Nat.le_of_ble_eq_true rfl⟩).run (fun r25 hr25 => ?_)
      refine zz_ifneB (tgt := 42) hx hb qd_O_isPlaceGreaterByPaths_28 (by decide) (fun h28 => ?_) (fun h28 => ?_)
      · skip
        have hno : ¬ paP (tb gr) rk th te tm p th2 te2 tm2 q := fun hs => by have z1 := (hX hs).2.1; have z2 := hr25.mp h28; omega
        refine lv_iconst (v := zI 0) hx hb qd_O_isPlaceGreaterByPaths_42 rfl ?_
        exact W.zret (v := zI 0) (ty := .boolean) hx hb hr rfl (fun t9 ht9 _ => ⟨false, rfl, bF (hno), ht9⟩) t_nil qd_O_isPlaceGreaterByPaths_43
      · skip
        have hd0 : 0 ≤ th2 q := Classical.byContradiction (fun z => by rw [hr25.mpr (by omega)] at h28; exact Bool.noConfusion h28)
        refine lv_aload_n hx hb qd_O_isPlaceGreaterByPaths_31 rfl (lv_at hl 0 rfl) ?_
        refine lv_iload_n hx hb qd_O_isPlaceGreaterByPaths_32 rfl (lv_at hl 2 rfl) ?_
        refine lv_aload_n hx hb qd_O_isPlaceGreaterByPaths_33 rfl (lv_at hl 3 rfl) ?_
        refine lv_iload hx hb qd_O_isPlaceGreaterByPaths_34 (lv_at hl 4 rfl) ?_
        refine rd_callB (W.runV (As := [.int (zI (↑p)), .ref a2, .int (zI (↑q))]) (rest := []) ⟨hx, hb, hml, hown, hg⟩ (c_O_isGreaterThanParts l dC dI cI cZ cT cJ o og oG gr p a2 aH2 aP2 aE2 n2 th2 tm2 te2 tg2 q h162 we2 hm2 (by omega) hq) ⟨callB_of 3 hg (gw_ok (fun _ h => h) wd_460) rfl rfl rfl (hg _ wd_5) (hg _ wd_457) (by decide +kernel) ⟨Nat.le_of_ble_eq_true rfl, Nat.le_of_ble_eq_true rfl⟩, hg _ wd_459, hg _ se_O_isGreaterThanParts⟩ (rd_preV (va_recv (q0 := 0) hK hF rfl rfl) (pw_c (q := (og, .inr (3, [.ref o, .ref oG]))) hF 0 rfl (pw_c (q := (oG, .inl (cZ, 256, .inl (zB gr)))) hF 1 rfl (pw_c (q := (a2, .inr (1, [.ref aH2, .ref aP2, .ref aE2, .int (zI (↑n2)), .int (zI (tg2))]))) hF 11 rfl (pw_c (q := (aH2, .inl (cI, n2, .inl (zA th2)))) hF 12 rfl (pw_c (q := (aP2, .inl (cI, n2, .inl (zA tm2)))) hF 13 rfl (pw_c (q := (aE2, .inl (cI, n2, .inl (zA (eI te2))))) hF 14 rfl (pw_nil))))))) hK hN) rfl rfl hl.1 rfl (lv_room (Nat.le_of_ble_eq_true rfl)) qd_O_isPlaceGreaterByPaths_36 ⟨Nat.le_of_ble_eq_true rfl, Nat.le_of_ble_eq_true rfl⟩) (fun r36 hr36 => ?_)
        refine zz_ifneB (tgt := 44) hx hb qd_O_isPlaceGreaterByPaths_39 (by decide) (fun h39 => ?_) (fun h39 => ?_)
        · skip
          refine lv_aload_n hx hb qd_O_isPlaceGreaterByPaths_44 rfl (lv_at hl 1 rfl) ?_
          refine va_getN (D := (dC, dI)) (ci := 1) (v := .ref aH) (C := "TermOrders$Term") (T := qT_T) (N := 5) hx hb hg qi_T hown hK hF 7 rfl rfl 0 (by decide) (va_Nw.use rfl (hN.use nw_324)) (fun _ h9 => h9) rfl qd_O_isPlaceGreaterByPaths_45 ?_
          refine lv_iload_n hx hb qd_O_isPlaceGreaterByPaths_48 rfl (lv_at hl 2 rfl) ?_
          refine zz_iald hx hb hK hF 8 0 rfl rfl p rfl (by omega) (by omega) qd_O_isPlaceGreaterByPaths_49 ?_
          refine lv_aload_n hx hb qd_O_isPlaceGreaterByPaths_50 rfl (lv_at hl 3 rfl) ?_
          refine va_getN (D := (dC, dI)) (ci := 1) (v := .ref aH2) (C := "TermOrders$Term") (T := qT_T) (N := 5) hx hb hg qi_T hown hK hF 11 rfl rfl 0 (by decide) (va_Nw.use rfl (hN.use nw_324)) (fun _ h9 => h9) rfl qd_O_isPlaceGreaterByPaths_51 ?_
          refine lv_iload hx hb qd_O_isPlaceGreaterByPaths_54 (lv_at hl 4 rfl) ?_
          refine zz_iald hx hb hK hF 12 0 rfl rfl q rfl (by omega) (by omega) qd_O_isPlaceGreaterByPaths_56 ?_
          refine zz_icmp_eq (tgt := 81) hx hb qd_O_isPlaceGreaterByPaths_57 (by decide) (by omega) (by omega) (fun h57 => ?_) (fun h57 => ?_)
          · skip
            have heq := hmm p q hp hq h57
            refine lv_aload_n hx hb qd_O_isPlaceGreaterByPaths_81 rfl (lv_at hl 1 rfl) ?_
            refine lv_iload_n hx hb qd_O_isPlaceGreaterByPaths_82 rfl (lv_at hl 2 rfl) ?_
            refine lv_aload_n hx hb qd_O_isPlaceGreaterByPaths_83 rfl (lv_at hl 3 rfl) ?_
            refine lv_iload hx hb qd_O_isPlaceGreaterByPaths_84 (lv_at hl 4 rfl) ?_
            refine rd_callI (va_runVN (As := [.int (zI (↑p)), .ref a2, .int (zI (↑q))]) (rest := []) ⟨hx, hb, hml, hown, hg⟩ (c_T_firstOtherPart l dC dI cI cZ cT cJ a aH aP aE n th tm te tg a2 aH2 aP2 aE2 n2 th2 tm2 te2 tg2 p q h16 h162 hh hh2 we we2 hp hq hm heq) ⟨va_cnB 3 hg (gw_ok (fun _ h => h) wd_465) rfl rfl rfl (hN.use nw_462) (hg _ wd_13) (by decide +kernel) ⟨Nat.le_of_ble_eq_true rfl, Nat.le_of_ble_eq_true rfl⟩, hg _ wd_464, hg _ se_T_firstOtherPart⟩ (rd_preV (va_recv (q0 := 7) hK hF rfl rfl) (pw_c (q := (a, .inr (1, [.ref aH, .ref aP, .ref aE, .int (zI (↑n)), .int (zI (tg))]))) hF 7 rfl (pw_c (q := (aH, .inl (cI, n, .inl (zA th)))) hF 8 rfl (pw_c (q := (aP, .inl (cI, n, .inl (zA tm)))) hF 9 rfl (pw_c (q := (aE, .inl (cI, n, .inl (zA (eI te))))) hF 10 rfl (pw_c (q := (a2, .inr (1, [.ref aH2, .ref aP2, .ref aE2, .int (zI (↑n2)), .int (zI (tg2))]))) hF 11 rfl (pw_c (q := (aH2, .inl (cI, n2, .inl (zA th2)))) hF 12 rfl (pw_c (q := (aP2, .inl (cI, n2, .inl (zA tm2)))) hF 13 rfl (pw_c (q := (aE2, .inl (cI, n2, .inl (zA (eI te2))))) hF 14 rfl (pw_nil))))))))) hK hN) rfl rfl hl.1 rfl (lv_room (Nat.le_of_ble_eq_true rfl)) qd_O_isPlaceGreaterByPaths_86 ⟨Nat.le_of_ble_eq_true rfl, Nat.le_of_ble_eq_true rfl⟩).run (fun r86 hr86 => ?_)
            refine lv_istore (lv' := [(5, .int (zI (r86))), (0, .ref og), (1, .ref a), (2, .int (zI (↑p))), (3, .ref a2), (4, .int (zI (↑q)))]) hx hb qd_O_isPlaceGreaterByPaths_89 hl (by decide) rfl (fun ls hl => ?_)
            refine lv_iload hx hb qd_O_isPlaceGreaterByPaths_91 (lv_at hl 0 rfl) ?_
            refine lv_iconst (v := zI (-1)) hx hb qd_O_isPlaceGreaterByPaths_93 rfl ?_
            refine zz_icmp_eq (tgt := 128) hx hb qd_O_isPlaceGreaterByPaths_94 (by decide) (by rcases hr86 with ⟨k, z1, z2, _⟩ | ⟨z1, _⟩ <;> omega) (by omega) (fun h94 => ?_) (fun h94 => ?_)
            · skip
              have hk9 : ∀ j : Nat, (j : Int) < tm p → smP th te (prt te p j) th2 te2 (prt te2 q j) := hr86.elim (fun ⟨k, a1, _⟩ => by omega) (fun z => z.2)
              have hno : ¬ paP (tb gr) rk th te tm p th2 te2 tm2 q := fun hs => by obtain ⟨k, a1, a2, a3, a4⟩ := (hX hs).2.2.2.2 h57; exact a3 (hk9 k a1)
              refine lv_iconst (v := zI 0) hx hb qd_O_isPlaceGreaterByPaths_128 rfl ?_
              exact W.zret (v := zI 0) (ty := .boolean) hx hb hr rfl (fun t9 ht9 _ => ⟨false, rfl, bF (hno), ht9⟩) t_nil qd_O_isPlaceGreaterByPaths_129
            · skip
              have hk9 : ∃ k : Nat, r86 = ↑k ∧ (k : Int) < tm p ∧ (∀ j, j < k → smP th te (prt te p j) th2 te2 (prt te2 q j)) ∧ ¬ smP th te (prt te p k) th2 te2 (prt te2 q k) := hr86.resolve_right (fun z => h94 z.1)
              obtain ⟨k, rfl, hk1, hk2, hk3⟩ := hk9
              have hp1 := prt_lt we hp (k := k) hk1
              have hp2 := prt_lt we2 hq (k := k) (by omega)
              refine lv_aload_n hx hb qd_O_isPlaceGreaterByPaths_97 rfl (lv_at hl 1 rfl) ?_
              refine va_get (D := (dC, dI)) (ci := 3) (v := .ref oG) (C := "TermOrders$Orders") (T := qT_O) (N := 2) hx hb hg qi_O hown hK hF 0 rfl rfl 1 (by decide) (hg _ wd_113) (fun _ h9 => h9) rfl qd_O_isPlaceGreaterByPaths_98 ?_
              refine lv_aload_n hx hb qd_O_isPlaceGreaterByPaths_101 rfl (lv_at hl 2 rfl) ?_
              refine lv_iload_n hx hb qd_O_isPlaceGreaterByPaths_102 rfl (lv_at hl 3 rfl) ?_
              refine lv_iload hx hb qd_O_isPlaceGreaterByPaths_103 (lv_at hl 0 rfl) ?_
              refine rd_callI (va_runVN (As := [.int (zI (↑p)), .int (zI (↑k))]) (rest := [.ref oG]) ⟨hx, hb, hml, hown, hg⟩ (c_T_partOf l dC dI cI cZ cT cJ a aH aP aE n th tm te tg p k h16 we hp (by omega) (by omega)) ⟨va_cnB 2 hg (gw_ok (fun _ h => h) wd_451) rfl rfl rfl (hN.use nw_448) (hg _ wd_13) (by decide +kernel) ⟨Nat.le_of_ble_eq_true rfl, Nat.le_of_ble_eq_true rfl⟩, hg _ wd_450, hg _ se_T_partOf⟩ (rd_preV (va_recv (q0 := 7) hK hF rfl rfl) (pw_c (q := (a, .inr (1, [.ref aH, .ref aP, .ref aE, .int (zI (↑n)), .int (zI (tg))]))) hF 7 rfl (pw_c (q := (aH, .inl (cI, n, .inl (zA th)))) hF 8 rfl (pw_c (q := (aP, .inl (cI, n, .inl (zA tm)))) hF 9 rfl (pw_c (q := (aE, .inl (cI, n, .inl (zA (eI te))))) hF 10 rfl (pw_nil))))) hK hN) rfl rfl hl.1 rfl (lv_room (Nat.le_of_ble_eq_true rfl)) qd_O_isPlaceGreaterByPaths_105 ⟨Nat.le_of_ble_eq_true rfl, Nat.le_of_ble_eq_true rfl⟩).run (fun r105 hr105 => ?_)
              have e105 : r105 = ↑(prt te p k) := hr105
              subst e105
              refine lv_bipush (v := zI 16) hx hb qd_O_isPlaceGreaterByPaths_108 (by decide) ?_
              refine zz_imul hx hb ((↑(prt te p k)) * 16) rfl qd_O_isPlaceGreaterByPaths_110 ?_
              refine lv_aload_n hx hb qd_O_isPlaceGreaterByPaths_111 rfl (lv_at hl 4 rfl) ?_
              refine lv_iload hx hb qd_O_isPlaceGreaterByPaths_112 (lv_at hl 5 rfl) ?_
              refine lv_iload hx hb qd_O_isPlaceGreaterByPaths_114 (lv_at hl 0 rfl) ?_
              refine rd_callI (va_runVN (As := [.int (zI (↑q)), .int (zI (↑k))]) (rest := [.int (zI ((↑(prt te p k)) * 16)), .ref oG]) ⟨hx, hb, hml, hown, hg⟩ (c_T_partOf l dC dI cI cZ cT cJ a2 aH2 aP2 aE2 n2 th2 tm2 te2 tg2 q k h162 we2 hq (by omega) (by omega)) ⟨va_cnB 2 hg (gw_ok (fun _ h => h) wd_451) rfl rfl rfl (hN.use nw_448) (hg _ wd_13) (by decide +kernel) ⟨Nat.le_of_ble_eq_true rfl, Nat.le_of_ble_eq_true rfl⟩, hg _ wd_450, hg _ se_T_partOf⟩ (rd_preV (va_recv (q0 := 11) hK hF rfl rfl) (pw_c (q := (a2, .inr (1, [.ref aH2, .ref aP2, .ref aE2, .int (zI (↑n2)), .int (zI (tg2))]))) hF 11 rfl (pw_c (q := (aH2, .inl (cI, n2, .inl (zA th2)))) hF 12 rfl (pw_c (q := (aP2, .inl (cI, n2, .inl (zA tm2)))) hF 13 rfl (pw_c (q := (aE2, .inl (cI, n2, .inl (zA (eI te2))))) hF 14 rfl (pw_nil))))) hK hN) rfl rfl hl.1 rfl (lv_room (Nat.le_of_ble_eq_true rfl)) qd_O_isPlaceGreaterByPaths_116 ⟨Nat.le_of_ble_eq_true rfl, Nat.le_of_ble_eq_true rfl⟩).run (fun r116 hr116 => ?_)
              have e116 : r116 = ↑(prt te2 q k) := hr116
              subst e116
              refine zz_iadd hx hb (((↑(prt te p k)) * 16) + (↑(prt te2 q k))) rfl qd_O_isPlaceGreaterByPaths_119 ?_
              refine zz_zald hx hb hK hF 1 1 rfl rfl (16 * prt te p k + prt te2 q k) (by omega) (by omega) (by omega) qd_O_isPlaceGreaterByPaths_120 ?_
              refine zz_ifeqB (tgt := 128) hx hb qd_O_isPlaceGreaterByPaths_121 (by decide) (fun h121 => ?_) (fun h121 => ?_)
              · skip
                have hno : ¬ paP (tb gr) rk th te tm p th2 te2 tm2 q := fun hs => by obtain ⟨k1, a1, a2, a3, a4⟩ := (hX hs).2.2.2.2 h57; rw [io_uq (P := fun j => smP th te (prt te p j) th2 te2 (prt te2 q j)) hk3 hk2 a3 a2] at a4; unfold tb at a4; rw [a4] at h121; exact Bool.noConfusion h121
                refine lv_iconst (v := zI 0) hx hb qd_O_isPlaceGreaterByPaths_128 rfl ?_
                exact W.zret (v := zI 0) (ty := .boolean) hx hb hr rfl (fun t9 ht9 _ => ⟨false, rfl, bF (hno), ht9⟩) t_nil qd_O_isPlaceGreaterByPaths_129
              · skip
                refine lv_iconst (v := zI 1) hx hb qd_O_isPlaceGreaterByPaths_124 rfl ?_
                refine lv_goto (tgt := 129) hx hb qd_O_isPlaceGreaterByPaths_125 (by decide) ?_
                exact W.zret (v := zI 1) (ty := .boolean) hx hb hr rfl (fun t9 ht9 _ => ⟨true, rfl, bT ((Or.inr ⟨hc0, hd0, hr36.mp h39, fun z9 => absurd h57 z9, fun _ => ⟨k, hk1, hk2, hk3, h121⟩⟩)), ht9⟩) t_nil qd_O_isPlaceGreaterByPaths_129
          · skip
            refine lv_aload_n hx hb qd_O_isPlaceGreaterByPaths_60 rfl (lv_at hl 0 rfl) ?_
            refine va_get (D := (dC, dI)) (ci := 3) (v := .ref o) (C := "TermOrders$Orders") (T := qT_O) (N := 2) hx hb hg qi_O hown hK hF 0 rfl rfl 0 (by decide) (hg _ wd_112) (fun _ h9 => h9) rfl qd_O_isPlaceGreaterByPaths_61 ?_
            refine lv_aload_n hx hb qd_O_isPlaceGreaterByPaths_64 rfl (lv_at hl 1 rfl) ?_
            refine va_getN (D := (dC, dI)) (ci := 1) (v := .ref aH) (C := "TermOrders$Term") (T := qT_T) (N := 5) hx hb hg qi_T hown hK hF 7 rfl rfl 0 (by decide) (va_Nw.use rfl (hN.use nw_324)) (fun _ h9 => h9) rfl qd_O_isPlaceGreaterByPaths_65 ?_
            refine lv_iload_n hx hb qd_O_isPlaceGreaterByPaths_68 rfl (lv_at hl 2 rfl) ?_
            refine zz_iald hx hb hK hF 8 0 rfl rfl p rfl (by omega) (by omega) qd_O_isPlaceGreaterByPaths_69 ?_
            refine zz_top (b := ↑(th p).toNat) (by omega) ?_
            refine lv_aload_n hx hb qd_O_isPlaceGreaterByPaths_70 rfl (lv_at hl 3 rfl) ?_
            refine va_getN (D := (dC, dI)) (ci := 1) (v := .ref aH2) (C := "TermOrders$Term") (T := qT_T) (N := 5) hx hb hg qi_T hown hK hF 11 rfl rfl 0 (by decide) (va_Nw.use rfl (hN.use nw_324)) (fun _ h9 => h9) rfl qd_O_isPlaceGreaterByPaths_71 ?_
            refine lv_iload hx hb qd_O_isPlaceGreaterByPaths_74 (lv_at hl 4 rfl) ?_
            refine zz_iald hx hb hK hF 12 0 rfl rfl q rfl (by omega) (by omega) qd_O_isPlaceGreaterByPaths_76 ?_
            refine zz_top (b := ↑(th2 q).toNat) (by omega) ?_
            refine rd_callB (va_runVN (As := [.int (zI (↑((th p).toNat))), .int (zI (↑((th2 q).toNat)))]) (rest := []) ⟨hx, hb, hml, hown, hg⟩ (c_S_isAbove l dC dI cI cZ cT cJ o aA aR aW aV sy ar rk wt sv ((th p).toNat) ((th2 q).toNat) hrk (by omega) (by omega)) ⟨va_cnB 2 hg (gw_ok (fun _ h => h) wd_158) rfl rfl rfl (hN.use nw_461) (hg _ wd_2) (by decide +kernel) ⟨Nat.le_of_ble_eq_true rfl, Nat.le_of_ble_eq_true rfl⟩, hg _ wd_157, hg _ se_S_isAbove⟩ (rd_preV (va_recv (q0 := 2) hK hF rfl rfl) (pw_c (q := (o, .inr (0, [.ref aA, .ref aR, .ref aW, .ref aV, .int (zI (↑sy))]))) hF 2 rfl (pw_c (q := (aA, .inl (cI, 5, .inl (zA ar)))) hF 3 rfl (pw_c (q := (aR, .inl (cI, 5, .inl (zA rk)))) hF 4 rfl (pw_c (q := (aW, .inl (cI, 5, .inl (zA wt)))) hF 5 rfl (pw_c (q := (aV, .inl (cI, 5, .inl (zA sv)))) hF 6 rfl (pw_nil)))))) hK hN) rfl rfl hl.1 rfl (lv_room (Nat.le_of_ble_eq_true rfl)) qd_O_isPlaceGreaterByPaths_77 ⟨Nat.le_of_ble_eq_true rfl, Nat.le_of_ble_eq_true rfl⟩).run (fun r77 hr77 => ?_)
            exact W.zret (v := zI (bI r77)) (ty := .boolean) hx hb hr (bI_n _) (fun t9 ht9 _ => ⟨r77, rfl, ⟨fun z => Or.inr ⟨hc0, hd0, hr36.mp h39, fun _ => hr77.mp z, fun z9 => absurd z9 h57⟩, fun hs => hr77.mpr ((hX hs).2.2.2.1 h57)⟩, ht9⟩) t_nil qd_O_isPlaceGreaterByPaths_80
        · skip
          have hno : ¬ paP (tb gr) rk th te tm p th2 te2 tm2 q := fun hs => by rw [hr36.mpr (hX hs).2.2.1] at h39; exact Bool.noConfusion h39
          refine lv_iconst (v := zI 0) hx hb qd_O_isPlaceGreaterByPaths_42 rfl ?_
          exact W.zret (v := zI 0) (ty := .boolean) hx hb hr rfl (fun t9 ht9 _ => ⟨false, rfl, bF (hno), ht9⟩) t_nil qd_O_isPlaceGreaterByPaths_43
  · skip
    refine lv_iconst (v := zI 1) hx hb qd_O_isPlaceGreaterByPaths_12 rfl ?_
    exact W.zret (v := zI 1) (ty := .boolean) hx hb hr rfl (fun t9 ht9 _ => ⟨true, rfl, bT ((Or.inl (hr6.mp h9))), ht9⟩) t_nil qd_O_isPlaceGreaterByPaths_13
set_option maxHeartbeats 4000000 in
set_option maxRecDepth 100000 in
theorem c_O_isGreaterByWeights (l : Launch) (dC : Nat → ClassId) (dI : Nat → Nat → Nat) (cI cZ cT cJ : ClassId) (o aA aR aW aV sy : Nat) (ar rk wt sv : Nat → Int) (og oG : Nat) (gr : Nat → Bool) (a aH aP aE n : Nat) (th tm : Nat → Int) (te : Nat → Nat) (tg : Int) (a2 aH2 aP2 aE2 n2 : Nat) (th2 tm2 : Nat → Int) (te2 : Nat → Nat) (tg2 : Int) (ht : Nat → Int) (hrk : ∀ q, q < 5 → 0 ≤ rk q ∧ rk q ≤ 4) (hwt : ∀ q, q < 5 → 0 ≤ wt q ∧ wt q ≤ 9) (h16 : n ≤ 16) (h162 : n2 ≤ 16) (hh : ∀ q, q < n → -4 ≤ th q ∧ th q ≤ 4) (hh2 : ∀ q, q < n2 → -4 ≤ th2 q ∧ th2 q ≤ 4) (we : wfE tm n te) (we2 : wfE tm2 n2 te2) (hm : ∀ q, q < n → 0 ≤ tm q ∧ tm q ≤ 3) (hm2 : ∀ q, q < n2 → 0 ≤ tm2 q ∧ tm2 q ≤ 3) (hmm : ∀ i j, i < n → j < n2 → th i = th2 j → tm i = tm2 j) (hsm : ∀ q r, q < n → r < n → th q = th r → tm q = tm r) (hn0 : 0 < n) (hn02 : 0 < n2) (hgh : hgE tm n te ht) (hh4 : ht 0 ≤ 4) : Met l qy_O_isGreaterByWeights qw_O_isGreaterByWeights ({ frames := 2, cells := 0, slots := 0, locals := 49 }) (rdP (dC, dI) qcl (qty cI cZ cT cJ) nwL [(og, .inr (3, [.ref o, .ref oG])), (oG, .inl (cZ, 256, .inl (zB gr))), (o, .inr (0, [.ref aA, .ref aR, .ref aW, .ref aV, .int (zI (↑sy))])), (aA, .inl (cI, 5, .inl (zA ar))), (aR, .inl (cI, 5, .inl (zA rk))), (aW, .inl (cI, 5, .inl (zA wt))), (aV, .inl (cI, 5, .inl (zA sv))), (a, .inr (1, [.ref aH, .ref aP, .ref aE, .int (zI (↑n)), .int (zI (tg))])), (aH, .inl (cI, n, .inl (zA th))), (aP, .inl (cI, n, .inl (zA tm))), (aE, .inl (cI, n, .inl (zA (eI te)))), (a2, .inr (1, [.ref aH2, .ref aP2, .ref aE2, .int (zI (↑n2)), .int (zI (tg2))])), (aH2, .inl (cI, n2, .inl (zA th2))), (aP2, .inl (cI, n2, .inl (zA tm2))), (aE2, .inl (cI, n2, .inl (zA (eI te2))))] [.ref og, .ref a, .ref a2]) (rdB (gtW rk wt th te tm n th2 te2 n2)) 0 0 (fun _ => False) := by
  refine Met.ofW (cc := qc_O_isGreaterByWeights) (maxL := 9) (ret := (Option.some Jvm.ClassFile.FieldType.boolean)) (by decide) rfl ?_
  intro pg eg sg mg args below meth cg s₁ B hml hv
  obtain ⟨rfl, hF, hK, hN⟩ := hv
  have hx := B.exec
  have hb := B.bytes
  have hr := B.returns
  have hts := atoms_spec (ws := qw_O_isGreaterByWeights) B.pre
  have hg : ∀ w ∈ gw, w.before _ sg = true := fun w h => hts w (List.mem_cons_of_mem _ h)
  have hown : sg.vm.findClass "TermOrders$Orders" = some mg.cls := findClass_of_methodNamed B.named
  have hlocks := B.notSynchronized
  have hl := lv_entry ([.ref og, .ref a, .ref a2]) (n := 9) (Nat.le_of_ble_eq_true rfl)
  rw [lg_entry_eq]
  generalize (lg_sl ([.ref og, .ref a, .ref a2]) ++ List.replicate (9 - (lg_sl ([.ref og, .ref a, .ref a2])).length) Slot.unset).toArray = ls at hl ⊢
  have hl : lv_has ls 9 [(0, .ref og), (1, .ref a), (2, .ref a2)] := hl
  obtain ⟨G, hG⟩ := rcB_ex h162 (weP_cg (rk := rk) (wt := wt) we we2 hmm)
  have hgt := gtW_of we we2 hmm hn0 hn02 hG
  refine lv_iconst (v := zI 0) hx hb qd_O_isGreaterByWeights_0 rfl ?_
  refine lv_istore_n (lv' := [(3, .int (zI (0))), (0, .ref og), (1, .ref a), (2, .ref a2)]) hx hb qd_O_isGreaterByWeights_1 rfl hl (by decide) rfl (fun ls hl => ?_)
  refine lv_iconst (v := zI 0) hx hb qd_O_isGreaterByWeights_2 rfl ?_
  refine lv_istore (lv' := [(4, .int (zI (0))), (3, .int (zI (0))), (0, .ref og), (1, .ref a), (2, .ref a2)]) hx hb qd_O_isGreaterByWeights_3 hl (by decide) rfl (fun ls hl => ?_)
  refine lv_iconst (v := zI 0) hx hb qd_O_isGreaterByWeights_5 rfl ?_
  refine lv_istore (lv' := [(5, .int (zI (0))), (4, .int (zI (0))), (3, .int (zI (0))), (0, .ref og), (1, .ref a), (2, .ref a2)]) hx hb qd_O_isGreaterByWeights_6 hl (by decide) rfl (fun ls hl => ?_)
  have L8 : ∀ (d9 : Nat) (p : Nat) (q : Nat) (dd : Nat), (p < n) → (q < n2) → (ht p + dd ≤ 4) → (G 0 0 ↔ G p q) → 5 - dd = d9 → ∀ ls : Array Slot, lv_has ls 9 [(5, .int (zI (↑dd))), (4, .int (zI (↑q))), (3, .int (zI (↑p))), (0, .ref og), (1, .ref a), (2, .ref a2)] → W pg l eg (headSpec qw_O_isGreaterByWeights ({ frames := 2, cells := 0, slots := 0, locals := 49 })).room sg mg ([.ref og, .ref a, .ref a2] : List Value).toArray below meth cg sg.heap [] 0 0 (MQ below (rdB (gtW rk wt th te tm n th2 te2 n2)) ([.ref og, .ref a, .ref a2] : List Value).toArray sg 0 0 (fun _ => False)) (F0 mg 8 ls []) := by
    intro d9
    induction d9 using Nat.strongRecOn with
    | _ d9 ih8 =>
      intro p q dd hp hq hd5 hGp hd9 ls hl
      have hgb := hg_b we hgh p hp
      have hW : gtW rk wt th te tm n th2 te2 n2 ↔ weP G rk wt th te tm p th2 te2 q := hgt.trans (hGp.trans (hG p q hp hq))
      have hhp := hh p hp
      have hhq := hh2 q hq
      have hmp := hm p hp
      obtain ⟨w1, w2, w3, w4⟩ := we p hp
      obtain ⟨v1, v2, v3, v4⟩ := we2 q hq
      have hwb1 := wsum_b (h := th) (wt := wt) (a := p) (te p - p) (fun k hk hz => hwt _ (by have := hh (p + k) (by omega); omega))
      have hwb2 := wsum_b (h := th2) (wt := wt) (a := q) (te2 q - q) (fun k hk hz => hwt _ (by have := hh2 (q + k) (by omega); omega))
      refine lv_iload hx hb qd_O_isGreaterByWeights_8 (lv_at hl 0 rfl) ?_
      refine lv_iconst (v := zI 4) hx hb qd_O_isGreaterByWeights_10 rfl ?_
      refine zz_icmp_gt (tgt := 181) hx hb qd_O_isGreaterByWeights_11 (by decide) (by omega) (by omega) (fun h11 => ?_) (fun h11 => ?_)
      · skip
        omega
      · skip
        refine lv_aload_n hx hb qd_O_isGreaterByWeights_14 rfl (lv_at hl 4 rfl) ?_
        refine lv_iload_n hx hb qd_O_isGreaterByWeights_15 rfl (lv_at hl 2 rfl) ?_
        refine lv_aload_n hx hb qd_O_isGreaterByWeights_16 rfl (lv_at hl 5 rfl) ?_
        refine lv_iload hx hb qd_O_isGreaterByWeights_17 (lv_at hl 1 rfl) ?_
        refine rd_callB (va_runVN (As := [.int (zI (↑p)), .ref a2, .int (zI (↑q))]) (rest := []) ⟨hx, hb, hml, hown, hg⟩ (c_T_hasEachVariableAsOften l dC dI cI cZ cT cJ a aH aP aE n th tm te tg a2 aH2 aP2 aE2 n2 th2 tm2 te2 tg2 p q h16 h162 hh hh2 we we2 hp hq) ⟨va_cnB 3 hg (gw_ok (fun _ h => h) wd_475) rfl rfl rfl (hN.use nw_472) (hg _ wd_13) (by decide +kernel) ⟨Nat.le_of_ble_eq_true rfl, Nat.le_of_ble_eq_true rfl⟩, hg _ wd_474, hg _ se_T_hasEachVariableAsOften⟩ (rd_preV (va_recv (q0 := 7) hK hF rfl rfl) (pw_c (q := (a, .inr (1, [.ref aH, .ref aP, .ref aE, .int (zI (↑n)), .int (zI (tg))]))) hF 7 rfl (pw_c (q := (aH, .inl (cI, n, .inl (zA th)))) hF 8 rfl (pw_c (q := (aP, .inl (cI, n, .inl (zA tm)))) hF 9 rfl (pw_c (q := (aE, .inl (cI, n, .inl (zA (eI te))))) hF 10 rfl (pw_c (q := (a2, .inr (1, [.ref aH2, .ref aP2, .ref aE2, .int (zI (↑n2)), .int (zI (tg2))]))) hF 11 rfl (pw_c (q := (aH2, .inl (cI, n2, .inl (zA th2)))) hF 12 rfl (pw_c (q := (aP2, .inl (cI, n2, .inl (zA tm2)))) hF 13 rfl (pw_c (q := (aE2, .inl (cI, n2, .inl (zA (eI te2))))) hF 14 rfl (pw_nil))))))))) hK hN) rfl rfl hl.1 rfl (lv_room (Nat.le_of_ble_eq_true rfl)) qd_O_isGreaterByWeights_19 ⟨Nat.le_of_ble_eq_true rfl, Nat.le_of_ble_eq_true rfl⟩).run (fun r19 hr19 => ?_)
        refine zz_ifneB (tgt := 27) hx hb qd_O_isGreaterByWeights_22 (by decide) (fun h22 => ?_) (fun h22 => ?_)
        · skip
          refine lv_aload_n hx hb qd_O_isGreaterByWeights_27 rfl (lv_at hl 3 rfl) ?_
          refine va_get (D := (dC, dI)) (ci := 3) (v := .ref o) (C := "TermOrders$Orders") (T := qT_O) (N := 2) hx hb hg qi_O hown hK hF 0 rfl rfl 0 (by decide) (hg _ wd_112) (fun _ h9 => h9) rfl qd_O_isGreaterByWeights_28 ?_
          refine lv_aload_n hx hb qd_O_isGreaterByWeights_31 rfl (lv_at hl 4 rfl) ?_
          refine lv_iload_n hx hb qd_O_isGreaterByWeights_32 rfl (lv_at hl 2 rfl) ?_
          refine rd_callI (va_runVN (As := [.ref a, .int (zI (↑p))]) (rest := []) ⟨hx, hb, hml, hown, hg⟩ (c_S_weightOfPlace l dC dI cI cZ cT cJ o aA aR aW aV sy ar rk wt sv a aH aP aE n th tm te tg p hwt h16 hh we hp) ⟨va_cnB 2 hg (gw_ok (fun _ h => h) wd_479) rfl rfl rfl (hN.use nw_476) (hg _ wd_2) (by decide +kernel) ⟨Nat.le_of_ble_eq_true rfl, Nat.le_of_ble_eq_true rfl⟩, hg _ wd_478, hg _ se_S_weightOfPlace⟩ (rd_preV (va_recv (q0 := 2) hK hF rfl rfl) (pw_c (q := (o, .inr (0, [.ref aA, .ref aR, .ref aW, .ref aV, .int (zI (↑sy))]))) hF 2 rfl (pw_c (q := (aA, .inl (cI, 5, .inl (zA ar)))) hF 3 rfl (pw_c (q := (aR, .inl (cI, 5, .inl (zA rk)))) hF 4 rfl (pw_c (q := (aW, .inl (cI, 5, .inl (zA wt)))) hF 5 rfl (pw_c (q := (aV, .inl (cI, 5, .inl (zA sv)))) hF 6 rfl (pw_c (q := (a, .inr (1, [.ref aH, .ref aP, .ref aE, .int (zI (↑n)), .int (zI (tg))]))) hF 7 rfl (pw_c (q := (aH, .inl (cI, n, .inl (zA th)))) hF 8 rfl (pw_c (q := (aP, .inl (cI, n, .inl (zA tm)))) hF 9 rfl (pw_c (q := (aE, .inl (cI, n, .inl (zA (eI te))))) hF 10 rfl (pw_nil)))))))))) hK hN) rfl rfl hl.1 rfl (lv_room (Nat.le_of_ble_eq_true rfl)) qd_O_isGreaterByWeights_33 ⟨Nat.le_of_ble_eq_true rfl, Nat.le_of_ble_eq_true rfl⟩).run (fun r33 hr33 => ?_)
          have e33 : r33 = wsum th wt p (te p - p) := hr33
          subst e33
          refine lv_istore (lv' := [(6, .int (zI (wsum th wt p (te p - p)))), (5, .int (zI (↑dd))), (4, .int (zI (↑q))), (3, .int (zI (↑p))), (0, .ref og), (1, .ref a), (2, .ref a2)]) hx hb qd_O_isGreaterByWeights_36 hl (by decide) rfl (fun ls hl => ?_)
          refine lv_aload_n hx hb qd_O_isGreaterByWeights_38 rfl (lv_at hl 4 rfl) ?_
          refine va_get (D := (dC, dI)) (ci := 3) (v := .ref o) (C := "TermOrders$Orders") (T := qT_O) (N := 2) hx hb hg qi_O hown hK hF 0 rfl rfl 0 (by decide) (hg _ wd_112) (fun _ h9 => h9) rfl qd_O_isGreaterByWeights_39 ?_
          refine lv_aload_n hx hb qd_O_isGreaterByWeights_42 rfl (lv_at hl 6 rfl) ?_
          refine lv_iload hx hb qd_O_isGreaterByWeights_43 (lv_at hl 2 rfl) ?_
          refine rd_callI (va_runVN (As := [.ref a2, .int (zI (↑q))]) (rest := []) ⟨hx, hb, hml, hown, hg⟩ (c_S_weightOfPlace l dC dI cI cZ cT cJ o aA aR aW aV sy ar rk wt sv a2 aH2 aP2 aE2 n2 th2 tm2 te2 tg2 q hwt h162 hh2 we2 hq) ⟨va_cnB 2 hg (gw_ok (fun _ h => h) wd_479) rfl rfl rfl (hN.use nw_476) (hg _ wd_2) (by decide +kernel) ⟨Nat.le_of_ble_eq_true rfl, Nat.le_of_ble_eq_true rfl⟩, hg _ wd_478, hg _ se_S_weightOfPlace⟩ (rd_preV (va_recv (q0 := 2) hK hF rfl rfl) (pw_c (q := (o, .inr (0, [.ref aA, .ref aR, .ref aW, .ref aV, .int (zI (↑sy))]))) hF 2 rfl (pw_c (q := (aA, .inl (cI, 5, .inl (zA ar)))) hF 3 rfl (pw_c (q := (aR, .inl (cI, 5, .inl (zA rk)))) hF 4 rfl (pw_c (q := (aW, .inl (cI, 5, .inl (zA wt)))) hF 5 rfl (pw_c (q := (aV, .inl (cI, 5, .inl (zA sv)))) hF 6 rfl (pw_c (q := (a2, .inr (1, [.ref aH2, .ref aP2, .ref aE2, .int (zI (↑n2)), .int (zI (tg2))]))) hF 11 rfl (pw_c (q := (aH2, .inl (cI, n2, .inl (zA th2)))) hF 12 rfl (pw_c (q := (aP2, .inl (cI, n2, .inl (zA tm2)))) hF 13 rfl (pw_c (q := (aE2, .inl (cI, n2, .inl (zA (eI te2))))) hF 14 rfl (pw_nil)))))))))) hK hN) rfl rfl hl.1 rfl (lv_room (Nat.le_of_ble_eq_true rfl)) qd_O_isGreaterByWeights_45 ⟨Nat.le_of_ble_eq_true rfl, Nat.le_of_ble_eq_true rfl⟩).run (fun r45 hr45 => ?_)
          have e45 : r45 = wsum th2 wt q (te2 q - q) := hr45
          subst e45
          refine lv_istore (lv' := [(7, .int (zI (wsum th2 wt q (te2 q - q)))), (6, .int (zI (wsum th wt p (te p - p)))), (5, .int (zI (↑dd))), (4, .int (zI (↑q))), (3, .int (zI (↑p))), (0, .ref og), (1, .ref a), (2, .ref a2)]) hx hb qd_O_isGreaterByWeights_48 hl (by decide) rfl (fun ls hl => ?_)
          refine lv_iload hx hb qd_O_isGreaterByWeights_50 (lv_at hl 1 rfl) ?_
          refine lv_iload hx hb qd_O_isGreaterByWeights_52 (lv_at hl 0 rfl) ?_
          refine zz_icmp_eq (tgt := 70) hx hb qd_O_isGreaterByWeights_54 (by decide) (by omega) (by omega) (fun h54 => ?_) (fun h54 => ?_)
          · skip
            refine lv_aload_n hx hb qd_O_isGreaterByWeights_70 rfl (lv_at hl 7 rfl) ?_
            refine lv_iload hx hb qd_O_isGreaterByWeights_71 (lv_at hl 3 rfl) ?_
            refine rd_callB (va_runVN (As := [.int (zI (↑q))]) (rest := []) ⟨hx, hb, hml, hown, hg⟩ (c_T_isVariable l dC dI cI cZ cT cJ a2 aH2 aP2 aE2 n2 th2 tm2 te2 tg2 q h162 hh2 hq) ⟨va_cnB 1 hg (gw_ok (fun _ h => h) wd_388) rfl rfl rfl (hN.use nw_456) (hg _ wd_13) (by decide +kernel) ⟨Nat.le_of_ble_eq_true rfl, Nat.le_of_ble_eq_true rfl⟩, hg _ wd_387, hg _ se_T_isVariable⟩ (rd_preV (va_recv (q0 := 11) hK hF rfl rfl) (pw_c (q := (a2, .inr (1, [.ref aH2, .ref aP2, .ref aE2, .int (zI (↑n2)), .int (zI (tg2))]))) hF 11 rfl (pw_c (q := (aH2, .inl (cI, n2, .inl (zA th2)))) hF 12 rfl (pw_c (q := (aP2, .inl (cI, n2, .inl (zA tm2)))) hF 13 rfl (pw_c (q := (aE2, .inl (cI, n2, .inl (zA (eI te2))))) hF 14 rfl (pw_nil))))) hK hN) rfl rfl hl.1 rfl (lv_room (Nat.le_of_ble_eq_true rfl)) qd_O_isGreaterByWeights_73 ⟨Nat.le_of_ble_eq_true rfl, Nat.le_of_ble_eq_true rfl⟩).run (fun r73 hr73 => ?_)
            refine zz_ifeqB (tgt := 92) hx hb qd_O_isGreaterByWeights_76 (by decide) (fun h76 => ?_) (fun h76 => ?_)
            · skip
              have hd0 : 0 ≤ th2 q := Classical.byContradiction (fun z => by rw [hr73.mpr (by omega)] at h76; exact Bool.noConfusion h76)
              refine lv_aload_n hx hb qd_O_isGreaterByWeights_92 rfl (lv_at hl 6 rfl) ?_
              refine lv_iload_n hx hb qd_O_isGreaterByWeights_93 rfl (lv_at hl 4 rfl) ?_
              refine rd_callB (va_runVN (As := [.int (zI (↑p))]) (rest := []) ⟨hx, hb, hml, hown, hg⟩ (c_T_isVariable l dC dI cI cZ cT cJ a aH aP aE n th tm te tg p h16 hh hp) ⟨va_cnB 1 hg (gw_ok (fun _ h => h) wd_388) rfl rfl rfl (hN.use nw_456) (hg _ wd_13) (by decide +kernel) ⟨Nat.le_of_ble_eq_true rfl, Nat.le_of_ble_eq_true rfl⟩, hg _ wd_387, hg _ se_T_isVariable⟩ (rd_preV (va_recv (q0 := 7) hK hF rfl rfl) (pw_c (q := (a, .inr (1, [.ref aH, .ref aP, .ref aE, .int (zI (↑n)), .int (zI (tg))]))) hF 7 rfl (pw_c (q := (aH, .inl (cI, n, .inl (zA th)))) hF 8 rfl (pw_c (q := (aP, .inl (cI, n, .inl (zA tm)))) hF 9 rfl (pw_c (q := (aE, .inl (cI, n, .inl (zA (eI te))))) hF 10 rfl (pw_nil))))) hK hN) rfl rfl hl.1 rfl (lv_room (Nat.le_of_ble_eq_true rfl)) qd_O_isGreaterByWeights_94 ⟨Nat.le_of_ble_eq_true rfl, Nat.le_of_ble_eq_true rfl⟩).run (fun r94 hr94 => ?_)
              refine zz_ifeqB (tgt := 102) hx hb qd_O_isGreaterByWeights_97 (by decide) (fun h97 => ?_) (fun h97 => ?_)
              · skip
                have hc0 : 0 ≤ th p := Classical.byContradiction (fun z => by rw [hr94.mpr (by omega)] at h97; exact Bool.noConfusion h97)
                refine lv_aload_n hx hb qd_O_isGreaterByWeights_102 rfl (lv_at hl 6 rfl) ?_
                refine va_getN (D := (dC, dI)) (ci := 1) (v := .ref aH) (C := "TermOrders$Term") (T := qT_T) (N := 5) hx hb hg qi_T hown hK hF 7 rfl rfl 0 (by decide) (va_Nw.use rfl (hN.use nw_324)) (fun _ h9 => h9) rfl qd_O_isGreaterByWeights_103 ?_
                refine lv_iload_n hx hb qd_O_isGreaterByWeights_106 rfl (lv_at hl 4 rfl) ?_
                refine zz_iald hx hb hK hF 8 0 rfl rfl p rfl (by omega) (by omega) qd_O_isGreaterByWeights_107 ?_
                refine lv_aload_n hx hb qd_O_isGreaterByWeights_108 rfl (lv_at hl 7 rfl) ?_
                refine va_getN (D := (dC, dI)) (ci := 1) (v := .ref aH2) (C := "TermOrders$Term") (T := qT_T) (N := 5) hx hb hg qi_T hown hK hF 11 rfl rfl 0 (by decide) (va_Nw.use rfl (hN.use nw_324)) (fun _ h9 => h9) rfl qd_O_isGreaterByWeights_109 ?_
                refine lv_iload hx hb qd_O_isGreaterByWeights_112 (lv_at hl 3 rfl) ?_
                refine zz_iald hx hb hK hF 12 0 rfl rfl q rfl (by omega) (by omega) qd_O_isGreaterByWeights_114 ?_
                refine zz_icmp_eq (tgt := 139) hx hb qd_O_isGreaterByWeights_115 (by decide) (by omega) (by omega) (fun h115 => ?_) (fun h115 => ?_)
                · skip
                  have heq := hmm p q hp hq h115
                  refine lv_aload_n hx hb qd_O_isGreaterByWeights_139 rfl (lv_at hl 6 rfl) ?_
                  refine lv_iload_n hx hb qd_O_isGreaterByWeights_140 rfl (lv_at hl 4 rfl) ?_
                  refine lv_aload_n hx hb qd_O_isGreaterByWeights_141 rfl (lv_at hl 7 rfl) ?_
                  refine lv_iload hx hb qd_O_isGreaterByWeights_142 (lv_at hl 3 rfl) ?_
                  refine rd_callI (va_runVN (As := [.int (zI (↑p)), .ref a2, .int (zI (↑q))]) (rest := []) ⟨hx, hb, hml, hown, hg⟩ (c_T_firstOtherPart l dC dI cI cZ cT cJ a aH aP aE n th tm te tg a2 aH2 aP2 aE2 n2 th2 tm2 te2 tg2 p q h16 h162 hh hh2 we we2 hp hq hm heq) ⟨va_cnB 3 hg (gw_ok (fun _ h => h) wd_465) rfl rfl rfl (hN.use nw_462) (hg _ wd_13) (by decide +kernel) ⟨Nat.le_of_ble_eq_true rfl, Nat.le_of_ble_eq_true rfl⟩, hg _ wd_464, hg _ se_T_firstOtherPart⟩ (rd_preV (va_recv (q0 := 7) hK hF rfl rfl) (pw_c (q := (a, .inr (1, [.ref aH, .ref aP, .ref aE, .int (zI (↑n)), .int (zI (tg))]))) hF 7 rfl (pw_c (q := (aH, .inl (cI, n, .inl (zA th)))) hF 8 rfl (pw_c (q := (aP, .inl (cI, n, .inl (zA tm)))) hF 9 rfl (pw_c (q := (aE, .inl (cI, n, .inl (zA (eI te))))) hF 10 rfl (pw_c (q := (a2, .inr (1, [.ref aH2, .ref aP2, .ref aE2, .int (zI (↑n2)), .int (zI (tg2))]))) hF 11 rfl (pw_c (q := (aH2, .inl (cI, n2, .inl (zA th2)))) hF 12 rfl (pw_c (q := (aP2, .inl (cI, n2, .inl (zA tm2)))) hF 13 rfl (pw_c (q := (aE2, .inl (cI, n2, .inl (zA (eI te2))))) hF 14 rfl (pw_nil))))))))) hK hN) rfl rfl hl.1 rfl (lv_room (Nat.le_of_ble_eq_true rfl)) qd_O_isGreaterByWeights_144 ⟨Nat.le_of_ble_eq_true rfl, Nat.le_of_ble_eq_true rfl⟩).run (fun r144 hr144 => ?_)
                  refine lv_istore (lv' := [(8, .int (zI (r144))), (7, .int (zI (wsum th2 wt q (te2 q - q)))), (6, .int (zI (wsum th wt p (te p - p)))), (5, .int (zI (↑dd))), (4, .int (zI (↑q))), (3, .int (zI (↑p))), (0, .ref og), (1, .ref a), (2, .ref a2)]) hx hb qd_O_isGreaterByWeights_147 hl (by decide) rfl (fun ls hl => ?_)
                  refine lv_iload hx hb qd_O_isGreaterByWeights_149 (lv_at hl 0 rfl) ?_
                  refine lv_iconst (v := zI (-1)) hx hb qd_O_isGreaterByWeights_151 rfl ?_
                  refine zz_icmp_ne (tgt := 157) hx hb qd_O_isGreaterByWeights_152 (by decide) (by rcases hr144 with ⟨k, z1, z2, _⟩ | ⟨z1, _⟩ <;> omega) (by omega) (fun h152 => ?_) (fun h152 => ?_)
                  · skip
                    have hk9 : ∃ k : Nat, r144 = ↑k ∧ (k : Int) < tm p ∧ (∀ j, j < k → smP th te (prt te p j) th2 te2 (prt te2 q j)) ∧ ¬ smP th te (prt te p k) th2 te2 (prt te2 q k) := hr144.resolve_right (fun z => h152 z.1)
                    obtain ⟨k, rfl, hk1, hk2, hk3⟩ := hk9
                    have hp1 := prt_lt we hp (k := k) hk1
                    have hp2 := prt_lt we2 hq (k := k) (by omega)
                    refine lv_aload_n hx hb qd_O_isGreaterByWeights_157 rfl (lv_at hl 7 rfl) ?_
                    refine lv_iload_n hx hb qd_O_isGreaterByWeights_158 rfl (lv_at hl 5 rfl) ?_
                    refine lv_iload hx hb qd_O_isGreaterByWeights_159 (lv_at hl 0 rfl) ?_
                    refine rd_callI (va_runVN (As := [.int (zI (↑p)), .int (zI (↑k))]) (rest := []) ⟨hx, hb, hml, hown, hg⟩ (c_T_partOf l dC dI cI cZ cT cJ a aH aP aE n th tm te tg p k h16 we hp (by omega) (by omega)) ⟨va_cnB 2 hg (gw_ok (fun _ h => h) wd_451) rfl rfl rfl (hN.use nw_448) (hg _ wd_13) (by decide +kernel) ⟨Nat.le_of_ble_eq_true rfl, Nat.le_of_ble_eq_true rfl⟩, hg _ wd_450, hg _ se_T_partOf⟩ (rd_preV (va_recv (q0 := 7) hK hF rfl rfl) (pw_c (q := (a, .inr (1, [.ref aH, .ref aP, .ref aE, .int (zI (↑n)), .int (zI (tg))]))) hF 7 rfl (pw_c (q := (aH, .inl (cI, n, .inl (zA th)))) hF 8 rfl (pw_c (q := (aP, .inl (cI, n, .inl (zA tm)))) hF 9 rfl (pw_c (q := (aE, .inl (cI, n, .inl (zA (eI te))))) hF 10 rfl (pw_nil))))) hK hN) rfl rfl hl.1 rfl (lv_room (Nat.le_of_ble_eq_true rfl)) qd_O_isGreaterByWeights_161 ⟨Nat.le_of_ble_eq_true rfl, Nat.le_of_ble_eq_true rfl⟩).run (fun r161 hr161 => ?_)
                    have e161 : r161 = ↑(prt te p k) := hr161
                    subst e161
                    refine lv_istore_n (lv' := [(3, .int (zI (↑(prt te p k)))), (8, .int (zI ((↑k)))), (7, .int (zI (wsum th2 wt q (te2 q - q)))), (6, .int (zI (wsum th wt p (te p - p)))), (5, .int (zI (↑dd))), (4, .int (zI (↑q))), (0, .ref og), (1, .ref a), (2, .ref a2)]) hx hb qd_O_isGreaterByWeights_164 rfl hl (by decide) rfl (fun ls hl => ?_)
                    refine lv_aload_n hx hb qd_O_isGreaterByWeights_165 rfl (lv_at hl 8 rfl) ?_
                    refine lv_iload hx hb qd_O_isGreaterByWeights_166 (lv_at hl 5 rfl) ?_
                    refine lv_iload hx hb qd_O_isGreaterByWeights_168 (lv_at hl 1 rfl) ?_
                    refine rd_callI (va_runVN (As := [.int (zI (↑q)), .int (zI (↑k))]) (rest := []) ⟨hx, hb, hml, hown, hg⟩ (c_T_partOf l dC dI cI cZ cT cJ a2 aH2 aP2 aE2 n2 th2 tm2 te2 tg2 q k h162 we2 hq (by omega) (by omega)) ⟨va_cnB 2 hg (gw_ok (fun _ h => h) wd_451) rfl rfl rfl (hN.use nw_448) (hg _ wd_13) (by decide +kernel) ⟨Nat.le_of_ble_eq_true rfl, Nat.le_of_ble_eq_true rfl⟩, hg _ wd_450, hg _ se_T_partOf⟩ (rd_preV (va_recv (q0 := 11) hK hF rfl rfl) (pw_c (q := (a2, .inr (1, [.ref aH2, .ref aP2, .ref aE2, .int (zI (↑n2)), .int (zI (tg2))]))) hF 11 rfl (pw_c (q := (aH2, .inl (cI, n2, .inl (zA th2)))) hF 12 rfl (pw_c (q := (aP2, .inl (cI, n2, .inl (zA tm2)))) hF 13 rfl (pw_c (q := (aE2, .inl (cI, n2, .inl (zA (eI te2))))) hF 14 rfl (pw_nil))))) hK hN) rfl rfl hl.1 rfl (lv_room (Nat.le_of_ble_eq_true rfl)) qd_O_isGreaterByWeights_170 ⟨Nat.le_of_ble_eq_true rfl, Nat.le_of_ble_eq_true rfl⟩).run (fun r170 hr170 => ?_)
                    have e170 : r170 = ↑(prt te2 q k) := hr170
                    subst e170
                    refine lv_istore (lv' := [(4, .int (zI (↑(prt te2 q k)))), (3, .int (zI (↑(prt te p k)))), (8, .int (zI ((↑k)))), (7, .int (zI (wsum th2 wt q (te2 q - q)))), (6, .int (zI (wsum th wt p (te p - p)))), (5, .int (zI (↑dd))), (0, .ref og), (1, .ref a), (2, .ref a2)]) hx hb qd_O_isGreaterByWeights_173 hl (by decide) rfl (fun ls hl => ?_)
                    refine lv_iinc (k := 5) (lv' := [(5, .int (zI (↑(dd + 1)))), (4, .int (zI (↑(prt te2 q k)))), (3, .int (zI (↑(prt te p k)))), (8, .int (zI ((↑k)))), (7, .int (zI (wsum th2 wt q (te2 q - q)))), (6, .int (zI (wsum th wt p (te p - p)))), (0, .ref og), (1, .ref a), (2, .ref a2)]) hx hb qd_O_isGreaterByWeights_175 hl rfl (zI_inc (v := ↑(dd + 1)) (by omega)) (by decide) rfl (fun ls hl => ?_)
                    refine lv_goto (tgt := 8) hx hb qd_O_isGreaterByWeights_178 (by decide) ?_
                    have hgp := hg_part hgh hp hk1
                    have hl := lv_sub (l' := [(5, .int (zI (↑(dd + 1)))), (4, .int (zI (↑(prt te2 q k)))), (3, .int (zI (↑(prt te p k)))), (0, .ref og), (1, .ref a), (2, .ref a2)]) hl [0, 1, 2, 6, 7, 8] rfl
                    exact ih8 _ (by omega) (prt te p k) (prt te2 q k) (dd + 1) (by omega) (by omega) (by omega) (hGp.trans ((hG p q hp hq).trans ⟨fun z => by obtain ⟨k1, a1, a2, a3, a4⟩ := ((z.2.2 h54).2 hd0).2.2 h115; rw [io_uq (P := fun j => smP th te (prt te p j) th2 te2 (prt te2 q j)) hk3 hk2 a3 a2] at a4; exact a4, fun z => ⟨hr19.mp h22, fun z9 => absurd h54 z9, fun _ => ⟨fun z9 => absurd z9 (by omega), fun _ => ⟨hc0, fun z9 => absurd h115 z9, fun _ => ⟨k, hk1, hk2, hk3, z⟩⟩⟩⟩⟩)) rfl ls hl
                  · skip
                    have hk9 : ∀ j : Nat, (j : Int) < tm p → smP th te (prt te p j) th2 te2 (prt te2 q j) := hr144.elim (fun ⟨k, a1, _⟩ => by omega) (fun z => z.2)
                    refine lv_iconst (v := zI 0) hx hb qd_O_isGreaterByWeights_155 rfl ?_
                    exact W.zret (v := zI 0) (ty := .boolean) hx hb hr rfl (fun t9 ht9 _ => ⟨false, rfl, bF ((fun hs => by obtain ⟨k, a1, a2, a3, a4⟩ := (((hW.mp hs).2.2 h54).2 hd0).2.2 h115; exact a3 (hk9 k a1))), ht9⟩) t_nil qd_O_isGreaterByWeights_156
                · skip
                  refine lv_aload_n hx hb qd_O_isGreaterByWeights_118 rfl (lv_at hl 5 rfl) ?_
                  refine va_get (D := (dC, dI)) (ci := 3) (v := .ref o) (C := "TermOrders$Orders") (T := qT_O) (N := 2) hx hb hg qi_O hown hK hF 0 rfl rfl 0 (by decide) (hg _ wd_112) (fun _ h9 => h9) rfl qd_O_isGreaterByWeights_119 ?_
                  refine lv_aload_n hx hb qd_O_isGreaterByWeights_122 rfl (lv_at hl 6 rfl) ?_
                  refine va_getN (D := (dC, dI)) (ci := 1) (v := .ref aH) (C := "TermOrders$Term") (T := qT_T) (N := 5) hx hb hg qi_T hown hK hF 7 rfl rfl 0 (by decide) (va_Nw.use rfl (hN.use nw_324)) (fun _ h9 => h9) rfl qd_O_isGreaterByWeights_123 ?_
                  refine lv_iload_n hx hb qd_O_isGreaterByWeights_126 rfl (lv_at hl 4 rfl) ?_
                  refine zz_iald hx hb hK hF 8 0 rfl rfl p rfl (by omega) (by omega) qd_O_isGreaterByWeights_127 ?_
                  refine zz_top (b := ↑(th p).toNat) (by omega) ?_
                  refine lv_aload_n hx hb qd_O_isGreaterByWeights_128 rfl (lv_at hl 7 rfl) ?_
                  refine va_getN (D := (dC, dI)) (ci := 1) (v := .ref aH2) (C := "TermOrders$Term") (T := qT_T) (N := 5) hx hb hg qi_T hown hK hF 11 rfl rfl 0 (by decide) (va_Nw.use rfl (hN.use nw_324)) (fun _ h9 => h9) rfl qd_O_isGreaterByWeights_129 ?_
                  refine lv_iload hx hb qd_O_isGreaterByWeights_132 (lv_at hl 3 rfl) ?_
                  refine zz_iald hx hb hK hF 12 0 rfl rfl q rfl (by omega) (by omega) qd_O_isGreaterByWeights_134 ?_
                  refine zz_top (b := ↑(th2 q).toNat) (by omega) ?_
                  refine rd_callB (va_runVN (As := [.int (zI (↑((th p).toNat))), .int (zI (↑((th2 q).toNat)))]) (rest := []) ⟨hx, hb, hml, hown, hg⟩ (c_S_isAbove l dC dI cI cZ cT cJ o aA aR aW aV sy ar rk wt sv ((th p).toNat) ((th2 q).toNat) hrk (by omega) (by omega)) ⟨va_cnB 2 hg (gw_ok (fun _ h => h) wd_158) rfl rfl rfl (hN.use nw_461) (hg _ wd_2) (by decide +kernel) ⟨Nat.le_of_ble_eq_true rfl, Nat.le_of_ble_eq_true rfl⟩, hg _ wd_157, hg _ se_S_isAbove⟩ (rd_preV (va_recv (q0 := 2) hK hF rfl rfl) (pw_c (q := (o, .inr (0, [.ref aA, .ref aR, .ref aW, .ref aV, .int (zI (↑sy))]))) hF 2 rfl (pw_c (q := (aA, .inl (cI, 5, .inl (zA ar)))) hF 3 rfl (pw_c (q := (aR, .inl (cI, 5, .inl (zA rk)))) hF 4 rfl (pw_c (q := (aW, .inl (cI, 5, .inl (zA wt)))) hF 5 rfl (pw_c (q := (aV, .inl (cI, 5, .inl (zA sv)))) hF 6 rfl (pw_nil)))))) hK hN) rfl rfl hl.1 rfl (lv_room (Nat.le_of_ble_eq_true rfl)) qd_O_isGreaterByWeights_135 ⟨Nat.le_of_ble_eq_true rfl, Nat.le_of_ble_eq_true rfl⟩).run (fun r135 hr135 => ?_)
                  exact W.zret (v := zI (bI r135)) (ty := .boolean) hx hb hr (bI_n _) (fun t9 ht9 _ => ⟨r135, rfl, ⟨fun z => hW.mpr ⟨hr19.mp h22, fun z9 => absurd h54 z9, fun _ => ⟨fun z9 => absurd z9 (by omega), fun _ => ⟨hc0, fun _ => hr135.mp z, fun z9 => absurd z9 h115⟩⟩⟩, fun hs => hr135.mpr ((((hW.mp hs).2.2 h54).2 hd0).2.1 h115)⟩, ht9⟩) t_nil qd_O_isGreaterByWeights_138
              · skip
                refine lv_iconst (v := zI 0) hx hb qd_O_isGreaterByWeights_100 rfl ?_
                exact W.zret (v := zI 0) (ty := .boolean) hx hb hr rfl (fun t9 ht9 _ => ⟨false, rfl, bF ((fun hs => by have z1 := (((hW.mp hs).2.2 h54).2 hd0).1; have z2 := hr94.mp h97; omega)), ht9⟩) t_nil qd_O_isGreaterByWeights_101
            · skip
              have hdv := hr73.mp h76
              refine lv_aload_n hx hb qd_O_isGreaterByWeights_79 rfl (lv_at hl 6 rfl) ?_
              refine lv_iload_n hx hb qd_O_isGreaterByWeights_80 rfl (lv_at hl 4 rfl) ?_
              refine lv_aload_n hx hb qd_O_isGreaterByWeights_81 rfl (lv_at hl 7 rfl) ?_
              refine va_getN (D := (dC, dI)) (ci := 1) (v := .ref aH2) (C := "TermOrders$Term") (T := qT_T) (N := 5) hx hb hg qi_T hown hK hF 11 rfl rfl 0 (by decide) (va_Nw.use rfl (hN.use nw_324)) (fun _ h9 => h9) rfl qd_O_isGreaterByWeights_82 ?_
              refine lv_iload hx hb qd_O_isGreaterByWeights_85 (lv_at hl 3 rfl) ?_
              refine zz_iald hx hb hK hF 12 0 rfl rfl q rfl (by omega) (by omega) qd_O_isGreaterByWeights_87 ?_
              refine rd_callB (va_runVN (As := [.int (zI (↑p)), .int (zI ((th2 q)))]) (rest := []) ⟨hx, hb, hml, hown, hg⟩ (c_T_isVariableWithin l dC dI cI cZ cT cJ a aH aP aE n th tm te tg p (th2 q) h16 hh hm we hp (by omega) hsm) ⟨va_cnB 2 hg (gw_ok (fun _ h => h) wd_484) rfl rfl rfl (hN.use nw_481) (hg _ wd_13) (by decide +kernel) ⟨Nat.le_of_ble_eq_true rfl, Nat.le_of_ble_eq_true rfl⟩, hg _ wd_483, hg _ se_T_isVariableWithin⟩ (rd_preV (va_recv (q0 := 7) hK hF rfl rfl) (pw_c (q := (a, .inr (1, [.ref aH, .ref aP, .ref aE, .int (zI (↑n)), .int (zI (tg))]))) hF 7 rfl (pw_c (q := (aH, .inl (cI, n, .inl (zA th)))) hF 8 rfl (pw_c (q := (aP, .inl (cI, n, .inl (zA tm)))) hF 9 rfl (pw_c (q := (aE, .inl (cI, n, .inl (zA (eI te))))) hF 10 rfl (pw_nil))))) hK hN) rfl rfl hl.1 rfl (lv_room (Nat.le_of_ble_eq_true rfl)) qd_O_isGreaterByWeights_88 ⟨Nat.le_of_ble_eq_true rfl, Nat.le_of_ble_eq_true rfl⟩).run (fun r88 hr88 => ?_)
              exact W.zret (v := zI (bI r88)) (ty := .boolean) hx hb hr (bI_n _) (fun t9 ht9 _ => ⟨r88, rfl, ⟨fun z => hW.mpr ⟨hr19.mp h22, fun z9 => absurd h54 z9, fun _ => ⟨fun _ => hr88.mp z, fun z9 => absurd z9 (by omega)⟩⟩, fun hs => hr88.mpr (((hW.mp hs).2.2 h54).1 hdv)⟩, ht9⟩) t_nil qd_O_isGreaterByWeights_91
          · skip
            refine lv_iload hx hb qd_O_isGreaterByWeights_57 (lv_at hl 1 rfl) ?_
            refine lv_iload hx hb qd_O_isGreaterByWeights_59 (lv_at hl 0 rfl) ?_
            refine zz_icmp_le (tgt := 68) hx hb qd_O_isGreaterByWeights_61 (by decide) (by omega) (by omega) (fun h61 => ?_) (fun h61 => ?_)
            · skip
              refine lv_iconst (v := zI 0) hx hb qd_O_isGreaterByWeights_68 rfl ?_
              exact W.zret (v := zI 0) (ty := .boolean) hx hb hr rfl (fun t9 ht9 _ => ⟨false, rfl, bF ((fun hs => by have := (hW.mp hs).2.1 h54; omega)), ht9⟩) t_nil qd_O_isGreaterByWeights_69
            · skip
              refine lv_iconst (v := zI 1) hx hb qd_O_isGreaterByWeights_64 rfl ?_
              refine lv_goto (tgt := 69) hx hb qd_O_isGreaterByWeights_65 (by decide) ?_
              exact W.zret (v := zI 1) (ty := .boolean) hx hb hr rfl (fun t9 ht9 _ => ⟨true, rfl, bT ((hW.mpr ⟨hr19.mp h22, fun _ => by omega, fun z => absurd z h54⟩)), ht9⟩) t_nil qd_O_isGreaterByWeights_69
        · skip
          refine lv_iconst (v := zI 0) hx hb qd_O_isGreaterByWeights_25 rfl ?_
          exact W.zret (v := zI 0) (ty := .boolean) hx hb hr rfl (fun t9 ht9 _ => ⟨false, rfl, bF ((fun hs => by rw [hr19.mpr (hW.mp hs).1] at h22; exact Bool.noConfusion h22)), ht9⟩) t_nil qd_O_isGreaterByWeights_26
  exact L8 _ 0 0 0 hn0 hn02 (by omega) Iff.rfl rfl ls hl
