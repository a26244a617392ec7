set_option maxHeartbeats 4000000 in
set_option maxRecDepth 100000 in
theorem c_S_isAbove (l : Launch) (dC : Nat → ClassId) (dI : Nat → Nat → Nat) (cI cZ cT cJ : ClassId) (o aA aR aW aV sy : Nat) (ar rk wt sv : Nat → Int) (x y : Nat) (hrk : ∀ q, q < 5 → 0 ≤ rk q ∧ rk q ≤ 4) (hx5 : x < 5) (hy5 : y < 5) : Met l qy_S_isAbove qw_S_isAbove ({ frames := 0, cells := 0, slots := 0, locals := 0 }) (rdP (dC, dI) qcl (qty cI cZ cT cJ) nwL [(o, .inr (0, [.ref aA, .ref aR, .ref aW, .ref aV, .int (zI (↑sy))])), (aA, .inl (cI, 5, .inl (zA ar))), (aR, .inl (cI, 5, .inl (zA rk))), (aW, .inl (cI, 5, .inl (zA wt))), (aV, .inl (cI, 5, .inl (zA sv)))] [.ref o, .int (zI (↑x)), .int (zI (↑y))]) (rdB (rk y < rk x)) 0 0 (fun _ => False) := by
  refine Met.ofW (cc := qc_S_isAbove) (maxL := 3) (ret := (Option.some Jvm.ClassFile.FieldType.boolean)) (by decide) rfl ?_
  intro pg eg sg mg args below meth cg s₁ B hml hv
  obtain ⟨rfl, hF, hK, hN⟩ := hv
  have hx := B.exec
  have hb := B.bytes
  have hr := B.returns
  have hts := atoms_spec (ws := qw_S_isAbove) B.pre
  have hg : ∀ w ∈ gw, w.before _ sg = true := fun w h => hts w (List.mem_cons_of_mem _ h)
  have hown : sg.vm.findClass "TermOrders$Symbols" = some mg.cls := findClass_of_methodNamed B.named
  have hlocks := B.notSynchronized
  have hl := lv_entry ([.ref o, .int (zI (↑x)), .int (zI (↑y))]) (n := 3) (Nat.le_of_ble_eq_true rfl)
  rw [lg_entry_eq]
  generalize (lg_sl ([.ref o, .int (zI (↑x)), .int (zI (↑y))]) ++ List.replicate (3 - (lg_sl ([.ref o, .int (zI (↑x)), .int (zI (↑y))])).length) Slot.unset).toArray = ls at hl ⊢
  have hl : lv_has ls 3 [(0, .ref o), (1, .int (zI (↑x))), (2, .int (zI (↑y)))] := hl
  have hq1 := hrk x hx5
  have hq2 := hrk y hy5
  refine lv_aload_n hx hb qd_S_isAbove_0 rfl (lv_at hl 0 rfl) ?_
  refine va_get (D := (dC, dI)) (ci := 0) (v := .ref aR) (C := "TermOrders$Symbols") (T := qT_S) (N := 5) hx hb hg qi_S hown hK hF 0 rfl rfl 1 (by decide) (hg _ wd_34) (fun _ h9 => h9) rfl qd_S_isAbove_1 ?_
  refine lv_iload_n hx hb qd_S_isAbove_4 rfl (lv_at hl 1 rfl) ?_
  refine zz_iald hx hb hK hF 2 0 rfl rfl x rfl (by omega) (by omega) qd_S_isAbove_5 ?_
  refine lv_aload_n hx hb qd_S_isAbove_6 rfl (lv_at hl 0 rfl) ?_
  refine va_get (D := (dC, dI)) (ci := 0) (v := .ref aR) (C := "TermOrders$Symbols") (T := qT_S) (N := 5) hx hb hg qi_S hown hK hF 0 rfl rfl 1 (by decide) (hg _ wd_34) (fun _ h9 => h9) rfl qd_S_isAbove_7 ?_
  refine lv_iload_n hx hb qd_S_isAbove_10 rfl (lv_at hl 2 rfl) ?_
  refine zz_iald hx hb hK hF 2 0 rfl rfl y rfl (by omega) (by omega) qd_S_isAbove_11 ?_
  refine zz_icmp_le (tgt := 19) hx hb qd_S_isAbove_12 (by decide) (by omega) (by omega) (fun h12 => ?_) (fun h12 => ?_)
  · skip
    refine lv_iconst (v := zI 0) hx hb qd_S_isAbove_19 rfl ?_
    exact W.zret (v := zI 0) (ty := .boolean) hx hb hr rfl (fun t9 ht9 _ => ⟨false, rfl, bF (by omega), ht9⟩) t_nil qd_S_isAbove_20
  · skip
    refine lv_iconst (v := zI 1) hx hb qd_S_isAbove_15 rfl ?_
    refine lv_goto (tgt := 20) hx hb qd_S_isAbove_16 (by decide) ?_
    exact W.zret (v := zI 1) (ty := .boolean) hx hb hr rfl (fun t9 ht9 _ => ⟨true, rfl, bT (by omega), ht9⟩) t_nil qd_S_isAbove_20
set_option maxHeartbeats 4000000 in
set_option maxRecDepth 100000 in
theorem c_S_isAboveAllOthers (l : Launch) (dC : Nat → ClassId) (dI : Nat → Nat → Nat) (cI cZ cT cJ : ClassId) (o aA aR aW aV sy : Nat) (ar rk wt sv : Nat → Int) (x : Nat) (hsy : sy ≤ 5) (hrk : ∀ q, q < 5 → 0 ≤ rk q ∧ rk q ≤ 4) (hx5 : x < sy) : Met l qy_S_isAboveAllOthers qw_S_isAboveAllOthers ({ frames := 1, cells := 0, slots := 0, locals := 22 }) (rdP (dC, dI) qcl (qty cI cZ cT cJ) nwL [(o, .inr (0, [.ref aA, .ref aR, .ref aW, .ref aV, .int (zI (↑sy))])), (aA, .inl (cI, 5, .inl (zA ar))), (aR, .inl (cI, 5, .inl (zA rk))), (aW, .inl (cI, 5, .inl (zA wt))), (aV, .inl (cI, 5, .inl (zA sv)))] [.ref o, .int (zI (↑x))]) (rdB (∀ t, t < sy → t ≠ x → rk t < rk x)) 0 0 (fun _ => False) := by
  refine Met.ofW (cc := qc_S_isAboveAllOthers) (maxL := 3) (ret := (Option.some Jvm.ClassFile.FieldType.boolean)) (by decide) rfl ?_
  intro pg eg sg mg args below meth cg s₁ B hml hv
  obtain ⟨rfl, hF, hK, hN⟩ := hv
  have hx := B.exec
  have hb := B.bytes
  have hr := B.returns
  have hts := atoms_spec (ws := qw_S_isAboveAllOthers) B.pre
  have hg : ∀ w ∈ gw, w.before _ sg = true := fun w h => hts w (List.mem_cons_of_mem _ h)
  have hown : sg.vm.findClass "TermOrders$Symbols" = some mg.cls := findClass_of_methodNamed B.named
  have hlocks := B.notSynchronized
  have hl := lv_entry ([.ref o, .int (zI (↑x))]) (n := 3) (Nat.le_of_ble_eq_true rfl)
  rw [lg_entry_eq]
  generalize (lg_sl ([.ref o, .int (zI (↑x))]) ++ List.replicate (3 - (lg_sl ([.ref o, .int (zI (↑x))])).length) Slot.unset).toArray = ls at hl ⊢
  have hl : lv_has ls 3 [(0, .ref o), (1, .int (zI (↑x)))] := hl
  refine lv_iconst (v := zI 0) hx hb qd_S_isAboveAllOthers_0 rfl ?_
  refine lv_istore_n (lv' := [(2, .int (zI (0))), (0, .ref o), (1, .int (zI (↑x)))]) hx hb qd_S_isAboveAllOthers_1 rfl hl (by decide) rfl (fun ls hl => ?_)
  have L2 : ∀ (d9 : Nat) (i : Nat), (i ≤ sy) → (∀ t, t < i → t ≠ x → rk t < rk x) → sy - i = d9 → ∀ ls : Array Slot, lv_has ls 3 [(2, .int (zI (↑i))), (0, .ref o), (1, .int (zI (↑x)))] → W pg l eg (headSpec qw_S_isAboveAllOthers ({ frames := 1, cells := 0, slots := 0, locals := 22 })).room sg mg ([.ref o, .int (zI (↑x))] : List Value).toArray below meth cg sg.heap [] 0 0 (MQ below (rdB (∀ t, t < sy → t ≠ x → rk t < rk x)) ([.ref o, .int (zI (↑x))] : List Value).toArray sg 0 0 (fun _ => False)) (F0 mg 2 ls []) := by
    intro d9
    induction d9 using Nat.strongRecOn with
    | _ d9 ih2 =>
      intro i hi hz hd9 ls hl
      refine lv_iload_n hx hb qd_S_isAboveAllOthers_2 rfl (lv_at hl 0 rfl) ?_
      refine lv_aload_n hx hb qd_S_isAboveAllOthers_3 rfl (lv_at hl 1 rfl) ?_
      refine va_get (D := (dC, dI)) (ci := 0) (v := .int (zI (↑sy))) (C := "TermOrders$Symbols") (T := qT_S) (N := 5) hx hb hg qi_S hown hK hF 0 rfl rfl 4 (by decide) (hg _ wd_39) (fun _ h9 => h9) rfl qd_S_isAboveAllOthers_4 ?_
      refine zz_icmp_ge (tgt := 32) hx hb qd_S_isAboveAllOthers_7 (by decide) (by omega) (by omega) (fun h7 => ?_) (fun h7 => ?_)
      · skip
        refine lv_iconst (v := zI 1) hx hb qd_S_isAboveAllOthers_32 rfl ?_
        exact W.zret (v := zI 1) (ty := .boolean) hx hb hr rfl (fun t9 ht9 _ => ⟨true, rfl, bT ((fun t ht => hz t (by omega))), ht9⟩) t_nil qd_S_isAboveAllOthers_33
      · skip
        refine lv_iload_n hx hb qd_S_isAboveAllOthers_10 rfl (lv_at hl 0 rfl) ?_
        refine lv_iload_n hx hb qd_S_isAboveAllOthers_11 rfl (lv_at hl 2 rfl) ?_
        refine zz_icmp_eq (tgt := 26) hx hb qd_S_isAboveAllOthers_12 (by decide) (by omega) (by omega) (fun h12 => ?_) (fun h12 => ?_)
        · skip
          have hn9 : i ≠ x → rk i < rk x := fun hne => by omega
          refine lv_iinc (k := 0) (lv' := [(2, .int (zI (↑(i + 1)))), (0, .ref o), (1, .int (zI (↑x)))]) hx hb qd_S_isAboveAllOthers_26 hl rfl (zI_inc (v := ↑(i + 1)) (by omega)) (by decide) rfl (fun ls hl => ?_)
          refine lv_goto (tgt := 2) hx hb qd_S_isAboveAllOthers_29 (by decide) ?_
          exact ih2 _ (by omega) (i + 1) (by omega) (fun t ht hne => if hti : t < i then hz t hti hne else (by rw [show t = i by omega] at hne ⊢; exact hn9 hne)) rfl ls hl
        · skip
          refine lv_aload_n hx hb qd_S_isAboveAllOthers_15 rfl (lv_at hl 1 rfl) ?_
          refine lv_iload_n hx hb qd_S_isAboveAllOthers_16 rfl (lv_at hl 2 rfl) ?_
          refine lv_iload_n hx hb qd_S_isAboveAllOthers_17 rfl (lv_at hl 0 rfl) ?_
          refine rd_callB (W.runV (As := [.int (zI (↑x)), .int (zI (↑i))]) (rest := []) ⟨hx, hb, hml, hown, hg⟩ (c_S_isAbove l dC dI cI cZ cT cJ o aA aR aW aV sy ar rk wt sv x i hrk (by omega) (by omega)) ⟨callB_of 2 hg (gw_ok (fun _ h => h) wd_158) rfl rfl rfl (hg _ wd_2) (hg _ wd_155) (by decide +kernel) ⟨Nat.le_of_ble_eq_true rfl, Nat.le_of_ble_eq_true rfl⟩, hg _ wd_157, hg _ se_S_isAbove⟩ (rd_preV (va_recv (q0 := 0) hK hF rfl rfl) (pw_c (q := (o, .inr (0, [.ref aA, .ref aR, .ref aW, .ref aV, .int (zI (↑sy))]))) hF 0 rfl (pw_c (q := (aA, .inl (cI, 5, .inl (zA ar)))) hF 1 rfl (pw_c (q := (aR, .inl (cI, 5, .inl (zA rk)))) hF 2 rfl (pw_c (q := (aW, .inl (cI, 5, .inl (zA wt)))) hF 3 rfl (pw_c (q := (aV, .inl (cI, 5, .inl (zA sv)))) hF 4 rfl (pw_nil)))))) hK hN) rfl rfl hl.1 rfl (lv_room (Nat.le_of_ble_eq_true rfl)) qd_S_isAboveAllOthers_18 ⟨Nat.le_of_ble_eq_true rfl, Nat.le_of_ble_eq_true rfl⟩) (fun r18 hr18 => ?_)
          refine zz_ifneB (tgt := 26) hx hb qd_S_isAboveAllOthers_21 (by decide) (fun h21 => ?_) (fun h21 => ?_)
          · skip
            have hn9 : i ≠ x → rk i < rk x := fun _ => hr18.mp h21
            refine lv_iinc (k := 0) (lv' := [(2, .int (zI (↑(i + 1)))), (0, .ref o), (1, .int (zI (↑x)))]) hx hb qd_S_isAboveAllOthers_26 hl rfl (zI_inc (v := ↑(i + 1)) (by omega)) (by decide) rfl (fun ls hl => ?_)
            refine lv_goto (tgt := 2) hx hb qd_S_isAboveAllOthers_29 (by decide) ?_
            exact ih2 _ (by omega) (i + 1) (by omega) (fun t ht hne => if hti : t < i then hz t hti hne else (by rw [show t = i by omega] at hne ⊢; exact hn9 hne)) rfl ls hl
          · skip
            refine lv_iconst (v := zI 0) hx hb qd_S_isAboveAllOthers_24 rfl ?_
            exact W.zret (v := zI 0) (ty := .boolean) hx hb hr rfl (fun t9 ht9 _ => ⟨false, rfl, bF ((fun hs => by rw [hr18.mpr (hs i (by omega) (by omega))] at h21; exact Bool.noConfusion h21)), ht9⟩) t_nil qd_S_isAboveAllOthers_25
  exact L2 _ 0 (by omega) (fun t ht => by omega) rfl ls hl
set_option maxHeartbeats 4000000 in
set_option maxRecDepth 100000 in
theorem c_S_mayWeighNothing (l : Launch) (dC : Nat → ClassId) (dI : Nat → Nat → Nat) (cI cZ cT cJ : ClassId) (o aA aR aW aV sy : Nat) (ar rk wt sv : Nat → Int) (x : Nat) (hsy : sy ≤ 5) (hrk : ∀ q, q < 5 → 0 ≤ rk q ∧ rk q ≤ 4) (har : ∀ q, q < 5 → 0 ≤ ar q ∧ ar q ≤ 3) (hx5 : x < sy) : Met l qy_S_mayWeighNothing qw_S_mayWeighNothing ({ frames := 2, cells := 0, slots := 0, locals := 44 }) (rdP (dC, dI) qcl (qty cI cZ cT cJ) nwL [(o, .inr (0, [.ref aA, .ref aR, .ref aW, .ref aV, .int (zI (↑sy))])), (aA, .inl (cI, 5, .inl (zA ar))), (aR, .inl (cI, 5, .inl (zA rk))), (aW, .inl (cI, 5, .inl (zA wt))), (aV, .inl (cI, 5, .inl (zA sv)))] [.ref o, .int (zI (↑x))]) (rdB (ar x ≠ 0 ∧ (1 < ar x ∨ ∀ t, t < sy → t ≠ x → rk t < rk x))) 0 0 (fun _ => False) := by
  refine Met.ofW (cc := qc_S_mayWeighNothing) (maxL := 2) (ret := (Option.some Jvm.ClassFile.FieldType.boolean)) (by decide) rfl ?_
  intro pg eg sg mg args below meth cg s₁ B hml hv
  obtain ⟨rfl, hF, hK, hN⟩ := hv
  have hx := B.exec
  have hb := B.bytes
  have hr := B.returns
  have hts := atoms_spec (ws := qw_S_mayWeighNothing) B.pre
  have hg : ∀ w ∈ gw, w.before _ sg = true := fun w h => hts w (List.mem_cons_of_mem _ h)
  have hown : sg.vm.findClass "TermOrders$Symbols" = some mg.cls := findClass_of_methodNamed B.named
  have hlocks := B.notSynchronized
  have hl := lv_entry ([.ref o, .int (zI (↑x))]) (n := 2) (Nat.le_of_ble_eq_true rfl)
  rw [lg_entry_eq]
  generalize (lg_sl ([.ref o, .int (zI (↑x))]) ++ List.replicate (2 - (lg_sl ([.ref o, .int (zI (↑x))])).length) Slot.unset).toArray = ls at hl ⊢
  have hl : lv_has ls 2 [(0, .ref o), (1, .int (zI (↑x)))] := hl
  have hq1 := har x (by omega)
  refine lv_aload_n hx hb qd_S_mayWeighNothing_0 rfl (lv_at hl 0 rfl) ?_
  refine va_get (D := (dC, dI)) (ci := 0) (v := .ref aA) (C := "TermOrders$Symbols") (T := qT_S) (N := 5) hx hb hg qi_S hown hK hF 0 rfl rfl 0 (by decide) (hg _ wd_31) (fun _ h9 => h9) rfl qd_S_mayWeighNothing_1 ?_
  refine lv_iload_n hx hb qd_S_mayWeighNothing_4 rfl (lv_at hl 1 rfl) ?_
  refine zz_iald hx hb hK hF 1 0 rfl rfl x rfl (by omega) (by omega) qd_S_mayWeighNothing_5 ?_
  refine zz_if_ne (tgt := 11) hx hb qd_S_mayWeighNothing_6 (by decide) (by omega) (fun h6 => ?_) (fun h6 => ?_)
  · skip
    refine lv_aload_n hx hb qd_S_mayWeighNothing_11 rfl (lv_at hl 0 rfl) ?_
    refine va_get (D := (dC, dI)) (ci := 0) (v := .ref aA) (C := "TermOrders$Symbols") (T := qT_S) (N := 5) hx hb hg qi_S hown hK hF 0 rfl rfl 0 (by decide) (hg _ wd_31) (fun _ h9 => h9) rfl qd_S_mayWeighNothing_12 ?_
    refine lv_iload_n hx hb qd_S_mayWeighNothing_15 rfl (lv_at hl 1 rfl) ?_
    refine zz_iald hx hb hK hF 1 0 rfl rfl x rfl (by omega) (by omega) qd_S_mayWeighNothing_16 ?_
    refine lv_iconst (v := zI 1) hx hb qd_S_mayWeighNothing_17 rfl ?_
    refine zz_icmp_gt (tgt := 29) hx hb qd_S_mayWeighNothing_18 (by decide) (by omega) (by omega) (fun h18 => ?_) (fun h18 => ?_)
    · skip
      have hy9 : 1 < ar x ∨ ∀ t, t < sy → t ≠ x → rk t < rk x := Or.inl (by omega)
      refine lv_iconst (v := zI 1) hx hb qd_S_mayWeighNothing_29 rfl ?_
      refine lv_goto (tgt := 34) hx hb qd_S_mayWeighNothing_30 (by decide) ?_
      exact W.zret (v := zI 1) (ty := .boolean) hx hb hr rfl (fun t9 ht9 _ => ⟨true, rfl, bT (⟨by omega, hy9⟩), ht9⟩) t_nil qd_S_mayWeighNothing_34
    · skip
      refine lv_aload_n hx hb qd_S_mayWeighNothing_21 rfl (lv_at hl 0 rfl) ?_
      refine lv_iload_n hx hb qd_S_mayWeighNothing_22 rfl (lv_at hl 1 rfl) ?_
      refine rd_callB (W.runV (As := [.int (zI (↑x))]) (rest := []) ⟨hx, hb, hml, hown, hg⟩ (c_S_isAboveAllOthers l dC dI cI cZ cT cJ o aA aR aW aV sy ar rk wt sv x hsy hrk hx5) ⟨callB_of 1 hg (gw_ok (fun _ h => h) wd_154) rfl rfl rfl (hg _ wd_2) (hg _ wd_151) (by decide +kernel) ⟨Nat.le_of_ble_eq_true rfl, Nat.le_of_ble_eq_true rfl⟩, hg _ wd_153, hg _ se_S_isAboveAllOthers⟩ (rd_preV (va_recv (q0 := 0) hK hF rfl rfl) (pw_c (q := (o, .inr (0, [.ref aA, .ref aR, .ref aW, .ref aV, .int (zI (↑sy))]))) hF 0 rfl (pw_c (q := (aA, .inl (cI, 5, .inl (zA ar)))) hF 1 rfl (pw_c (q := (aR, .inl (cI, 5, .inl (zA rk)))) hF 2 rfl (pw_c (q := (aW, .inl (cI, 5, .inl (zA wt)))) hF 3 rfl (pw_c (q := (aV, .inl (cI, 5, .inl (zA sv)))) hF 4 rfl (pw_nil)))))) hK hN) rfl rfl hl.1 rfl (lv_room (Nat.le_of_ble_eq_true rfl)) qd_S_mayWeighNothing_23 ⟨Nat.le_of_ble_eq_true rfl, Nat.le_of_ble_eq_true rfl⟩) (fun r23 hr23 => ?_)
      refine zz_ifeqB (tgt := 33) hx hb qd_S_mayWeighNothing_26 (by decide) (fun h26 => ?_) (fun h26 => ?_)
      · skip
        have hno : ¬ (ar x ≠ 0 ∧ (1 < ar x ∨ ∀ t, t < sy → t ≠ x → rk t < rk x)) := fun hs => hs.2.elim (fun q => by omega) (fun q => by rw [hr23.mpr q] at h26; exact Bool.noConfusion h26)
        refine lv_iconst (v := zI 0) hx hb qd_S_mayWeighNothing_33 rfl ?_
        exact W.zret (v := zI 0) (ty := .boolean) hx hb hr rfl (fun t9 ht9 _ => ⟨false, rfl, bF (hno), ht9⟩) t_nil qd_S_mayWeighNothing_34
      · skip
        have hy9 : 1 < ar x ∨ ∀ t, t < sy → t ≠ x → rk t < rk x := Or.inr (hr23.mp h26)
        refine lv_iconst (v := zI 1) hx hb qd_S_mayWeighNothing_29 rfl ?_
        refine lv_goto (tgt := 34) hx hb qd_S_mayWeighNothing_30 (by decide) ?_
        exact W.zret (v := zI 1) (ty := .boolean) hx hb hr rfl (fun t9 ht9 _ => ⟨true, rfl, bT (⟨by omega, hy9⟩), ht9⟩) t_nil qd_S_mayWeighNothing_34
  · skip
    refine lv_iconst (v := zI 0) hx hb qd_S_mayWeighNothing_9 rfl ?_
    exact W.zret (v := zI 0) (ty := .boolean) hx hb hr rfl (fun t9 ht9 _ => ⟨false, rfl, bF ((fun hs => hs.1 (by omega))), ht9⟩) t_nil qd_S_mayWeighNothing_10
set_option maxHeartbeats 4000000 in
set_option maxRecDepth 100000 in
theorem c_S_haveAdmissibleWeights (l : Launch) (dC : Nat → ClassId) (dI : Nat → Nat → Nat) (cI cZ cT cJ : ClassId) (o aA aR aW aV sy : Nat) (ar rk wt sv : Nat → Int) (hsy : sy ≤ 5) (hrk : ∀ q, q < 5 → 0 ≤ rk q ∧ rk q ≤ 4) (har : ∀ q, q < 5 → 0 ≤ ar q ∧ ar q ≤ 3) (hwt : ∀ q, q < 5 → 0 ≤ wt q ∧ wt q ≤ 9) : Met l qy_S_haveAdmissibleWeights qw_S_haveAdmissibleWeights ({ frames := 3, cells := 0, slots := 0, locals := 65 }) (rdP (dC, dI) qcl (qty cI cZ cT cJ) nwL [(o, .inr (0, [.ref aA, .ref aR, .ref aW, .ref aV, .int (zI (↑sy))])), (aA, .inl (cI, 5, .inl (zA ar))), (aR, .inl (cI, 5, .inl (zA rk))), (aW, .inl (cI, 5, .inl (zA wt))), (aV, .inl (cI, 5, .inl (zA sv)))] [.ref o]) (rdB (∀ x, x < sy → wt x = 0 → ar x ≠ 0 ∧ (1 < ar x ∨ ∀ t, t < sy → t ≠ x → rk t < rk x))) 0 0 (fun _ => False) := by
  refine Met.ofW (cc := qc_S_haveAdmissibleWeights) (maxL := 2) (ret := (Option.some Jvm.ClassFile.FieldType.boolean)) (by decide) rfl ?_
  intro pg eg sg mg args below meth cg s₁ B hml hv
  obtain ⟨rfl, hF, hK, hN⟩ := hv
  have hx := B.exec
  have hb := B.bytes
  have hr := B.returns
  have hts := atoms_spec (ws := qw_S_haveAdmissibleWeights) B.pre
  have hg : ∀ w ∈ gw, w.before _ sg = true := fun w h => hts w (List.mem_cons_of_mem _ h)
  have hown : sg.vm.findClass "TermOrders$Symbols" = some mg.cls := findClass_of_methodNamed B.named
  have hlocks := B.notSynchronized
  have hl := lv_entry ([.ref o]) (n := 2) (Nat.le_of_ble_eq_true rfl)
  rw [lg_entry_eq]
  generalize (lg_sl ([.ref o]) ++ List.replicate (2 - (lg_sl ([.ref o])).length) Slot.unset).toArray = ls at hl ⊢
  have hl : lv_has ls 2 [(0, .ref o)] := hl
  refine lv_iconst (v := zI 0) hx hb qd_S_haveAdmissibleWeights_0 rfl ?_
  refine lv_istore_n (lv' := [(1, .int (zI (0))), (0, .ref o)]) hx hb qd_S_haveAdmissibleWeights_1 rfl hl (by decide) rfl (fun ls hl => ?_)
  have L2 : ∀ (d9 : Nat) (i : Nat), (i ≤ sy) → (∀ x, x < i → wt x = 0 → ar x ≠ 0 ∧ (1 < ar x ∨ ∀ t, t < sy → t ≠ x → rk t < rk x)) → sy - i = d9 → ∀ ls : Array Slot, lv_has ls 2 [(1, .int (zI (↑i))), (0, .ref o)] → W pg l eg (headSpec qw_S_haveAdmissibleWeights ({ frames := 3, cells := 0, slots := 0, locals := 65 })).room sg mg ([.ref o] : List Value).toArray below meth cg sg.heap [] 0 0 (MQ below (rdB (∀ x, x < sy → wt x = 0 → ar x ≠ 0 ∧ (1 < ar x ∨ ∀ t, t < sy → t ≠ x → rk t < rk x))) ([.ref o] : List Value).toArray sg 0 0 (fun _ => False)) (F0 mg 2 ls []) := by
    intro d9
    induction d9 using Nat.strongRecOn with
    | _ d9 ih2 =>
      intro i hi hz hd9 ls hl
      refine lv_iload_n hx hb qd_S_haveAdmissibleWeights_2 rfl (lv_at hl 0 rfl) ?_
      refine lv_aload_n hx hb qd_S_haveAdmissibleWeights_3 rfl (lv_at hl 1 rfl) ?_
      refine va_get (D := (dC, dI)) (ci := 0) (v := .int (zI (↑sy))) (C := "TermOrders$Symbols") (T := qT_S) (N := 5) hx hb hg qi_S hown hK hF 0 rfl rfl 4 (by decide) (hg _ wd_39) (fun _ h9 => h9) rfl qd_S_haveAdmissibleWeights_4 ?_
      refine zz_icmp_ge (tgt := 35) hx hb qd_S_haveAdmissibleWeights_7 (by decide) (by omega) (by omega) (fun h7 => ?_) (fun h7 => ?_)
      · skip
        refine lv_iconst (v := zI 1) hx hb qd_S_haveAdmissibleWeights_35 rfl ?_
        exact W.zret (v := zI 1) (ty := .boolean) hx hb hr rfl (fun t9 ht9 _ => ⟨true, rfl, bT ((fun t ht => hz t (by omega))), ht9⟩) t_nil qd_S_haveAdmissibleWeights_36
      · skip
        refine lv_aload_n hx hb qd_S_haveAdmissibleWeights_10 rfl (lv_at hl 1 rfl) ?_
        refine va_get (D := (dC, dI)) (ci := 0) (v := .ref aW) (C := "TermOrders$Symbols") (T := qT_S) (N := 5) hx hb hg qi_S hown hK hF 0 rfl rfl 2 (by decide) (hg _ wd_36) (fun _ h9 => h9) rfl qd_S_haveAdmissibleWeights_11 ?_
        refine lv_iload_n hx hb qd_S_haveAdmissibleWeights_14 rfl (lv_at hl 0 rfl) ?_
        have hq1 := hwt i (by omega)
        refine zz_iald hx hb hK hF 3 0 rfl rfl i rfl (by omega) (by omega) qd_S_haveAdmissibleWeights_15 ?_
        refine zz_if_ne (tgt := 29) hx hb qd_S_haveAdmissibleWeights_16 (by decide) (by omega) (fun h16 => ?_) (fun h16 => ?_)
        · skip
          have hn9 : wt i = 0 → ar i ≠ 0 ∧ (1 < ar i ∨ ∀ t, t < sy → t ≠ i → rk t < rk i) := fun hw => by omega
          refine lv_iinc (k := 0) (lv' := [(1, .int (zI (↑(i + 1)))), (0, .ref o)]) hx hb qd_S_haveAdmissibleWeights_29 hl rfl (zI_inc (v := ↑(i + 1)) (by omega)) (by decide) rfl (fun ls hl => ?_)
          refine lv_goto (tgt := 2) hx hb qd_S_haveAdmissibleWeights_32 (by decide) ?_
          exact ih2 _ (by omega) (i + 1) (by omega) (fun t ht hw => if hti : t < i then hz t hti hw else (by have e9 : t = i := (by omega); subst e9; exact hn9 hw)) rfl ls hl
        · skip
          refine lv_aload_n hx hb qd_S_haveAdmissibleWeights_19 rfl (lv_at hl 1 rfl) ?_
          refine lv_iload_n hx hb qd_S_haveAdmissibleWeights_20 rfl (lv_at hl 0 rfl) ?_
          refine rd_callB (W.runV (As := [.int (zI (↑i))]) (rest := []) ⟨hx, hb, hml, hown, hg⟩ (c_S_mayWeighNothing l dC dI cI cZ cT cJ o aA aR aW aV sy ar rk wt sv i hsy hrk har (by omega)) ⟨callB_of 1 hg (gw_ok (fun _ h => h) wd_150) rfl rfl rfl (hg _ wd_2) (hg _ wd_147) (by decide +kernel) ⟨Nat.le_of_ble_eq_true rfl, Nat.le_of_ble_eq_true rfl⟩, hg _ wd_149, hg _ se_S_mayWeighNothing⟩ (rd_preV (va_recv (q0 := 0) hK hF rfl rfl) (pw_c (q := (o, .inr (0, [.ref aA, .ref aR, .ref aW, .ref aV, .int (zI (↑sy))]))) hF 0 rfl (pw_c (q := (aA, .inl (cI, 5, .inl (zA ar)))) hF 1 rfl (pw_c (q := (aR, .inl (cI, 5, .inl (zA rk)))) hF 2 rfl (pw_c (q := (aW, .inl (cI, 5, .inl (zA wt)))) hF 3 rfl (pw_c (q := (aV, .inl (cI, 5, .inl (zA sv)))) hF 4 rfl (pw_nil)))))) hK hN) rfl rfl hl.1 rfl (lv_room (Nat.le_of_ble_eq_true rfl)) qd_S_haveAdmissibleWeights_21 ⟨Nat.le_of_ble_eq_true rfl, Nat.le_of_ble_eq_true rfl⟩) (fun r21 hr21 => ?_)
          refine zz_ifneB (tgt := 29) hx hb qd_S_haveAdmissibleWeights_24 (by decide) (fun h24 => ?_) (fun h24 => ?_)
          · skip
            have hn9 : wt i = 0 → ar i ≠ 0 ∧ (1 < ar i ∨ ∀ t, t < sy → t ≠ i → rk t < rk i) := fun _ => hr21.mp h24
            refine lv_iinc (k := 0) (lv' := [(1, .int (zI (↑(i + 1)))), (0, .ref o)]) hx hb qd_S_haveAdmissibleWeights_29 hl rfl (zI_inc (v := ↑(i + 1)) (by omega)) (by decide) rfl (fun ls hl => ?_)
            refine lv_goto (tgt := 2) hx hb qd_S_haveAdmissibleWeights_32 (by decide) ?_
            exact ih2 _ (by omega) (i + 1) (by omega) (fun t ht hw => if hti : t < i then hz t hti hw else (by have e9 : t = i := (by omega); subst e9; exact hn9 hw)) rfl ls hl
          · skip
            refine lv_iconst (v := zI 0) hx hb qd_S_haveAdmissibleWeights_27 rfl ?_
            exact W.zret (v := zI 0) (ty := .boolean) hx hb hr rfl (fun t9 ht9 _ => ⟨false, rfl, bF ((fun hs => by rw [hr21.mpr (hs i (by omega) h16)] at h24; exact Bool.noConfusion h24)), ht9⟩) t_nil qd_S_haveAdmissibleWeights_28
  exact L2 _ 0 (by omega) (fun t ht => by omega) rfl ls hl
set_option maxHeartbeats 4000000 in
set_option maxRecDepth 100000 in
theorem c_S_weightOfPlace (l : Launch) (dC : Nat → ClassId) (dI : Nat → Nat → Nat) (cI cZ cT cJ : ClassId) (o aA aR aW aV sy : Nat) (ar rk wt sv : Nat → Int) (a aH aP aE n : Nat) (th tm : Nat → Int) (te : Nat → Nat) (tg : Int) (p : Nat) (hwt : ∀ q, q < 5 → 0 ≤ wt q ∧ wt q ≤ 9) (h16 : n ≤ 16) (hh : ∀ q, q < n → -4 ≤ th q ∧ th q ≤ 4) (we : wfE tm n te) (hp : p < n) : Met l qy_S_weightOfPlace qw_S_weightOfPlace ({ frames := 1, cells := 0, slots := 0, locals := 21 }) (rdP (dC, dI) qcl (qty cI cZ cT cJ) nwL [(o, .inr (0, [.ref aA, .ref aR, .ref aW, .ref aV, .int (zI (↑sy))])), (aA, .inl (cI, 5, .inl (zA ar))), (aR, .inl (cI, 5, .inl (zA rk))), (aW, .inl (cI, 5, .inl (zA wt))), (aV, .inl (cI, 5, .inl (zA sv))), (a, .inr (1, [.ref aH, .ref aP, .ref aE, .int (zI (↑n)), .int (zI (tg))])), (aH, .inl (cI, n, .inl (zA th))), (aP, .inl (cI, n, .inl (zA tm))), (aE, .inl (cI, n, .inl (zA (eI te))))] [.ref o, .ref a, .int (zI (↑p))]) (rdI (fun r => r = wsum th wt p (te p - p))) 0 0 (fun _ => False) := by
  refine Met.ofW (cc := qc_S_weightOfPlace) (maxL := 5) (ret := (Option.some Jvm.ClassFile.FieldType.int)) (by decide) rfl ?_
  intro pg eg sg mg args below meth cg s₁ B hml hv
  obtain ⟨rfl, hF, hK, hN⟩ := hv
  have hx := B.exec
  have hb := B.bytes
  have hr := B.returns
  have hts := atoms_spec (ws := qw_S_weightOfPlace) B.pre
  have hg : ∀ w ∈ gw, w.before _ sg = true := fun w h => hts w (List.mem_cons_of_mem _ h)
  have hown : sg.vm.findClass "TermOrders$Symbols" = some mg.cls := findClass_of_methodNamed B.named
  have hlocks := B.notSynchronized
  have hl := lv_entry ([.ref o, .ref a, .int (zI (↑p))]) (n := 5) (Nat.le_of_ble_eq_true rfl)
  rw [lg_entry_eq]
  generalize (lg_sl ([.ref o, .ref a, .int (zI (↑p))]) ++ List.replicate (5 - (lg_sl ([.ref o, .ref a, .int (zI (↑p))])).length) Slot.unset).toArray = ls at hl ⊢
  have hl : lv_has ls 5 [(0, .ref o), (1, .ref a), (2, .int (zI (↑p)))] := hl
  obtain ⟨w1, w2, w3, w4⟩ := we p hp
  refine lv_iconst (v := zI 0) hx hb qd_S_weightOfPlace_0 rfl ?_
  refine lv_istore_n (lv' := [(3, .int (zI (0))), (0, .ref o), (1, .ref a), (2, .int (zI (↑p)))]) hx hb qd_S_weightOfPlace_1 rfl hl (by decide) rfl (fun ls hl => ?_)
  refine lv_iload_n hx hb qd_S_weightOfPlace_2 rfl (lv_at hl 3 rfl) ?_
  refine lv_istore (lv' := [(4, .int (zI (↑p))), (3, .int (zI (0))), (0, .ref o), (1, .ref a), (2, .int (zI (↑p)))]) hx hb qd_S_weightOfPlace_3 hl (by decide) rfl (fun ls hl => ?_)
  have L5 : ∀ (d9 : Nat) (i : Nat), (i ≤ te p - p) → te p - p - i = d9 → ∀ ls : Array Slot, lv_has ls 5 [(4, .int (zI (↑(p + i)))), (3, .int (zI (wsum th wt p i))), (0, .ref o), (1, .ref a), (2, .int (zI (↑p)))] → W pg l eg (headSpec qw_S_weightOfPlace ({ frames := 1, cells := 0, slots := 0, locals := 21 })).room sg mg ([.ref o, .ref a, .int (zI (↑p))] : List Value).toArray below meth cg sg.heap [] 0 0 (MQ below (rdI (fun r => r = wsum th wt p (te p - p))) ([.ref o, .ref a, .int (zI (↑p))] : List Value).toArray sg 0 0 (fun _ => False)) (F0 mg 5 ls []) := by
    intro d9
    induction d9 using Nat.strongRecOn with
    | _ d9 ih5 =>
      intro i hi hd9 ls hl
      refine lv_iload hx hb qd_S_weightOfPlace_5 (lv_at hl 0 rfl) ?_
      refine lv_aload_n hx hb qd_S_weightOfPlace_7 rfl (lv_at hl 3 rfl) ?_
      refine va_getN (D := (dC, dI)) (ci := 1) (v := .ref aE) (C := "TermOrders$Term") (T := qT_T) (N := 5) hx hb hg qi_T hown hK hF 5 rfl rfl 2 (by decide) (va_Nw.use rfl (hN.use nw_335)) (fun _ h9 => h9) rfl qd_S_weightOfPlace_8 ?_
      refine lv_iload_n hx hb qd_S_weightOfPlace_11 rfl (lv_at hl 4 rfl) ?_
      refine zz_eald hx hb hK hF 8 0 rfl rfl p rfl (by omega) (by omega) qd_S_weightOfPlace_12 ?_
      refine zz_icmp_ge (tgt := 50) hx hb qd_S_weightOfPlace_13 (by decide) (by omega) (by omega) (fun h13 => ?_) (fun h13 => ?_)
      · skip
        refine lv_iload_n hx hb qd_S_weightOfPlace_50 rfl (lv_at hl 1 rfl) ?_
        exact W.iret (v := zI (wsum th wt p i)) hx hb hr (fun t9 ht9 _ => ⟨wsum th wt p i, rfl, (by rw [show i = te p - p by omega]), ht9⟩) t_nil qd_S_weightOfPlace_51
      · skip
        refine lv_iload_n hx hb qd_S_weightOfPlace_16 rfl (lv_at hl 1 rfl) ?_
        refine lv_aload_n hx hb qd_S_weightOfPlace_17 rfl (lv_at hl 3 rfl) ?_
        refine lv_iload hx hb qd_S_weightOfPlace_18 (lv_at hl 0 rfl) ?_
        have hq1 := hh (p + i) (by omega)
        refine rd_callB (va_runVN (As := [.int (zI (↑(p + i)))]) (rest := [.int (zI (wsum th wt p i))]) ⟨hx, hb, hml, hown, hg⟩ (c_T_isVariable l dC dI cI cZ cT cJ a aH aP aE n th tm te tg (p + i) h16 hh (by omega)) ⟨va_cnB 1 hg (gw_ok (fun _ h => h) wd_388) rfl rfl rfl (hN.use nw_480) (hg _ wd_13) (by decide +kernel) ⟨Nat.le_of_ble_eq_true rfl, Nat.le_of_ble_eq_true rfl⟩, hg _ wd_387, hg _ se_T_isVariable⟩ (rd_preV (va_recv (q0 := 5) hK hF rfl rfl) (pw_c (q := (a, .inr (1, [.ref aH, .ref aP, .ref aE, .int (zI (↑n)), .int (zI (tg))]))) hF 5 rfl (pw_c (q := (aH, .inl (cI, n, .inl (zA th)))) hF 6 rfl (pw_c (q := (aP, .inl (cI, n, .inl (zA tm)))) hF 7 rfl (pw_c (q := (aE, .inl (cI, n, .inl (zA (eI te))))) hF 8 rfl (pw_nil))))) hK hN) rfl rfl hl.1 rfl (lv_room (Nat.le_of_ble_eq_true rfl)) qd_S_weightOfPlace_20 ⟨Nat.le_of_ble_eq_true rfl, Nat.le_of_ble_eq_true rfl⟩).run (fun r20 hr20 => ?_)
        refine zz_ifeqB (tgt := 30) hx hb qd_S_weightOfPlace_23 (by decide) (fun h23 => ?_) (fun h23 => ?_)
        · skip
          have hv9 : ¬ th (p + i) < 0 := fun q => by rw [hr20.mpr q] at h23; exact Bool.noConfusion h23
          refine lv_aload_n hx hb qd_S_weightOfPlace_30 rfl (lv_at hl 2 rfl) ?_
          refine va_get (D := (dC, dI)) (ci := 0) (v := .ref aW) (C := "TermOrders$Symbols") (T := qT_S) (N := 5) hx hb hg qi_S hown hK hF 0 rfl rfl 2 (by decide) (hg _ wd_36) (fun _ h9 => h9) rfl qd_S_weightOfPlace_31 ?_
          refine lv_aload_n hx hb qd_S_weightOfPlace_34 rfl (lv_at hl 3 rfl) ?_
          refine va_getN (D := (dC, dI)) (ci := 1) (v := .ref aH) (C := "TermOrders$Term") (T := qT_T) (N := 5) hx hb hg qi_T hown hK hF 5 rfl rfl 0 (by decide) (va_Nw.use rfl (hN.use nw_327)) (fun _ h9 => h9) rfl qd_S_weightOfPlace_35 ?_
          refine lv_iload hx hb qd_S_weightOfPlace_38 (lv_at hl 0 rfl) ?_
          refine zz_iald hx hb hK hF 6 0 rfl rfl (p + i) rfl (by omega) (by omega) qd_S_weightOfPlace_40 ?_
          refine zz_iald hx hb hK hF 3 0 rfl rfl ((th (p + i)).toNat) (by omega) (by omega) (by omega) qd_S_weightOfPlace_41 ?_
          refine zz_iadd hx hb ((wsum th wt p i) + (wt ((th (p + i)).toNat))) rfl qd_S_weightOfPlace_42 ?_
          refine lv_istore_n (lv' := [(3, .int (zI ((wsum th wt p i) + (wt ((th (p + i)).toNat))))), (4, .int (zI (↑(p + i)))), (0, .ref o), (1, .ref a), (2, .int (zI (↑p)))]) hx hb qd_S_weightOfPlace_43 rfl hl (by decide) rfl (fun ls hl => ?_)
          refine lv_iinc (k := 1) (lv' := [(4, .int (zI (↑(p + (i + 1))))), (3, .int (zI ((wsum th wt p i) + (wt ((th (p + i)).toNat))))), (0, .ref o), (1, .ref a), (2, .int (zI (↑p)))]) hx hb qd_S_weightOfPlace_44 hl rfl (zI_inc (v := ↑(p + (i + 1))) (by omega)) (by decide) rfl (fun ls hl => ?_)
          refine lv_goto (tgt := 5) hx hb qd_S_weightOfPlace_47 (by decide) ?_
          have q9 : (wsum th wt p i) + (wt ((th (p + i)).toNat)) = wsum th wt p (i + 1) := (by simp only [wsum]; first | rw [if_pos hv9] | rw [if_neg hv9])
          have hl : lv_has ls 5 [(4, .int (zI (↑(p + (i + 1))))), (3, .int (zI (wsum th wt p (i + 1)))), (0, .ref o), (1, .ref a), (2, .int (zI (↑p)))] := by have h8 := hl; rw [q9] at h8; exact h8
          exact ih5 _ (by omega) (i + 1) (by omega) rfl ls hl
        · skip
          have hv9 : th (p + i) < 0 := hr20.mp h23
          refine lv_iconst (v := zI 1) hx hb qd_S_weightOfPlace_26 rfl ?_
          refine lv_goto (tgt := 42) hx hb qd_S_weightOfPlace_27 (by decide) ?_
          refine zz_iadd hx hb ((wsum th wt p i) + 1) rfl qd_S_weightOfPlace_42 ?_
          refine lv_istore_n (lv' := [(3, .int (zI ((wsum th wt p i) + 1))), (4, .int (zI (↑(p + i)))), (0, .ref o), (1, .ref a), (2, .int (zI (↑p)))]) hx hb qd_S_weightOfPlace_43 rfl hl (by decide) rfl (fun ls hl => ?_)
          refine lv_iinc (k := 1) (lv' := [(4, .int (zI (↑(p + (i + 1))))), (3, .int (zI ((wsum th wt p i) + 1))), (0, .ref o), (1, .ref a), (2, .int (zI (↑p)))]) hx hb qd_S_weightOfPlace_44 hl rfl (zI_inc (v := ↑(p + (i + 1))) (by omega)) (by decide) rfl (fun ls hl => ?_)
          refine lv_goto (tgt := 5) hx hb qd_S_weightOfPlace_47 (by decide) ?_
          have q9 : (wsum th wt p i) + 1 = wsum th wt p (i + 1) := (by simp only [wsum]; first | rw [if_pos hv9] | rw [if_neg hv9])
          have hl : lv_has ls 5 [(4, .int (zI (↑(p + (i + 1))))), (3, .int (zI (wsum th wt p (i + 1)))), (0, .ref o), (1, .ref a), (2, .int (zI (↑p)))] := by have h8 := hl; rw [q9] at h8; exact h8
          exact ih5 _ (by omega) (i + 1) (by omega) rfl ls hl
  exact L5 _ 0 (by omega) rfl ls hl
set_option maxHeartbeats 4000000 in
set_option maxRecDepth 100000 in
theorem c_S_lastBelowItsNext (l : Launch) (dC : Nat → ClassId) (dI : Nat → Nat → Nat) (cI cZ cT cJ : ClassId) (o aA aR aW aV sy : Nat) (ar rk wt sv : Nat → Int) (hsy : sy ≤ 5) (hrk : ∀ q, q < 5 → 0 ≤ rk q ∧ rk q ≤ 4) : Met l qy_S_lastBelowItsNext qw_S_lastBelowItsNext ({ frames := 1, cells := 0, slots := 0, locals := 22 }) (rdP (dC, dI) qcl (qty cI cZ cT cJ) nwL [(o, .inr (0, [.ref aA, .ref aR, .ref aW, .ref aV, .int (zI (↑sy))])), (aA, .inl (cI, 5, .inl (zA ar))), (aR, .inl (cI, 5, .inl (zA rk))), (aW, .inl (cI, 5, .inl (zA wt))), (aV, .inl (cI, 5, .inl (zA sv)))] [.ref o]) (rdI (fun r => (∃ k : Nat, r = ↑k ∧ k + 1 < sy ∧ rk k < rk (k + 1) ∧ ∀ q, k < q → q + 1 < sy → ¬ rk q < rk (q + 1)) ∨ (r = -1 ∧ ∀ q, q + 1 < sy → ¬ rk q < rk (q + 1)))) 0 0 (fun _ => False) := by
  refine Met.ofW (cc := qc_S_lastBelowItsNext) (maxL := 2) (ret := (Option.some Jvm.ClassFile.FieldType.int)) (by decide) rfl ?_
  intro pg eg sg mg args below meth cg s₁ B hml hv
  obtain ⟨rfl, hF, hK, hN⟩ := hv
  have hx := B.exec
  have hb := B.bytes
  have hr := B.returns
  have hts := atoms_spec (ws := qw_S_lastBelowItsNext) B.pre
  have hg : ∀ w ∈ gw, w.before _ sg = true := fun w h => hts w (List.mem_cons_of_mem _ h)
  have hown : sg.vm.findClass "TermOrders$Symbols" = some mg.cls := findClass_of_methodNamed B.named
  have hlocks := B.notSynchronized
  have hl := lv_entry ([.ref o]) (n := 2) (Nat.le_of_ble_eq_true rfl)
  rw [lg_entry_eq]
  generalize (lg_sl ([.ref o]) ++ List.replicate (2 - (lg_sl ([.ref o])).length) Slot.unset).toArray = ls at hl ⊢
  have hl : lv_has ls 2 [(0, .ref o)] := hl
  refine lv_aload_n hx hb qd_S_lastBelowItsNext_0 rfl (lv_at hl 0 rfl) ?_
  refine va_get (D := (dC, dI)) (ci := 0) (v := .int (zI (↑sy))) (C := "TermOrders$Symbols") (T := qT_S) (N := 5) hx hb hg qi_S hown hK hF 0 rfl rfl 4 (by decide) (hg _ wd_39) (fun _ h9 => h9) rfl qd_S_lastBelowItsNext_1 ?_
  refine lv_iconst (v := zI 2) hx hb qd_S_lastBelowItsNext_4 rfl ?_
  refine zz_isub hx hb ((↑sy) - 2) rfl qd_S_lastBelowItsNext_5 ?_
  refine lv_istore_n (lv' := [(1, .int (zI ((↑sy) - 2))), (0, .ref o)]) hx hb qd_S_lastBelowItsNext_6 rfl hl (by decide) rfl (fun ls hl => ?_)
  have L7 : ∀ (d9 : Nat) (j : Int), (-2 ≤ j ∧ j + 2 ≤ sy) → (∀ q : Nat, j < q → q + 1 < sy → ¬ rk q < rk (q + 1)) → (j + 2).toNat = d9 → ∀ ls : Array Slot, lv_has ls 2 [(1, .int (zI (j))), (0, .ref o)] → W pg l eg (headSpec qw_S_lastBelowItsNext ({ frames := 1, cells := 0, slots := 0, locals := 22 })).room sg mg ([.ref o] : List Value).toArray below meth cg sg.heap [] 0 0 (MQ below (rdI (fun r => (∃ k : Nat, r = ↑k ∧ k + 1 < sy ∧ rk k < rk (k + 1) ∧ ∀ q, k < q → q + 1 < sy → ¬ rk q < rk (q + 1)) ∨ (r = -1 ∧ ∀ q, q + 1 < sy → ¬ rk q < rk (q + 1)))) ([.ref o] : List Value).toArray sg 0 0 (fun _ => False)) (F0 mg 7 ls []) := by
    intro d9
    induction d9 using Nat.strongRecOn with
    | _ d9 ih7 =>
      intro j hi hz hd9 ls hl
      refine lv_iload_n hx hb qd_S_lastBelowItsNext_7 rfl (lv_at hl 0 rfl) ?_
      refine zz_if_lt (tgt := 30) hx hb qd_S_lastBelowItsNext_8 (by decide) (by omega) (fun h8 => ?_) (fun h8 => ?_)
      · skip
        refine lv_iconst (v := zI (-1)) hx hb qd_S_lastBelowItsNext_30 rfl ?_
        exact W.iret (v := zI ((-1))) hx hb hr (fun t9 ht9 _ => ⟨(-1), rfl, (Or.inr ⟨rfl, fun q h2 => hz q (by omega) h2⟩), ht9⟩) t_nil qd_S_lastBelowItsNext_31
      · skip
        obtain ⟨i, rfl⟩ : ∃ i : Nat, j = ↑i := ⟨j.toNat, by omega⟩
        refine lv_aload_n hx hb qd_S_lastBelowItsNext_11 rfl (lv_at hl 1 rfl) ?_
        refine lv_iload_n hx hb qd_S_lastBelowItsNext_12 rfl (lv_at hl 0 rfl) ?_
        refine lv_iconst (v := zI 1) hx hb qd_S_lastBelowItsNext_13 rfl ?_
        refine zz_iadd hx hb (↑(i + 1)) (by omega) qd_S_lastBelowItsNext_14 ?_
        refine lv_iload_n hx hb qd_S_lastBelowItsNext_15 rfl (lv_at hl 0 rfl) ?_
        refine rd_callB (W.runV (As := [.int (zI (↑(i + 1))), .int (zI (↑i))]) (rest := []) ⟨hx, hb, hml, hown, hg⟩ (c_S_isAbove l dC dI cI cZ cT cJ o aA aR aW aV sy ar rk wt sv (i + 1) i hrk (by omega) (by omega)) ⟨callB_of 2 hg (gw_ok (fun _ h => h) wd_158) rfl rfl rfl (hg _ wd_2) (hg _ wd_155) (by decide +kernel) ⟨Nat.le_of_ble_eq_true rfl, Nat.le_of_ble_eq_true rfl⟩, hg _ wd_157, hg _ se_S_isAbove⟩ (rd_preV (va_recv (q0 := 0) hK hF rfl rfl) (pw_c (q := (o, .inr (0, [.ref aA, .ref aR, .ref aW, .ref aV, .int (zI (↑sy))]))) hF 0 rfl (pw_c (q := (aA, .inl (cI, 5, .inl (zA ar)))) hF 1 rfl (pw_c (q := (aR, .inl (cI, 5, .inl (zA rk)))) hF 2 rfl (pw_c (q := (aW, .inl (cI, 5, .inl (zA wt)))) hF 3 rfl (pw_c (q := (aV, .inl (cI, 5, .inl (zA sv)))) hF 4 rfl (pw_nil)))))) hK hN) rfl rfl hl.1 rfl (lv_room (Nat.le_of_ble_eq_true rfl)) qd_S_lastBelowItsNext_16 ⟨Nat.le_of_ble_eq_true rfl, Nat.le_of_ble_eq_true rfl⟩) (fun r16 hr16 => ?_)
        refine zz_ifeqB (tgt := 24) hx hb qd_S_lastBelowItsNext_19 (by decide) (fun h19 => ?_) (fun h19 => ?_)
        · skip
          refine lv_iinc (k := 0) (lv' := [(1, .int (zI (↑i - 1))), (0, .ref o)]) hx hb qd_S_lastBelowItsNext_24 hl rfl (zI_inc (v := ↑i - 1) (by omega)) (by decide) rfl (fun ls hl => ?_)
          refine lv_goto (tgt := 7) hx hb qd_S_lastBelowItsNext_27 (by decide) ?_
          exact ih7 _ (by omega) (↑i - 1) (by omega) (fun q h1 h2 => if hqi : i < q then hz q (by omega) h2 else (by rw [show q = i by omega]; exact fun hlt => by rw [hr16.mpr hlt] at h19; exact Bool.noConfusion h19)) rfl ls hl
        · skip
          refine lv_iload_n hx hb qd_S_lastBelowItsNext_22 rfl (lv_at hl 0 rfl) ?_
          exact W.iret (v := zI ((↑i))) hx hb hr (fun t9 ht9 _ => ⟨(↑i), rfl, (Or.inl ⟨i, rfl, by omega, hr16.mp h19, fun q h1 h2 => hz q (by omega) h2⟩), ht9⟩) t_nil qd_S_lastBelowItsNext_23
  exact L7 _ (↑sy - 2) (by omega) (fun q h1 h2 => by omega) rfl ls hl
set_option maxHeartbeats 4000000 in
set_option maxRecDepth 100000 in
theorem c_S_lastAbove (l : Launch) (dC : Nat → ClassId) (dI : Nat → Nat → Nat) (cI cZ cT cJ : ClassId) (o aA aR aW aV sy : Nat) (ar rk wt sv : Nat → Int) (x : Nat) (hsy : sy ≤ 5) (hrk : ∀ q, q < 5 → 0 ≤ rk q ∧ rk q ≤ 4) (hx5 : x + 1 < sy) (hup : rk x < rk (x + 1)) : Met l qy_S_lastAbove qw_S_lastAbove ({ frames := 1, cells := 0, slots := 0, locals := 22 }) (rdP (dC, dI) qcl (qty cI cZ cT cJ) nwL [(o, .inr (0, [.ref aA, .ref aR, .ref aW, .ref aV, .int (zI (↑sy))])), (aA, .inl (cI, 5, .inl (zA ar))), (aR, .inl (cI, 5, .inl (zA rk))), (aW, .inl (cI, 5, .inl (zA wt))), (aV, .inl (cI, 5, .inl (zA sv)))] [.ref o, .int (zI (↑x))]) (rdI (fun r => ∃ t : Nat, r = ↑t ∧ x < t ∧ t < sy ∧ rk x < rk t ∧ ∀ q, t < q → q < sy → ¬ rk x < rk q)) 0 0 (fun _ => False) := by
  refine Met.ofW (cc := qc_S_lastAbove) (maxL := 3) (ret := (Option.some Jvm.ClassFile.FieldType.int)) (by decide) rfl ?_
  intro pg eg sg mg args below meth cg s₁ B hml hv
  obtain ⟨rfl, hF, hK, hN⟩ := hv
  have hx := B.exec
  have hb := B.bytes
  have hr := B.returns
  have hts := atoms_spec (ws := qw_S_lastAbove) B.pre
  have hg : ∀ w ∈ gw, w.before _ sg = true := fun w h => hts w (List.mem_cons_of_mem _ h)
  have hown : sg.vm.findClass "TermOrders$Symbols" = some mg.cls := findClass_of_methodNamed B.named
  have hlocks := B.notSynchronized
  have hl := lv_entry ([.ref o, .int (zI (↑x))]) (n := 3) (Nat.le_of_ble_eq_true rfl)
  rw [lg_entry_eq]
  generalize (lg_sl ([.ref o, .int (zI (↑x))]) ++ List.replicate (3 - (lg_sl ([.ref o, .int (zI (↑x))])).length) Slot.unset).toArray = ls at hl ⊢
  have hl : lv_has ls 3 [(0, .ref o), (1, .int (zI (↑x)))] := hl
  refine lv_aload_n hx hb qd_S_lastAbove_0 rfl (lv_at hl 0 rfl) ?_
  refine va_get (D := (dC, dI)) (ci := 0) (v := .int (zI (↑sy))) (C := "TermOrders$Symbols") (T := qT_S) (N := 5) hx hb hg qi_S hown hK hF 0 rfl rfl 4 (by decide) (hg _ wd_39) (fun _ h9 => h9) rfl qd_S_lastAbove_1 ?_
  refine lv_iconst (v := zI 1) hx hb qd_S_lastAbove_4 rfl ?_
  refine zz_isub hx hb (↑(sy - 1)) (by omega) qd_S_lastAbove_5 ?_
  refine lv_istore_n (lv' := [(2, .int (zI (↑(sy - 1)))), (0, .ref o), (1, .int (zI (↑x)))]) hx hb qd_S_lastAbove_6 rfl hl (by decide) rfl (fun ls hl => ?_)
  have L7 : ∀ (d9 : Nat) (t : Nat), (x < t ∧ t < sy) → (∀ q, t < q → q < sy → ¬ rk x < rk q) → t = d9 → ∀ ls : Array Slot, lv_has ls 3 [(2, .int (zI (↑t))), (0, .ref o), (1, .int (zI (↑x)))] → W pg l eg (headSpec qw_S_lastAbove ({ frames := 1, cells := 0, slots := 0, locals := 22 })).room sg mg ([.ref o, .int (zI (↑x))] : List Value).toArray below meth cg sg.heap [] 0 0 (MQ below (rdI (fun r => ∃ t : Nat, r = ↑t ∧ x < t ∧ t < sy ∧ rk x < rk t ∧ ∀ q, t < q → q < sy → ¬ rk x < rk q)) ([.ref o, .int (zI (↑x))] : List Value).toArray sg 0 0 (fun _ => False)) (F0 mg 7 ls []) := by
    intro d9
    induction d9 using Nat.strongRecOn with
    | _ d9 ih7 =>
      intro t hi hz hd9 ls hl
      refine lv_iload_n hx hb qd_S_lastAbove_7 rfl (lv_at hl 0 rfl) ?_
      refine lv_iload_n hx hb qd_S_lastAbove_8 rfl (lv_at hl 2 rfl) ?_
      refine zz_icmp_le (tgt := 27) hx hb qd_S_lastAbove_9 (by decide) (by omega) (by omega) (fun h9 => ?_) (fun h9 => ?_)
      · skip
        omega
      · skip
        refine lv_aload_n hx hb qd_S_lastAbove_12 rfl (lv_at hl 1 rfl) ?_
        refine lv_iload_n hx hb qd_S_lastAbove_13 rfl (lv_at hl 0 rfl) ?_
        refine lv_iload_n hx hb qd_S_lastAbove_14 rfl (lv_at hl 2 rfl) ?_
        refine rd_callB (W.runV (As := [.int (zI (↑t)), .int (zI (↑x))]) (rest := []) ⟨hx, hb, hml, hown, hg⟩ (c_S_isAbove l dC dI cI cZ cT cJ o aA aR aW aV sy ar rk wt sv t x hrk (by omega) (by omega)) ⟨callB_of 2 hg (gw_ok (fun _ h => h) wd_158) rfl rfl rfl (hg _ wd_2) (hg _ wd_155) (by decide +kernel) ⟨Nat.le_of_ble_eq_true rfl, Nat.le_of_ble_eq_true rfl⟩, hg _ wd_157, hg _ se_S_isAbove⟩ (rd_preV (va_recv (q0 := 0) hK hF rfl rfl) (pw_c (q := (o, .inr (0, [.ref aA, .ref aR, .ref aW, .ref aV, .int (zI (↑sy))]))) hF 0 rfl (pw_c (q := (aA, .inl (cI, 5, .inl (zA ar)))) hF 1 rfl (pw_c (q := (aR, .inl (cI, 5, .inl (zA rk)))) hF 2 rfl (pw_c (q := (aW, .inl (cI, 5, .inl (zA wt)))) hF 3 rfl (pw_c (q := (aV, .inl (cI, 5, .inl (zA sv)))) hF 4 rfl (pw_nil)))))) hK hN) rfl rfl hl.1 rfl (lv_room (Nat.le_of_ble_eq_true rfl)) qd_S_lastAbove_15 ⟨Nat.le_of_ble_eq_true rfl, Nat.le_of_ble_eq_true rfl⟩) (fun r15 hr15 => ?_)
        refine zz_ifneB (tgt := 27) hx hb qd_S_lastAbove_18 (by decide) (fun h18 => ?_) (fun h18 => ?_)
        · skip
          refine lv_iload_n hx hb qd_S_lastAbove_27 rfl (lv_at hl 0 rfl) ?_
          exact W.iret (v := zI (↑t)) hx hb hr (fun t9 ht9 _ => ⟨↑t, rfl, ⟨t, rfl, by omega, by omega, hr15.mp h18, hz⟩, ht9⟩) t_nil qd_S_lastAbove_28
        · skip
          refine lv_iinc (k := 0) (lv' := [(2, .int (zI (↑(t - 1)))), (0, .ref o), (1, .int (zI (↑x)))]) hx hb qd_S_lastAbove_21 hl rfl (zI_inc (v := ↑(t - 1)) (by omega)) (by decide) rfl (fun ls hl => ?_)
          refine lv_goto (tgt := 7) hx hb qd_S_lastAbove_24 (by decide) ?_
          have h8 : t ≠ x + 1 := fun q => by rw [← q] at hup; rw [hr15.mpr hup] at h18; exact Bool.noConfusion h18
          exact ih7 _ (by omega) (t - 1) (by omega) (fun q h1 h2 => if hqt : t < q then hz q hqt h2 else (by rw [show q = t by omega]; exact fun hlt => by rw [hr15.mpr hlt] at h18; exact Bool.noConfusion h18)) rfl ls hl
  exact L7 _ (sy - 1) (by omega) (fun q h1 h2 => by omega) rfl ls hl
