theorem dg_of {n w : Nat} {rk : Nat → Int} {q : Nat} (hq : q < n) : rkW n w rk q = ↑(dg n w q) := by unfold rkW; rw [if_pos hq]
theorem nx_of {n w : Nat} {rk : Nat → Int} {x t : Nat} (hx : x + 1 < n) (ht : t < n) (j : Nat) (hj : j < n) : nxI (rkW n w rk) n x t j = ↑(nxD (dg n w) n x t j) := by
  unfold nxI nxD
  split
  · exact dg_of hj
  · split
    · exact dg_of ht
    · split
      · exact dg_of (by omega)
      · exact dg_of (by omega)
theorem sr_same {n w : Nat} {rk rk2 : Nat → Int} {r : Bool} (h : r = false) (hx : (r = true ∧ ∃ x t, x + 1 < n ∧ ((rkW n w rk)) x < ((rkW n w rk)) (x + 1) ∧ (∀ q, x < q → q + 1 < n → ¬ ((rkW n w rk)) q < ((rkW n w rk)) (q + 1)) ∧ x < t ∧ t < n ∧ ((rkW n w rk)) x < ((rkW n w rk)) t ∧ (∀ q, t < q → q < n → ¬ ((rkW n w rk)) x < ((rkW n w rk)) q) ∧ (∀ j, j < n → rk2 j = nxI ((rkW n w rk)) n x t j) ∧ ∀ j, n ≤ j → rk2 j = ((rkW n w rk)) j) ∨ (r = false ∧ rk2 = ((rkW n w rk)) ∧ ∀ q, q + 1 < n → ¬ ((rkW n w rk)) q < ((rkW n w rk)) (q + 1))) : rk2 = rkW n w rk := by
  rcases hx with ⟨a, _⟩ | ⟨_, a, _⟩
  · rw [a] at h; exact Bool.noConfusion h
  · exact a
theorem sr_last {n w : Nat} {rk rk2 : Nat → Int} {r : Bool} (hn : n ≤ 5) (hw : w < n ^ n) (hd : ds n w = true) (h : r = false) (hx : (r = true ∧ ∃ x t, x + 1 < n ∧ ((rkW n w rk)) x < ((rkW n w rk)) (x + 1) ∧ (∀ q, x < q → q + 1 < n → ¬ ((rkW n w rk)) q < ((rkW n w rk)) (q + 1)) ∧ x < t ∧ t < n ∧ ((rkW n w rk)) x < ((rkW n w rk)) t ∧ (∀ q, t < q → q < n → ¬ ((rkW n w rk)) x < ((rkW n w rk)) q) ∧ (∀ j, j < n → rk2 j = nxI ((rkW n w rk)) n x t j) ∧ ∀ j, n ≤ j → rk2 j = ((rkW n w rk)) j) ∨ (r = false ∧ rk2 = ((rkW n w rk)) ∧ ∀ q, q + 1 < n → ¬ ((rkW n w rk)) q < ((rkW n w rk)) (q + 1))) : ∀ w1, w < w1 → w1 < n ^ n → ds n w1 = false := by
  rcases hx with ⟨a, _⟩ | ⟨_, _, a⟩
  · rw [a] at h; exact Bool.noConfusion h
  · refine way_last hn hw hd (fun s hs hlt => a s hs ?_)
    rw [dg_of (by omega), dg_of hs]
    omega
theorem sr_next {n w : Nat} {rk rk2 : Nat → Int} {r : Bool} (hn : n ≤ 5) (hw : w < n ^ n) (hd : ds n w = true) (h : r = true) (hx : (r = true ∧ ∃ x t, x + 1 < n ∧ ((rkW n w rk)) x < ((rkW n w rk)) (x + 1) ∧ (∀ q, x < q → q + 1 < n → ¬ ((rkW n w rk)) q < ((rkW n w rk)) (q + 1)) ∧ x < t ∧ t < n ∧ ((rkW n w rk)) x < ((rkW n w rk)) t ∧ (∀ q, t < q → q < n → ¬ ((rkW n w rk)) x < ((rkW n w rk)) q) ∧ (∀ j, j < n → rk2 j = nxI ((rkW n w rk)) n x t j) ∧ ∀ j, n ≤ j → rk2 j = ((rkW n w rk)) j) ∨ (r = false ∧ rk2 = ((rkW n w rk)) ∧ ∀ q, q + 1 < n → ¬ ((rkW n w rk)) q < ((rkW n w rk)) (q + 1))) : ∃ w9, w9 < n ^ n ∧ ds n w9 = true ∧ cd n w9 = cd n w + 1 ∧ (∀ w1, w < w1 → w1 < w9 → ds n w1 = false) ∧ rk2 = rkW n w9 rk := by
  rcases hx with ⟨_, x, t, a1, a2, a3, a4, a5, a6, a7, a8, a9⟩ | ⟨a, _⟩
  · rw [dg_of (by omega), dg_of a1] at a2
    rw [dg_of (by omega), dg_of a5] at a6
    have W := way_next (s := x) (t := t) hn hw hd a1 (by omega) (fun q q1 q2 q3 => a3 q q1 q2 (by rw [dg_of (by omega), dg_of q2]; omega)) a4 a5 (by omega) (fun q q1 q2 q3 => a7 q q1 q2 (by rw [dg_of (by omega), dg_of q2]; omega))
    obtain ⟨w9, b1, b2, b3, b4, b5⟩ := W
    refine ⟨w9, b2, b3, ?_, b5, ?_⟩
    · rw [cd_gap (a := w + 1) (by omega) (fun w' c1 c2 => b5 w' (by omega) c2), cd_s hd]
    · exact rkW_of (fun q hq => by rw [a8 q hq, nx_of a1 a5 q hq, b4 q hq]) (fun q hq => by rw [a9 q hq, rkW_hi q hq])
  · rw [a] at h; exact Bool.noConfusion h
set_option maxHeartbeats 4000000 in
set_option maxRecDepth 100000 in
theorem c_X_count (l : Launch) (dC : Nat → ClassId) (dI : Nat → Nat → Nat) (cI cZ cT cJ : ClassId) (ox : Nat) (o aA aR aW aV sy : Nat) (ar rk wt sv : Nat → Int) (od dH dP dE dT dz : Nat) (dt : Bool) (hd pcs : Nat → Int) (de : Nat → Nat) (dh : Nat → Int) (orr rL rR rB rc : Nat) (lf rf : Nat → Option Nat) (bd : Nat → Int) (og oG : Nat) (gr : Nat → Bool) (ta tH tP tE tn : Nat → Nat) (TH TM : Nat → Nat → Int) (TE : Nat → Nat → Nat) (TG : Nat → Int) (HT : Nat → Nat → Int) (LI RI : Nat → Nat) (pl : va_W) (tc : Nat) (xT : Nat) (tf : Nat → Option Nat) (x : Int) (h32x : -2147483648 ≤ x ∧ x < 2147483648) : Met l qy_X_count qw_X_count ({ frames := 0, cells := 0, slots := 0, locals := 0 }) (rdP (dC, dI) qcl (qty cI cZ cT cJ) nwL [(ox, .inr (5, [.ref o, .ref od, .ref xT, .ref orr, .ref og, .int (zI (↑tc))])), (o, .inr (0, [.ref aA, .ref aR, .ref aW, .ref aV, .int (zI (↑sy))])), (orr, .inr (4, [.ref rL, .ref rR, .ref rB, .int (zI (↑rc))]))] [.ref ox, .int (zI (x))]) (rdI (fun r => r = (if x = 0 then (sy : Int) else if x = 1 then (tc : Int) else if x = 2 then (rc : Int) else -1))) 0 0 (fun _ => False) := by
  refine Met.ofW (cc := qc_X_count) (maxL := 2) (ret := (Option.some Jvm.ClassFile.FieldType.int)) (by decide) rfl ?_
  intro pg eg sg mg args below meth cg s₁ B hml hv
  obtain ⟨rfl, hF, hK, hN⟩ := hv
  have hx := B.exec
  have hb := B.bytes
  have hr := B.returns
  have hts := atoms_spec (ws := qw_X_count) B.pre
  have hg : ∀ w ∈ gw, w.before _ sg = true := fun w h => hts w (List.mem_cons_of_mem _ h)
  have hown : sg.vm.findClass "TermOrders" = some mg.cls := findClass_of_methodNamed B.named
  have hlocks := B.notSynchronized
  have hl := lv_entry ([.ref ox, .int (zI (x))]) (n := 2) (Nat.le_of_ble_eq_true rfl)
  rw [lg_entry_eq]
  generalize (lg_sl ([.ref ox, .int (zI (x))]) ++ List.replicate (2 - (lg_sl ([.ref ox, .int (zI (x))])).length) Slot.unset).toArray = ls at hl ⊢
  have hl : lv_has ls 2 [(0, .ref ox), (1, .int (zI (x)))] := hl
  refine lv_iload_n hx hb qd_X_count_0 rfl (lv_at hl 1 rfl) ?_
  by_cases hs1 : x < 0 ∨ 2 < x
  · skip
    refine zz_tabOut (tgt := 49) hx hb qd_X_count_1 (by omega) hs1 (by decide) ?_
    refine lv_iconst (v := zI (-1)) hx hb qd_X_count_49 rfl ?_
    exact W.iret (v := zI ((-1))) hx hb hr (fun t9 ht9 _ => ⟨(-1), rfl, (by rw [if_neg (by omega), if_neg (by omega), if_neg (by omega)]), ht9⟩) t_nil qd_X_count_50
  · skip
    rcases (show x = 0 ∨ x = 1 ∨ x = 2 by omega) with hv1 | hv1 | hv1
    · skip
      refine zz_tabIn (v := 0) (off := 27) (tgt := 28) hx hb qd_X_count_1 hv1 (by decide) (by decide) (by decide) rfl (by decide) ?_
      refine lv_aload_n hx hb qd_X_count_28 rfl (lv_at hl 0 rfl) ?_
      refine va_get (D := (dC, dI)) (ci := 5) (v := .ref o) (C := "TermOrders") (T := qT_X) (N := 6) hx hb hg qi_X hown hK hF 0 rfl rfl 0 (by decide) (hg _ wd_120) (fun _ h9 => h9) rfl qd_X_count_29 ?_
      refine va_getN (D := (dC, dI)) (ci := 0) (v := .int (zI (↑sy))) (C := "TermOrders$Symbols") (T := qT_S) (N := 5) hx hb hg qi_S hown hK hF 1 rfl rfl 4 (by decide) (va_Nw.use rfl (hN.use nw_40)) (fun _ h9 => h9) rfl qd_X_count_32 ?_
      exact W.iret (v := zI (↑sy)) hx hb hr (fun t9 ht9 _ => ⟨↑sy, rfl, (by rw [if_pos (by omega)]), ht9⟩) t_nil qd_X_count_35
    · skip
      refine zz_tabIn (v := 1) (off := 35) (tgt := 36) hx hb qd_X_count_1 hv1 (by decide) (by decide) (by decide) rfl (by decide) ?_
      refine lv_aload_n hx hb qd_X_count_36 rfl (lv_at hl 0 rfl) ?_
      refine va_get (D := (dC, dI)) (ci := 5) (v := .int (zI (↑tc))) (C := "TermOrders") (T := qT_X) (N := 6) hx hb hg qi_X hown hK hF 0 rfl rfl 5 (by decide) (hg _ wd_125) (fun _ h9 => h9) rfl qd_X_count_37 ?_
      exact W.iret (v := zI (↑tc)) hx hb hr (fun t9 ht9 _ => ⟨↑tc, rfl, (by rw [if_neg (by omega), if_pos (by omega)]), ht9⟩) t_nil qd_X_count_40
    · skip
      refine zz_tabIn (v := 2) (off := 40) (tgt := 41) hx hb qd_X_count_1 hv1 (by decide) (by decide) (by decide) rfl (by decide) ?_
      refine lv_aload_n hx hb qd_X_count_41 rfl (lv_at hl 0 rfl) ?_
      refine va_get (D := (dC, dI)) (ci := 5) (v := .ref orr) (C := "TermOrders") (T := qT_X) (N := 6) hx hb hg qi_X hown hK hF 0 rfl rfl 3 (by decide) (hg _ wd_123) (fun _ h9 => h9) rfl qd_X_count_42 ?_
      refine va_getN (D := (dC, dI)) (ci := 4) (v := .int (zI (↑rc))) (C := "TermOrders$Rules") (T := qT_R) (N := 4) hx hb hg qi_R hown hK hF 2 rfl rfl 3 (by decide) (va_Nw.use rfl (hN.use nw_96)) (fun _ h9 => h9) rfl qd_X_count_45 ?_
      exact W.iret (v := zI (↑rc)) hx hb hr (fun t9 ht9 _ => ⟨↑rc, rfl, (by rw [if_neg (by omega), if_neg (by omega), if_pos (by omega)]), ht9⟩) t_nil qd_X_count_48
set_option maxHeartbeats 4000000 in
set_option maxRecDepth 100000 in
theorem c_X_place (l : Launch) (dC : Nat → ClassId) (dI : Nat → Nat → Nat) (cI cZ cT cJ : ClassId) (ox : Nat) (o aA aR aW aV sy : Nat) (ar rk wt sv : Nat → Int) (od dH dP dE dT dz : Nat) (dt : Bool) (hd pcs : Nat → Int) (de : Nat → Nat) (dh : Nat → Int) (orr rL rR rB rc : Nat) (lf rf : Nat → Option Nat) (bd : Nat → Int) (og oG : Nat) (gr : Nat → Bool) (ta tH tP tE tn : Nat → Nat) (TH TM : Nat → Nat → Int) (TE : Nat → Nat → Nat) (TG : Nat → Int) (HT : Nat → Nat → Int) (LI RI : Nat → Nat) (pl : va_W) (tc : Nat) (xT : Nat) (tf : Nat → Option Nat) (x y : Int) (zh : Nat) (hst : l.stackTraces = false) (hsy : sy ≤ 5) (htc : tc ≤ 160) (htf : ∀ t, t < tc → tf t = some (ta t)) (htp : ∀ t, t < tc → okT sy ar (tn t) (TH t) (TM t) (TE t) (HT t) ∧ tin pl cI (ta t) (tH t) (tP t) (tE t) (tn t) (TH t) (TM t) (TE t) (TG t)) (h32x : -2147483648 ≤ x ∧ x < 2147483648) (h32y : -2147483648 ≤ y ∧ y < 2147483648) : vx_Met l qy_X_place qw_X_place ({ frames := 7, cells := 1, slots := 6, locals := 121 }) (mxP (dC, dI) qcl (qty cI cZ cT cJ) nwL [] ([(ox, .inr (5, [.ref o, .ref od, .ref xT, .ref orr, .ref og, .int (zI (↑tc))])), (xT, .inl (cT, 160, .inr (.inr (.inr (.inr tf)))))] ++ pl) zh [.ref ox, .int (zI (x)), .int (zI (y))]) (mwI (S := Unit) (fun r uq => (0 ≤ x ∧ x < tc) ∧ (0 ≤ y ∧ y < tn x.toNat) ∧ r = TH x.toNat y.toNat) (fun uq tq => mwB (dC, dI) qcl (qty cI cZ cT cJ) (va_A [] zh) [] tq) (va_A [] zh)) (vx_X (S := Unit) (fun _ => True) (fun E uq tq => ((E = "java/lang/IllegalArgumentException" ∧ ¬ (0 ≤ x ∧ x < tc)) ∨ (E = "java/lang/IndexOutOfBoundsException" ∧ (0 ≤ x ∧ x < tc) ∧ ¬ (0 ≤ y ∧ y < tn x.toNat))) ∧ mwB (dC, dI) qcl (qty cI cZ cT cJ) (va_A [] zh) [] tq) (va_A [] zh)) 1 6 (va_A [] zh) := by
  refine vx_ofW (cc := qc_X_place) (maxL := 4) (ret := (Option.some Jvm.ClassFile.FieldType.int)) (by decide) rfl ?_
  intro pg eg sg mg args below meth cg s₁ B hml htab hv
  obtain ⟨rfl, ⟨hsz, hP, hF0, hK, hN, hD0, hap⟩, hE⟩ := hv
  have hx := B.exec
  have hb := B.bytes
  have hr := B.returns
  have hts := atoms_spec (ws := qw_X_place) B.pre
  have hg : ∀ w ∈ gw, w.before _ sg = true := fun w h => hts w (List.mem_cons_of_mem _ h)
  have hown : sg.vm.findClass "TermOrders" = some mg.cls := findClass_of_methodNamed B.named
  have hlocks := B.notSynchronized
  have hl := lv_entry ([.ref ox, .int (zI (x)), .int (zI (y))]) (n := 4) (Nat.le_of_ble_eq_true rfl)
  rw [lg_entry_eq]
  generalize (lg_sl ([.ref ox, .int (zI (x)), .int (zI (y))]) ++ List.replicate (4 - (lg_sl ([.ref ox, .int (zI (x)), .int (zI (y))])).length) Slot.unset).toArray = ls at hl ⊢
  subst hsz
  have hD := hD0.self (sz := sg.heap.size)
  have hFA := apw_A hap (fun k q hk => (hF0 k q hk).lt)
  generalize hAe : va_A [] sg.heap.size = A at hD hFA hE ⊢
  have hA : ∀ q : Nat, sg.heap.size ≤ q → A q := fun q h => by rw [← hAe]; exact Or.inr h
  have hS : va_S A sg.heap sg.heap [] := va_S.rf
  have hF := hF0
  have hl : lv_has ls 4 [(0, .ref ox), (1, .int (zI (x))), (2, .int (zI (y)))] := hl
  refine lv_aload_n hx hb qd_X_place_0 rfl (lv_at hl 0 rfl) ?_
  refine lv_iload_n hx hb qd_X_place_1 rfl (lv_at hl 1 rfl) ?_
  by_cases hs2 : 0 ≤ x ∧ x < tc
  · skip
    have hPc := hP.sub (ws' := []) [] rfl
    have hDc := hD.sub (ws' := []) [] (by decide) rfl
    have hFr := va_free (wc := []) hD hS hA [] rfl
    refine mw_callE (va_runV (As := [.int (zI (x))]) (rest := []) ⟨hx, hb, hml, hown, hg⟩ (c_X_termOf_ok l dC dI cI cZ cT cJ ox o aA aR aW aV sy ar rk wt sv od dH dP dE dT dz dt hd pcs de dh orr rL rR rB rc lf rf bd og oG gr ta tH tP tE tn TH TM TE TG HT LI RI pl tc xT tf x sg.heap.size htc htf h32x hs2) ⟨callB_of 1 hg (gw_ok (fun _ h => h) wd_372) rfl rfl rfl (hg _ wd_1) (hg _ wd_369) (by decide +kernel) ⟨Nat.le_of_ble_eq_true rfl, Nat.le_of_ble_eq_true rfl⟩, hg _ wd_371, hg _ se_X_termOf⟩ (mw_preV (va_recv (q0 := 0) hK hF rfl rfl) hPc (pw_c (q := (ox, .inr (5, [.ref o, .ref od, .ref xT, .ref orr, .ref og, .int (zI (↑tc))]))) hF 0 rfl (pw_c (q := (xT, .inl (cT, 160, .inr (.inr (.inr (.inr tf)))))) hF 1 rfl (pw_nil))) hK hN hDc (apw_c (q := (ox, .inr (5, [.ref o, .ref od, .ref xT, .ref orr, .ref og, .int (zI (↑tc))]))) (apw_f hD [] rfl (hFA 0 _ rfl)) (apw_c (q := (xT, .inl (cT, 160, .inr (.inr (.inr (.inr tf)))))) (apw_f hD [] rfl (hFA 1 _ rfl)) (apw_nil)))) rfl rfl hl.1 rfl (lv_room (Nat.le_of_ble_eq_true rfl)) qd_X_place_2 ⟨Nat.le_of_ble_eq_true rfl, Nat.le_of_ble_eq_true rfl⟩) hS (fun q _ h => hFr q h) hFr (fun r2 u9 t9 H2_1 L2_1 ht9 hv9 hr2 hB9 hz9 hk9 hS => ?_)
    obtain ⟨hP, hD⟩ := mw_join (wr := []) (w1 := []) hP hD [] [] rfl rfl (by decide) (by decide) hk9 hFr ht9 hB9
    have hP := hP.sub (ws' := []) [] rfl
    have hD := hD.sub (ws' := []) [] (by decide) rfl
    have hF := fz_keep hF0 hFA hS
    subst hr2
    obtain ⟨ho9, ⟨k0, hk0⟩, ⟨k1, hk1⟩, ⟨k2, hk2⟩, ⟨k3, hk3⟩⟩ := htp (x.toNat) (by omega)
    have h16 := ho9.2.1
    refine lv_astore_n (lv' := [(3, .ref (ta x.toNat)), (0, .ref ox), (1, .int (zI (x))), (2, .int (zI (y)))]) hx hb qd_X_place_5 rfl hl (by decide) rfl (fun ls hl => ?_)
    refine lv_iload_n hx hb qd_X_place_6 rfl (lv_at hl 3 rfl) ?_
    refine zz_if_lt (tgt := 18) hx hb qd_X_place_7 (by decide) (by omega) (fun h7 => ?_) (fun h7 => ?_)
    · skip
      exact zx_throw_i hx hb hst hown hg hE sx_182 hS (hl.1.trans hml.symm) qd_X_place_18 qd_X_place_21 qd_X_place_22 qd_X_place_24 qd_X_place_27 htab (Nat.le_of_ble_eq_true rfl) (Nat.le_of_ble_eq_true rfl) (Nat.le_of_ble_eq_true rfl) (Nat.le_of_ble_eq_true rfl) hlocks (fun t9 g1 g2 g3 => (fun w9 => ⟨(), trivial, ⟨(Or.inr ⟨rfl, hs2, by omega⟩), w9.1⟩, w9.2⟩) (zx_x hP hK hD hS g1 g2 g3)) hS.2.2 (by omega) (by omega)
    · skip
      refine lv_iload_n hx hb qd_X_place_10 rfl (lv_at hl 3 rfl) ?_
      refine lv_aload_n hx hb qd_X_place_11 rfl (lv_at hl 0 rfl) ?_
      refine va_getN (D := (dC, dI)) (ci := 1) (v := .int (zI (↑(tn x.toNat)))) (C := "TermOrders$Term") (T := qT_T) (N := 5) hx hb hg qi_T hown hK hF (k0 + 2) hk0 rfl 3 (by decide) (va_Nw.use rfl (hN.use nw_339)) (fun _ h9 => h9) rfl qd_X_place_12 ?_
      refine zz_icmp_lt (tgt := 28) hx hb qd_X_place_15 (by decide) (by omega) (by omega) (fun h15 => ?_) (fun h15 => ?_)
      · skip
        refine lv_aload_n hx hb qd_X_place_28 rfl (lv_at hl 0 rfl) ?_
        refine va_getN (D := (dC, dI)) (ci := 1) (v := .ref ((tH x.toNat))) (C := "TermOrders$Term") (T := qT_T) (N := 5) hx hb hg qi_T hown hK hF (k0 + 2) hk0 rfl 0 (by decide) (va_Nw.use rfl (hN.use nw_328)) (fun _ h9 => h9) rfl qd_X_place_29 ?_
        refine lv_iload_n hx hb qd_X_place_32 rfl (lv_at hl 3 rfl) ?_
        refine zz_iald hx hb hK hF (k1 + 2) 0 hk1 rfl y.toNat (by omega) (by omega) (by omega) qd_X_place_33 ?_
        refine W.widen (k := 1) (n := 6) (by omega) (by omega) ?_
        refine vx_ret ?_
        exact W.iret (v := zI (((TH x.toNat)) y.toNat)) hx hb hr (fun t9 ht9 hW9 => ⟨⟨((TH x.toNat)) y.toNat, (), rfl, ⟨hs2, ⟨by omega, by omega⟩, rfl⟩, mwB_i (by rw [ht9]; exact hP) (va_K.moved hW9.alike hK) hD⟩, hS.F ht9⟩) hS.2.2 qd_X_place_34
      · skip
        exact zx_throw_i hx hb hst hown hg hE sx_182 hS (hl.1.trans hml.symm) qd_X_place_18 qd_X_place_21 qd_X_place_22 qd_X_place_24 qd_X_place_27 htab (Nat.le_of_ble_eq_true rfl) (Nat.le_of_ble_eq_true rfl) (Nat.le_of_ble_eq_true rfl) (Nat.le_of_ble_eq_true rfl) hlocks (fun t9 g1 g2 g3 => (fun w9 => ⟨(), trivial, ⟨(Or.inr ⟨rfl, hs2, by omega⟩), w9.1⟩, w9.2⟩) (zx_x hP hK hD hS g1 g2 g3)) hS.2.2 (by omega) (by omega)
  · skip
    have hPc := hP.sub (ws' := []) [] rfl
    have hDc := hD.sub (ws' := []) [] (by decide) rfl
    have hFr := va_free (wc := []) hD hS hA [] rfl
    refine mx_callR (vx_runV (As := [.int (zI (x))]) (rest := []) ⟨hx, hb, hml, hown, hg⟩ (c_X_termOf_no l dC dI cI cZ cT cJ ox o aA aR aW aV sy ar rk wt sv od dH dP dE dT dz dt hd pcs de dh orr rL rR rB rc lf rf bd og oG gr ta tH tP tE tn TH TM TE TG HT LI RI pl tc xT tf x sg.heap.size hst htc htf h32x hs2) ⟨callB_of 1 hg (gw_ok (fun _ h => h) wd_372) rfl rfl rfl (hg _ wd_1) (hg _ wd_369) (by decide +kernel) ⟨Nat.le_of_ble_eq_true rfl, Nat.le_of_ble_eq_true rfl⟩, hg _ wd_371, hg _ se_X_termOf⟩ (mx_preV (va_recv (q0 := 0) hK hF rfl rfl) hPc (pw_c (q := (ox, .inr (5, [.ref o, .ref od, .ref xT, .ref orr, .ref og, .int (zI (↑tc))]))) hF 0 rfl (pw_c (q := (xT, .inl (cT, 160, .inr (.inr (.inr (.inr tf)))))) hF 1 rfl (pw_nil))) hK hN hDc (apw_c (q := (ox, .inr (5, [.ref o, .ref od, .ref xT, .ref orr, .ref og, .int (zI (↑tc))]))) (apw_f hD [] rfl (hFA 0 _ rfl)) (apw_c (q := (xT, .inl (cT, 160, .inr (.inr (.inr (.inr tf)))))) (apw_f hD [] rfl (hFA 1 _ rfl)) (apw_nil))) (exH.narrow (exH.kept hE hS.2.1) hFr)) rfl rfl hl.1 rfl (lv_room (Nat.le_of_ble_eq_true rfl)) qd_X_place_2 ⟨Nat.le_of_ble_eq_true rfl, Nat.le_of_ble_eq_true rfl⟩) hS (fun q _ h => hFr q h) hFr (fun q _ h => hFr q h) (fun E9 ce9 q9 u9 t9 H2_4 L2_4 ht9 hv9 _ hx2 hz9 hk9 hS hc9 hcv9 hcl9 => ?_) (fun r2 u9 t9 H2_4 L2_4 ht9 hv9 hr2 hB9 hz9 hk9 hS => ?_)
    · skip
      obtain ⟨hx2, hB9⟩ := hx2
      try dsimp only at hx2 hB9
      obtain ⟨hP, hD⟩ := mw_join (wr := []) (w1 := []) hP hD [] [] rfl rfl (by decide) (by decide) hk9 hFr ht9 hB9
      have hP := hP.sub (ws' := []) [] rfl
      have hD := hD.sub (ws' := []) [] (by decide) rfl
      have hF := fz_keep hF0 hFA hS
      refine vx_widen (k := 1) (n := 6) (by omega) (by omega) ?_
      exact vx_out (fun x h => (htab x h).elim) hlocks hc9 hcv9 hcl9 (fun t9 g1 g2 => (fun w9 => ⟨(), trivial, ⟨(Or.inl ⟨hx2, hs2⟩), w9.1⟩, w9.2⟩) (zx_o hP hK hD hS g1 g2)) hS.2.2 (Nat.le_refl _) (Nat.le_refl _)
    · skip
      exact (hr2).elim
set_option maxHeartbeats 4000000 in
set_option maxRecDepth 100000 in
theorem c_X_about (l : Launch) (dC : Nat → ClassId) (dI : Nat → Nat → Nat) (cI cZ cT cJ : ClassId) (ox : Nat) (o aA aR aW aV sy : Nat) (ar rk wt sv : Nat → Int) (od dH dP dE dT dz : Nat) (dt : Bool) (hd pcs : Nat → Int) (de : Nat → Nat) (dh : Nat → Int) (orr rL rR rB rc : Nat) (lf rf : Nat → Option Nat) (bd : Nat → Int) (og oG : Nat) (gr : Nat → Bool) (ta tH tP tE tn : Nat → Nat) (TH TM : Nat → Nat → Int) (TE : Nat → Nat → Nat) (TG : Nat → Int) (HT : Nat → Nat → Int) (LI RI : Nat → Nat) (pl : va_W) (tc : Nat) (xT : Nat) (tf : Nat → Option Nat) (x y : Int) (zh : Nat) (hst : l.stackTraces = false) (hsy : sy ≤ 5) (hwt : ∀ q, q < 5 → 0 ≤ wt q ∧ wt q ≤ 9) (htc : tc ≤ 160) (htf : ∀ t, t < tc → tf t = some (ta t)) (htp : ∀ t, t < tc → okT sy ar (tn t) (TH t) (TM t) (TE t) (HT t) ∧ tin pl cI (ta t) (tH t) (tP t) (tE t) (tn t) (TH t) (TM t) (TE t) (TG t)) (h32x : -2147483648 ≤ x ∧ x < 2147483648) (h32y : -2147483648 ≤ y ∧ y < 2147483648) : vx_Met l qy_X_about qw_X_about ({ frames := 7, cells := 1, slots := 6, locals := 121 }) (mxP (dC, dI) qcl (qty cI cZ cT cJ) nwL [] ([(ox, .inr (5, [.ref o, .ref od, .ref xT, .ref orr, .ref og, .int (zI (↑tc))])), (xT, .inl (cT, 160, .inr (.inr (.inr (.inr tf))))), (o, .inr (0, [.ref aA, .ref aR, .ref aW, .ref aV, .int (zI (↑sy))])), (aA, .inl (cI, 5, .inl (zA ar))), (aR, .inl (cI, 5, .inl (zA rk))), (aW, .inl (cI, 5, .inl (zA wt))), (aV, .inl (cI, 5, .inl (zA sv)))] ++ pl) zh [.ref ox, .int (zI (x)), .int (zI (y))]) (mwI (S := Unit) (fun r uq => (0 ≤ x ∧ x < tc ∧ 0 ≤ y ∧ y ≤ 3) ∧ r = (if y = 0 then TH x.toNat 0 else if y = 1 then TG x.toNat else if y = 2 then (tn x.toNat : Int) else wsum (TH x.toNat) wt 0 (tn x.toNat))) (fun uq tq => mwB (dC, dI) qcl (qty cI cZ cT cJ) (va_A [] zh) [] tq) (va_A [] zh)) (vx_X (S := Unit) (fun _ => True) (fun E uq tq => (E = "java/lang/IllegalArgumentException" ∧ ¬ (0 ≤ x ∧ x < tc ∧ 0 ≤ y ∧ y ≤ 3)) ∧ mwB (dC, dI) qcl (qty cI cZ cT cJ) (va_A [] zh) [] tq) (va_A [] zh)) 1 6 (va_A [] zh) := by
  refine vx_ofW (cc := qc_X_about) (maxL := 4) (ret := (Option.some Jvm.ClassFile.FieldType.int)) (by decide) rfl ?_
  intro pg eg sg mg args below meth cg s₁ B hml htab hv
  obtain ⟨rfl, ⟨hsz, hP, hF0, hK, hN, hD0, hap⟩, hE⟩ := hv
  have hx := B.exec
  have hb := B.bytes
  have hr := B.returns
  have hts := atoms_spec (ws := qw_X_about) B.pre
  have hg : ∀ w ∈ gw, w.before _ sg = true := fun w h => hts w (List.mem_cons_of_mem _ h)
  have hown : sg.vm.findClass "TermOrders" = some mg.cls := findClass_of_methodNamed B.named
  have hlocks := B.notSynchronized
  have hl := lv_entry ([.ref ox, .int (zI (x)), .int (zI (y))]) (n := 4) (Nat.le_of_ble_eq_true rfl)
  rw [lg_entry_eq]
  generalize (lg_sl ([.ref ox, .int (zI (x)), .int (zI (y))]) ++ List.replicate (4 - (lg_sl ([.ref ox, .int (zI (x)), .int (zI (y))])).length) Slot.unset).toArray = ls at hl ⊢
  subst hsz
  have hD := hD0.self (sz := sg.heap.size)
  have hFA := apw_A hap (fun k q hk => (hF0 k q hk).lt)
  generalize hAe : va_A [] sg.heap.size = A at hD hFA hE ⊢
  have hA : ∀ q : Nat, sg.heap.size ≤ q → A q := fun q h => by rw [← hAe]; exact Or.inr h
  have hS : va_S A sg.heap sg.heap [] := va_S.rf
  have hF := hF0
  have hl : lv_has ls 4 [(0, .ref ox), (1, .int (zI (x))), (2, .int (zI (y)))] := hl
  refine lv_aload_n hx hb qd_X_about_0 rfl (lv_at hl 0 rfl) ?_
  refine lv_iload_n hx hb qd_X_about_1 rfl (lv_at hl 1 rfl) ?_
  by_cases hs2 : 0 ≤ x ∧ x < tc
  · skip
    have hPc := hP.sub (ws' := []) [] rfl
    have hDc := hD.sub (ws' := []) [] (by decide) rfl
    have hFr := va_free (wc := []) hD hS hA [] rfl
    refine mw_callE (va_runV (As := [.int (zI (x))]) (rest := []) ⟨hx, hb, hml, hown, hg⟩ (c_X_termOf_ok l dC dI cI cZ cT cJ ox o aA aR aW aV sy ar rk wt sv od dH dP dE dT dz dt hd pcs de dh orr rL rR rB rc lf rf bd og oG gr ta tH tP tE tn TH TM TE TG HT LI RI pl tc xT tf x sg.heap.size htc htf h32x hs2) ⟨callB_of 1 hg (gw_ok (fun _ h => h) wd_372) rfl rfl rfl (hg _ wd_1) (hg _ wd_369) (by decide +kernel) ⟨Nat.le_of_ble_eq_true rfl, Nat.le_of_ble_eq_true rfl⟩, hg _ wd_371, hg _ se_X_termOf⟩ (mw_preV (va_recv (q0 := 0) hK hF rfl rfl) hPc (pw_c (q := (ox, .inr (5, [.ref o, .ref od, .ref xT, .ref orr, .ref og, .int (zI (↑tc))]))) hF 0 rfl (pw_c (q := (xT, .inl (cT, 160, .inr (.inr (.inr (.inr tf)))))) hF 1 rfl (pw_nil))) hK hN hDc (apw_c (q := (ox, .inr (5, [.ref o, .ref od, .ref xT, .ref orr, .ref og, .int (zI (↑tc))]))) (apw_f hD [] rfl (hFA 0 _ rfl)) (apw_c (q := (xT, .inl (cT, 160, .inr (.inr (.inr (.inr tf)))))) (apw_f hD [] rfl (hFA 1 _ rfl)) (apw_nil)))) rfl rfl hl.1 rfl (lv_room (Nat.le_of_ble_eq_true rfl)) qd_X_about_2 ⟨Nat.le_of_ble_eq_true rfl, Nat.le_of_ble_eq_true rfl⟩) hS (fun q _ h => hFr q h) hFr (fun r2 u9 t9 H2_1 L2_1 ht9 hv9 hr2 hB9 hz9 hk9 hS => ?_)
    obtain ⟨hP, hD⟩ := mw_join (wr := []) (w1 := []) hP hD [] [] rfl rfl (by decide) (by decide) hk9 hFr ht9 hB9
    have hP := hP.sub (ws' := []) [] rfl
    have hD := hD.sub (ws' := []) [] (by decide) rfl
    have hF := fz_keep hF0 hFA hS
    subst hr2
    obtain ⟨ho9, ⟨k0, hk0⟩, ⟨k1, hk1⟩, ⟨k2, hk2⟩, ⟨k3, hk3⟩⟩ := htp (x.toNat) (by omega)
    have h16 := ho9.2.1
    have hp0 := ho9.1
    refine lv_astore_n (lv' := [(3, .ref (ta x.toNat)), (0, .ref ox), (1, .int (zI (x))), (2, .int (zI (y)))]) hx hb qd_X_about_5 rfl hl (by decide) rfl (fun ls hl => ?_)
    refine lv_iload_n hx hb qd_X_about_6 rfl (lv_at hl 3 rfl) ?_
    by_cases hs7 : y < 0 ∨ 3 < y
    · skip
      refine zz_tabOut (tgt := 63) hx hb qd_X_about_7 (by omega) hs7 (by decide) ?_
      exact zx_throw_a hx hb hst hown hg hE sx_178 hS (hl.1.trans hml.symm) qd_X_about_63 qd_X_about_66 qd_X_about_67 qd_X_about_69 qd_X_about_72 htab (Nat.le_of_ble_eq_true rfl) (Nat.le_of_ble_eq_true rfl) (Nat.le_of_ble_eq_true rfl) (Nat.le_of_ble_eq_true rfl) hlocks (fun t9 g1 g2 g3 => (fun w9 => ⟨(), trivial, ⟨⟨rfl, by omega⟩, w9.1⟩, w9.2⟩) (zx_x hP hK hD hS g1 g2 g3)) hS.2.2 (by omega) (by omega)
    · skip
      rcases (show y = 0 ∨ y = 1 ∨ y = 2 ∨ y = 3 by omega) with hv7 | hv7 | hv7 | hv7
      · skip
        refine zz_tabIn (v := 0) (off := 29) (tgt := 36) hx hb qd_X_about_7 hv7 (by decide) (by decide) (by decide) rfl (by decide) ?_
        refine lv_aload_n hx hb qd_X_about_36 rfl (lv_at hl 0 rfl) ?_
        refine va_getN (D := (dC, dI)) (ci := 1) (v := .ref ((tH x.toNat))) (C := "TermOrders$Term") (T := qT_T) (N := 5) hx hb hg qi_T hown hK hF (k0 + 7) hk0 rfl 0 (by decide) (va_Nw.use rfl (hN.use nw_328)) (fun _ h9 => h9) rfl qd_X_about_37 ?_
        refine lv_iconst (v := zI 0) hx hb qd_X_about_40 rfl ?_
        refine zz_iald hx hb hK hF (k1 + 7) 0 hk1 rfl 0 (by omega) (by omega) (by omega) qd_X_about_41 ?_
        refine W.widen (k := 1) (n := 6) (by omega) (by omega) ?_
        refine vx_ret ?_
        exact W.iret (v := zI (((TH x.toNat)) 0)) hx hb hr (fun t9 ht9 hW9 => ⟨⟨((TH x.toNat)) 0, (), rfl, ⟨by omega, by rw [if_pos (by omega)]⟩, mwB_i (by rw [ht9]; exact hP) (va_K.moved hW9.alike hK) hD⟩, hS.F ht9⟩) hS.2.2 qd_X_about_42
      · skip
        refine zz_tabIn (v := 1) (off := 36) (tgt := 43) hx hb qd_X_about_7 hv7 (by decide) (by decide) (by decide) rfl (by decide) ?_
        refine lv_aload_n hx hb qd_X_about_43 rfl (lv_at hl 0 rfl) ?_
        refine va_getN (D := (dC, dI)) (ci := 1) (v := .int (zI ((TG x.toNat)))) (C := "TermOrders$Term") (T := qT_T) (N := 5) hx hb hg qi_T hown hK hF (k0 + 7) hk0 rfl 4 (by decide) (va_Nw.use rfl (hN.use nw_341)) (fun _ h9 => h9) rfl qd_X_about_44 ?_
        refine W.widen (k := 1) (n := 6) (by omega) (by omega) ?_
        refine vx_ret ?_
        exact W.iret (v := zI ((TG x.toNat))) hx hb hr (fun t9 ht9 hW9 => ⟨⟨(TG x.toNat), (), rfl, ⟨by omega, by rw [if_neg (by omega), if_pos (by omega)]⟩, mwB_i (by rw [ht9]; exact hP) (va_K.moved hW9.alike hK) hD⟩, hS.F ht9⟩) hS.2.2 qd_X_about_47
      · skip
        refine zz_tabIn (v := 2) (off := 41) (tgt := 48) hx hb qd_X_about_7 hv7 (by decide) (by decide) (by decide) rfl (by decide) ?_
        refine lv_aload_n hx hb qd_X_about_48 rfl (lv_at hl 0 rfl) ?_
        refine va_getN (D := (dC, dI)) (ci := 1) (v := .int (zI (↑(tn x.toNat)))) (C := "TermOrders$Term") (T := qT_T) (N := 5) hx hb hg qi_T hown hK hF (k0 + 7) hk0 rfl 3 (by decide) (va_Nw.use rfl (hN.use nw_339)) (fun _ h9 => h9) rfl qd_X_about_49 ?_
        refine W.widen (k := 1) (n := 6) (by omega) (by omega) ?_
        refine vx_ret ?_
        exact W.iret (v := zI (↑(tn x.toNat))) hx hb hr (fun t9 ht9 hW9 => ⟨⟨↑(tn x.toNat), (), rfl, ⟨by omega, by rw [if_neg (by omega), if_neg (by omega), if_pos (by omega)]⟩, mwB_i (by rw [ht9]; exact hP) (va_K.moved hW9.alike hK) hD⟩, hS.F ht9⟩) hS.2.2 qd_X_about_52
      · skip
        refine zz_tabIn (v := 3) (off := 46) (tgt := 53) hx hb qd_X_about_7 hv7 (by decide) (by decide) (by decide) rfl (by decide) ?_
        refine lv_aload_n hx hb qd_X_about_53 rfl (lv_at hl 1 rfl) ?_
        refine va_get (D := (dC, dI)) (ci := 5) (v := .ref o) (C := "TermOrders") (T := qT_X) (N := 6) hx hb hg qi_X hown hK hF 0 rfl rfl 0 (by decide) (hg _ wd_120) (fun _ h9 => h9) rfl qd_X_about_54 ?_
        refine lv_aload_n hx hb qd_X_about_57 rfl (lv_at hl 0 rfl) ?_
        refine lv_iconst (v := zI 0) hx hb qd_X_about_58 rfl ?_
        refine zz_top (b := ↑(0 : Nat)) rfl ?_
        refine rd_callI (va_runVN (As := [.ref ((ta x.toNat)), .int (zI (↑0))]) (rest := []) ⟨hx, hb, hml, hown, hg⟩ (c_S_weightOfPlace l dC dI cI cZ cT cJ o aA aR aW aV sy ar rk wt sv (ta x.toNat) (tH x.toNat) (tP x.toNat) (tE x.toNat) (tn x.toNat) (TH x.toNat) (TM x.toNat) (TE x.toNat) (TG x.toNat) 0 hwt ho9.2.1 (okT_hh hsy ho9) ho9.2.2.2.2.1 ho9.1) ⟨va_cnB 2 hg (gw_ok (fun _ h => h) wd_479) rfl rfl rfl (hN.use nw_586) (hg _ wd_2) (by decide +kernel) ⟨Nat.le_of_ble_eq_true rfl, Nat.le_of_ble_eq_true rfl⟩, hg _ wd_478, hg _ se_S_weightOfPlace⟩ (rd_preV (va_recv (q0 := 2) hK hF rfl rfl) (pw_c (q := (o, .inr (0, [.ref aA, .ref aR, .ref aW, .ref aV, .int (zI (↑sy))]))) hF 2 rfl (pw_c (q := (aA, .inl (cI, 5, .inl (zA ar)))) hF 3 rfl (pw_c (q := (aR, .inl (cI, 5, .inl (zA rk)))) hF 4 rfl (pw_c (q := (aW, .inl (cI, 5, .inl (zA wt)))) hF 5 rfl (pw_c (q := (aV, .inl (cI, 5, .inl (zA sv)))) hF 6 rfl (pw_c (q := ((ta x.toNat), .inr (1, [.ref ((tH x.toNat)), .ref ((tP x.toNat)), .ref ((tE x.toNat)), .int (zI (↑(tn x.toNat))), .int (zI ((TG x.toNat)))]))) hF (k0 + 7) hk0 (pw_c (q := ((tH x.toNat), .inl (cI, (tn x.toNat), .inl (zA ((TH x.toNat)))))) hF (k1 + 7) hk1 (pw_c (q := ((tP x.toNat), .inl (cI, (tn x.toNat), .inl (zA ((TM x.toNat)))))) hF (k2 + 7) hk2 (pw_c (q := ((tE x.toNat), .inl (cI, (tn x.toNat), .inl (zA (eI ((TE x.toNat))))))) hF (k3 + 7) hk3 (pw_nil)))))))))) hK hN) rfl rfl hl.1 rfl (lv_room (Nat.le_of_ble_eq_true rfl)) qd_X_about_59 ⟨Nat.le_of_ble_eq_true rfl, Nat.le_of_ble_eq_true rfl⟩).run (fun r59 hr59 => ?_)
        refine W.widen (k := 1) (n := 6) (by omega) (by omega) ?_
        refine vx_ret ?_
        exact W.iret (v := zI r59) hx hb hr (fun t9 ht9 hW9 => ⟨⟨r59, (), rfl, ⟨by omega, by rw [if_neg (by omega), if_neg (by omega), if_neg (by omega), hr59, ho9.2.2.2.2.2.1]; rfl⟩, mwB_i (by rw [ht9]; exact hP) (va_K.moved hW9.alike hK) hD⟩, hS.F ht9⟩) hS.2.2 qd_X_about_62
  · skip
    have hPc := hP.sub (ws' := []) [] rfl
    have hDc := hD.sub (ws' := []) [] (by decide) rfl
    have hFr := va_free (wc := []) hD hS hA [] rfl
    refine mx_callR (vx_runV (As := [.int (zI (x))]) (rest := []) ⟨hx, hb, hml, hown, hg⟩ (c_X_termOf_no l dC dI cI cZ cT cJ ox o aA aR aW aV sy ar rk wt sv od dH dP dE dT dz dt hd pcs de dh orr rL rR rB rc lf rf bd og oG gr ta tH tP tE tn TH TM TE TG HT LI RI pl tc xT tf x sg.heap.size hst htc htf h32x hs2) ⟨callB_of 1 hg (gw_ok (fun _ h => h) wd_372) rfl rfl rfl (hg _ wd_1) (hg _ wd_369) (by decide +kernel) ⟨Nat.le_of_ble_eq_true rfl, Nat.le_of_ble_eq_true rfl⟩, hg _ wd_371, hg _ se_X_termOf⟩ (mx_preV (va_recv (q0 := 0) hK hF rfl rfl) hPc (pw_c (q := (ox, .inr (5, [.ref o, .ref od, .ref xT, .ref orr, .ref og, .int (zI (↑tc))]))) hF 0 rfl (pw_c (q := (xT, .inl (cT, 160, .inr (.inr (.inr (.inr tf)))))) hF 1 rfl (pw_nil))) hK hN hDc (apw_c (q := (ox, .inr (5, [.ref o, .ref od, .ref xT, .ref orr, .ref og, .int (zI (↑tc))]))) (apw_f hD [] rfl (hFA 0 _ rfl)) (apw_c (q := (xT, .inl (cT, 160, .inr (.inr (.inr (.inr tf)))))) (apw_f hD [] rfl (hFA 1 _ rfl)) (apw_nil))) (exH.narrow (exH.kept hE hS.2.1) hFr)) rfl rfl hl.1 rfl (lv_room (Nat.le_of_ble_eq_true rfl)) qd_X_about_2 ⟨Nat.le_of_ble_eq_true rfl, Nat.le_of_ble_eq_true rfl⟩) hS (fun q _ h => hFr q h) hFr (fun q _ h => hFr q h) (fun E9 ce9 q9 u9 t9 H2_3 L2_3 ht9 hv9 _ hx2 hz9 hk9 hS hc9 hcv9 hcl9 => ?_) (fun r2 u9 t9 H2_3 L2_3 ht9 hv9 hr2 hB9 hz9 hk9 hS => ?_)
    · skip
      obtain ⟨hx2, hB9⟩ := hx2
      try dsimp only at hx2 hB9
      obtain ⟨hP, hD⟩ := mw_join (wr := []) (w1 := []) hP hD [] [] rfl rfl (by decide) (by decide) hk9 hFr ht9 hB9
      have hP := hP.sub (ws' := []) [] rfl
      have hD := hD.sub (ws' := []) [] (by decide) rfl
      have hF := fz_keep hF0 hFA hS
      refine vx_widen (k := 1) (n := 6) (by omega) (by omega) ?_
      exact vx_out (fun x h => (htab x h).elim) hlocks hc9 hcv9 hcl9 (fun t9 g1 g2 => (fun w9 => ⟨(), trivial, ⟨⟨hx2, (fun z9 => hs2 ⟨z9.1, z9.2.1⟩)⟩, w9.1⟩, w9.2⟩) (zx_o hP hK hD hS g1 g2)) hS.2.2 (Nat.le_refl _) (Nat.le_refl _)
    · skip
      exact (hr2).elim
set_option maxHeartbeats 4000000 in
set_option maxRecDepth 100000 in
theorem c_X_rule (l : Launch) (dC : Nat → ClassId) (dI : Nat → Nat → Nat) (cI cZ cT cJ : ClassId) (ox : Nat) (o aA aR aW aV sy : Nat) (ar rk wt sv : Nat → Int) (od dH dP dE dT dz : Nat) (dt : Bool) (hd pcs : Nat → Int) (de : Nat → Nat) (dh : Nat → Int) (orr rL rR rB rc : Nat) (lf rf : Nat → Option Nat) (bd : Nat → Int) (og oG : Nat) (gr : Nat → Bool) (ta tH tP tE tn : Nat → Nat) (TH TM : Nat → Nat → Int) (TE : Nat → Nat → Nat) (TG : Nat → Int) (HT : Nat → Nat → Int) (LI RI : Nat → Nat) (pl : va_W) (tc : Nat) (xT : Nat) (tf : Nat → Option Nat) (x y : Int) (zh : Nat) (hst : l.stackTraces = false) (hsy : sy ≤ 5) (htc : tc ≤ 160) (htf : ∀ t, t < tc → tf t = some (ta t)) (htp : ∀ t, t < tc → okT sy ar (tn t) (TH t) (TM t) (TE t) (HT t) ∧ tin pl cI (ta t) (tH t) (tP t) (tE t) (tn t) (TH t) (TM t) (TE t) (TG t)) (hrc : rc ≤ 8) (h32x : -2147483648 ≤ x ∧ x < 2147483648) (h32y : -2147483648 ≤ y ∧ y < 2147483648) : vx_Met l qy_X_rule qw_X_rule ({ frames := 7, cells := 1, slots := 6, locals := 121 }) (mxP (dC, dI) qcl (qty cI cZ cT cJ) nwL [(orr, .inr (4, [.ref rL, .ref rR, .ref rB, .int (zI (↑rc))])), (rL, .inl (cT, 8, .inr (.inr (.inr (.inr lf))))), (rR, .inl (cT, 8, .inr (.inr (.inr (.inr rf)))))] ([(ox, .inr (5, [.ref o, .ref od, .ref xT, .ref orr, .ref og, .int (zI (↑tc))])), (xT, .inl (cT, 160, .inr (.inr (.inr (.inr tf)))))] ++ pl) zh [.ref ox, .int (zI (x)), .int (zI (y))]) (mwI (S := Unit) (fun r uq => (0 ≤ x ∧ x < tc ∧ 0 ≤ y ∧ y < tc ∧ 0 ≤ TH x.toNat 0 ∧ ∀ q, q < tn y.toNat → TH y.toNat q < 0 → ∃ k, k < tn x.toNat ∧ TH x.toNat k = TH y.toNat q) ∧ rc < 8 ∧ r = ↑rc) (fun uq tq => mwB (dC, dI) qcl (qty cI cZ cT cJ) (va_A [(orr, .inr (4, [.ref rL, .ref rR, .ref rB, .int (zI (↑rc))])), (rL, .inl (cT, 8, .inr (.inr (.inr (.inr lf))))), (rR, .inl (cT, 8, .inr (.inr (.inr (.inr rf)))))] zh) [(orr, .inr (4, [.ref rL, .ref rR, .ref rB, .int (zI (↑(rc + 1)))])), (rL, .inl (cT, 8, .inr (.inr (.inr (.inr (va_up lf rc (some (ta x.toNat)))))))), (rR, .inl (cT, 8, .inr (.inr (.inr (.inr (va_up rf rc (some (ta y.toNat))))))))] tq) (va_A [(orr, .inr (4, [.ref rL, .ref rR, .ref rB, .int (zI (↑rc))])), (rL, .inl (cT, 8, .inr (.inr (.inr (.inr lf))))), (rR, .inl (cT, 8, .inr (.inr (.inr (.inr rf)))))] zh)) (vx_X (S := Unit) (fun _ => True) (fun E uq tq => ((E = "java/lang/IllegalArgumentException" ∧ ¬ (0 ≤ x ∧ x < tc ∧ 0 ≤ y ∧ y < tc ∧ 0 ≤ TH x.toNat 0 ∧ ∀ q, q < tn y.toNat → TH y.toNat q < 0 → ∃ k, k < tn x.toNat ∧ TH x.toNat k = TH y.toNat q)) ∨ (E = "java/lang/IllegalStateException" ∧ (0 ≤ x ∧ x < tc ∧ 0 ≤ y ∧ y < tc ∧ 0 ≤ TH x.toNat 0 ∧ ∀ q, q < tn y.toNat → TH y.toNat q < 0 → ∃ k, k < tn x.toNat ∧ TH x.toNat k = TH y.toNat q) ∧ rc = 8)) ∧ mwB (dC, dI) qcl (qty cI cZ cT cJ) (va_A [(orr, .inr (4, [.ref rL, .ref rR, .ref rB, .int (zI (↑rc))])), (rL, .inl (cT, 8, .inr (.inr (.inr (.inr lf))))), (rR, .inl (cT, 8, .inr (.inr (.inr (.inr rf)))))] zh) [(orr, .inr (4, [.ref rL, .ref rR, .ref rB, .int (zI (↑rc))])), (rL, .inl (cT, 8, .inr (.inr (.inr (.inr lf))))), (rR, .inl (cT, 8, .inr (.inr (.inr (.inr rf)))))] tq) (va_A [(orr, .inr (4, [.ref rL, .ref rR, .ref rB, .int (zI (↑rc))])), (rL, .inl (cT, 8, .inr (.inr (.inr (.inr lf))))), (rR, .inl (cT, 8, .inr (.inr (.inr (.inr rf)))))] zh)) 1 6 (va_A [(orr, .inr (4, [.ref rL, .ref rR, .ref rB, .int (zI (↑rc))])), (rL, .inl (cT, 8, .inr (.inr (.inr (.inr lf))))), (rR, .inl (cT, 8, .inr (.inr (.inr (.inr rf)))))] zh) := by
  refine vx_ofW (cc := qc_X_rule) (maxL := 5) (ret := (Option.some Jvm.ClassFile.FieldType.int)) (by decide) rfl ?_
  intro pg eg sg mg args below meth cg s₁ B hml htab hv
  obtain ⟨rfl, ⟨hsz, hP, hF0, hK, hN, hD0, hap⟩, hE⟩ := hv
  have hx := B.exec
  have hb := B.bytes
  have hr := B.returns
  have hts := atoms_spec (ws := qw_X_rule) B.pre
  have hg : ∀ w ∈ gw, w.before _ sg = true := fun w h => hts w (List.mem_cons_of_mem _ h)
  have hown : sg.vm.findClass "TermOrders" = some mg.cls := findClass_of_methodNamed B.named
  have hlocks := B.notSynchronized
  have hl := lv_entry ([.ref ox, .int (zI (x)), .int (zI (y))]) (n := 5) (Nat.le_of_ble_eq_true rfl)
  rw [lg_entry_eq]
  generalize (lg_sl ([.ref ox, .int (zI (x)), .int (zI (y))]) ++ List.replicate (5 - (lg_sl ([.ref ox, .int (zI (x)), .int (zI (y))])).length) Slot.unset).toArray = ls at hl ⊢
  subst hsz
  have hD := hD0.self (sz := sg.heap.size)
  have hFA := apw_A hap (fun k q hk => (hF0 k q hk).lt)
  generalize hAe : va_A [(orr, .inr (4, [.ref rL, .ref rR, .ref rB, .int (zI (↑rc))])), (rL, .inl (cT, 8, .inr (.inr (.inr (.inr lf))))), (rR, .inl (cT, 8, .inr (.inr (.inr (.inr rf)))))] sg.heap.size = A at hD hFA hE ⊢
  have hA : ∀ q : Nat, sg.heap.size ≤ q → A q := fun q h => by rw [← hAe]; exact Or.inr h
  have hS : va_S A sg.heap sg.heap [] := va_S.rf
  have hF := hF0
  have hl : lv_has ls 5 [(0, .ref ox), (1, .int (zI (x))), (2, .int (zI (y)))] := hl
  refine lv_aload_n hx hb qd_X_rule_0 rfl (lv_at hl 0 rfl) ?_
  refine lv_iload_n hx hb qd_X_rule_1 rfl (lv_at hl 1 rfl) ?_
  by_cases hs2 : 0 ≤ x ∧ x < tc
  · skip
    have hPc := hP.sub (ws' := []) [] rfl
    have hDc := hD.sub (ws' := []) [] (by decide) rfl
    have hFr := va_free (wc := []) hD hS hA [] rfl
    refine mw_callE (va_runV (As := [.int (zI (x))]) (rest := []) ⟨hx, hb, hml, hown, hg⟩ (c_X_termOf_ok l dC dI cI cZ cT cJ ox o aA aR aW aV sy ar rk wt sv od dH dP dE dT dz dt hd pcs de dh orr rL rR rB rc lf rf bd og oG gr ta tH tP tE tn TH TM TE TG HT LI RI pl tc xT tf x sg.heap.size htc htf h32x hs2) ⟨callB_of 1 hg (gw_ok (fun _ h => h) wd_372) rfl rfl rfl (hg _ wd_1) (hg _ wd_369) (by decide +kernel) ⟨Nat.le_of_ble_eq_true rfl, Nat.le_of_ble_eq_true rfl⟩, hg _ wd_371, hg _ se_X_termOf⟩ (mw_preV (va_recv (q0 := 0) hK hF rfl rfl) hPc (pw_c (q := (ox, .inr (5, [.ref o, .ref od, .ref xT, .ref orr, .ref og, .int (zI (↑tc))]))) hF 0 rfl (pw_c (q := (xT, .inl (cT, 160, .inr (.inr (.inr (.inr tf)))))) hF 1 rfl (pw_nil))) hK hN hDc (apw_c (q := (ox, .inr (5, [.ref o, .ref od, .ref xT, .ref orr, .ref og, .int (zI (↑tc))]))) (apw_f hD [] rfl (hFA 0 _ rfl)) (apw_c (q := (xT, .inl (cT, 160, .inr (.inr (.inr (.inr tf)))))) (apw_f hD [] rfl (hFA 1 _ rfl)) (apw_nil)))) rfl rfl hl.1 rfl (lv_room (Nat.le_of_ble_eq_true rfl)) qd_X_rule_2 ⟨Nat.le_of_ble_eq_true rfl, Nat.le_of_ble_eq_true rfl⟩) hS (fun q _ h => hFr q h) hFr (fun r2 u9 t9 H2_1 L2_1 ht9 hv9 hr2 hB9 hz9 hk9 hS => ?_)
    obtain ⟨hP, hD⟩ := mw_join (wr := [(orr, .inr (4, [.ref rL, .ref rR, .ref rB, .int (zI (↑rc))])), (rL, .inl (cT, 8, .inr (.inr (.inr (.inr lf))))), (rR, .inl (cT, 8, .inr (.inr (.inr (.inr rf)))))]) (w1 := []) hP hD [] [0, 1, 2] rfl rfl (by decide) (by decide) hk9 hFr ht9 hB9
    have hP := hP.sub (ws' := [(orr, .inr (4, [.ref rL, .ref rR, .ref rB, .int (zI (↑rc))])), (rL, .inl (cT, 8, .inr (.inr (.inr (.inr lf))))), (rR, .inl (cT, 8, .inr (.inr (.inr (.inr rf)))))]) [0, 1, 2] rfl
    have hD := hD.sub (ws' := [(orr, .inr (4, [.ref rL, .ref rR, .ref rB, .int (zI (↑rc))])), (rL, .inl (cT, 8, .inr (.inr (.inr (.inr lf))))), (rR, .inl (cT, 8, .inr (.inr (.inr (.inr rf)))))]) [0, 1, 2] (by decide) rfl
    have hF := fz_keep hF0 hFA hS
    subst hr2
    obtain ⟨ho9, ⟨k0, hk0⟩, ⟨k1, hk1⟩, ⟨k2, hk2⟩, ⟨k3, hk3⟩⟩ := htp (x.toNat) (by omega)
    have hoa := ho9
    refine lv_astore_n (lv' := [(3, .ref (ta x.toNat)), (0, .ref ox), (1, .int (zI (x))), (2, .int (zI (y)))]) hx hb qd_X_rule_5 rfl hl (by decide) rfl (fun ls hl => ?_)
    refine lv_aload_n hx hb qd_X_rule_6 rfl (lv_at hl 1 rfl) ?_
    refine lv_iload_n hx hb qd_X_rule_7 rfl (lv_at hl 3 rfl) ?_
    by_cases hs8 : 0 ≤ y ∧ y < tc
    · skip
      have hPc := hP.sub (ws' := []) [] rfl
      have hDc := hD.sub (ws' := []) [] (by decide) rfl
      have hFr := va_free (wc := []) hD hS hA [] rfl
      refine mw_callE (va_runV (As := [.int (zI (y))]) (rest := []) ⟨hx, hb, hml, hown, hg⟩ (c_X_termOf_ok l dC dI cI cZ cT cJ ox o aA aR aW aV sy ar rk wt sv od dH dP dE dT dz dt hd pcs de dh orr rL rR rB rc lf rf bd og oG gr ta tH tP tE tn TH TM TE TG HT LI RI pl tc xT tf y H2_1.size htc htf h32y hs8) ⟨callB_of 1 hg (gw_ok (fun _ h => h) wd_372) rfl rfl rfl (hg _ wd_1) (hg _ wd_369) (by decide +kernel) ⟨Nat.le_of_ble_eq_true rfl, Nat.le_of_ble_eq_true rfl⟩, hg _ wd_371, hg _ se_X_termOf⟩ (mw_preV (va_recv (q0 := 0) hK hF rfl rfl) hPc (pw_c (q := (ox, .inr (5, [.ref o, .ref od, .ref xT, .ref orr, .ref og, .int (zI (↑tc))]))) hF 0 rfl (pw_c (q := (xT, .inl (cT, 160, .inr (.inr (.inr (.inr tf)))))) hF 1 rfl (pw_nil))) hK hN hDc (apw_c (q := (ox, .inr (5, [.ref o, .ref od, .ref xT, .ref orr, .ref og, .int (zI (↑tc))]))) (apw_f hD [] rfl (hFA 0 _ rfl)) (apw_c (q := (xT, .inl (cT, 160, .inr (.inr (.inr (.inr tf)))))) (apw_f hD [] rfl (hFA 1 _ rfl)) (apw_nil)))) rfl rfl hl.1 rfl (lv_room (Nat.le_of_ble_eq_true rfl)) qd_X_rule_8 ⟨Nat.le_of_ble_eq_true rfl, Nat.le_of_ble_eq_true rfl⟩) hS (fun q _ h => hFr q h) hFr (fun r8 u9 t9 H8_2 L8_2 ht9 hv9 hr8 hB9 hz9 hk9 hS => ?_)
      obtain ⟨hP, hD⟩ := mw_join (wr := [(orr, .inr (4, [.ref rL, .ref rR, .ref rB, .int (zI (↑rc))])), (rL, .inl (cT, 8, .inr (.inr (.inr (.inr lf))))), (rR, .inl (cT, 8, .inr (.inr (.inr (.inr rf)))))]) (w1 := []) hP hD [] [0, 1, 2] rfl rfl (by decide) (by decide) hk9 hFr ht9 hB9
      have hP := hP.sub (ws' := [(orr, .inr (4, [.ref rL, .ref rR, .ref rB, .int (zI (↑rc))])), (rL, .inl (cT, 8, .inr (.inr (.inr (.inr lf))))), (rR, .inl (cT, 8, .inr (.inr (.inr (.inr rf)))))]) [0, 1, 2] rfl
      have hD := hD.sub (ws' := [(orr, .inr (4, [.ref rL, .ref rR, .ref rB, .int (zI (↑rc))])), (rL, .inl (cT, 8, .inr (.inr (.inr (.inr lf))))), (rR, .inl (cT, 8, .inr (.inr (.inr (.inr rf)))))]) [0, 1, 2] (by decide) rfl
      have hF := fz_keep hF0 hFA hS
      subst hr8
      obtain ⟨ho9, ⟨j0, hj0⟩, ⟨j1, hj1⟩, ⟨j2, hj2⟩, ⟨j3, hj3⟩⟩ := htp (y.toNat) (by omega)
      have hob := ho9
      refine lv_astore (lv' := [(4, .ref (ta y.toNat)), (3, .ref (ta x.toNat)), (0, .ref ox), (1, .int (zI (x))), (2, .int (zI (y)))]) hx hb qd_X_rule_11 hl (by decide) rfl (fun ls hl => ?_)
      refine lv_aload_n hx hb qd_X_rule_13 rfl (lv_at hl 1 rfl) ?_
      refine lv_iconst (v := zI 0) hx hb qd_X_rule_14 rfl ?_
      refine zz_top (b := ↑(0 : Nat)) rfl ?_
      refine rd_callB (va_runVN (As := [.int (zI (↑0))]) (rest := []) ⟨hx, hb, hml, hown, hg⟩ (c_T_isVariable l dC dI cI cZ cT cJ (ta x.toNat) (tH x.toNat) (tP x.toNat) (tE x.toNat) (tn x.toNat) (TH x.toNat) (TM x.toNat) (TE x.toNat) (TG x.toNat) 0 hoa.2.1 (okT_hh hsy hoa) hoa.1) ⟨va_cnB 1 hg (gw_ok (fun _ h => h) wd_388) rfl rfl rfl (hN.use nw_385) (hg _ wd_13) (by decide +kernel) ⟨Nat.le_of_ble_eq_true rfl, Nat.le_of_ble_eq_true rfl⟩, hg _ wd_387, hg _ se_T_isVariable⟩ (rd_preV (va_recv (q0 := (k0 + 2)) hK hF rfl hk0) (pw_c (q := ((ta x.toNat), .inr (1, [.ref ((tH x.toNat)), .ref ((tP x.toNat)), .ref ((tE x.toNat)), .int (zI (↑(tn x.toNat))), .int (zI ((TG x.toNat)))]))) hF (k0 + 2) hk0 (pw_c (q := ((tH x.toNat), .inl (cI, (tn x.toNat), .inl (zA ((TH x.toNat)))))) hF (k1 + 2) hk1 (pw_c (q := ((tP x.toNat), .inl (cI, (tn x.toNat), .inl (zA ((TM x.toNat)))))) hF (k2 + 2) hk2 (pw_c (q := ((tE x.toNat), .inl (cI, (tn x.toNat), .inl (zA (eI ((TE x.toNat))))))) hF (k3 + 2) hk3 (pw_nil))))) hK hN) rfl rfl hl.1 rfl (lv_room (Nat.le_of_ble_eq_true rfl)) qd_X_rule_15 ⟨Nat.le_of_ble_eq_true rfl, Nat.le_of_ble_eq_true rfl⟩).run (fun r15 hr15 => ?_)
      refine zz_ifneB (tgt := 30) hx hb qd_X_rule_18 (by decide) (fun h18 => ?_) (fun h18 => ?_)
      · skip
        have hv8 := hr15.mp h18
        have hgd : ¬ (0 ≤ x ∧ x < tc ∧ 0 ≤ y ∧ y < tc ∧ 0 ≤ TH x.toNat 0 ∧ ∀ q, q < tn y.toNat → TH y.toNat q < 0 → ∃ k, k < tn x.toNat ∧ TH x.toNat k = TH y.toNat q) := fun z9 => by have z8 := z9.2.2.2.2.1; omega
        exact zx_throw_a hx hb hst hown hg hE sx_110 hS (hl.1.trans hml.symm) qd_X_rule_30 qd_X_rule_33 qd_X_rule_34 qd_X_rule_36 qd_X_rule_39 htab (Nat.le_of_ble_eq_true rfl) (Nat.le_of_ble_eq_true rfl) (Nat.le_of_ble_eq_true rfl) (Nat.le_of_ble_eq_true rfl) hlocks (fun t9 g1 g2 g3 => (fun w9 => ⟨(), trivial, ⟨(Or.inl ⟨rfl, hgd⟩), w9.1⟩, w9.2⟩) (zx_x hP hK hD hS g1 g2 g3)) hS.2.2 (by omega) (by omega)
      · skip
        have hv8 : 0 ≤ TH x.toNat 0 := Classical.byContradiction (fun z9 => by rw [hr15.mpr (by omega)] at h18; exact Bool.noConfusion h18)
        refine lv_aload_n hx hb qd_X_rule_21 rfl (lv_at hl 1 rfl) ?_
        refine lv_aload hx hb qd_X_rule_22 (lv_at hl 0 rfl) ?_
        refine rd_callB (va_runVN (As := [.ref ((ta y.toNat))]) (rest := []) ⟨hx, hb, hml, hown, hg⟩ (c_T_hasAllVariablesOf l dC dI cI cZ cT cJ (ta x.toNat) (tH x.toNat) (tP x.toNat) (tE x.toNat) (tn x.toNat) (TH x.toNat) (TM x.toNat) (TE x.toNat) (TG x.toNat) (ta y.toNat) (tH y.toNat) (tP y.toNat) (tE y.toNat) (tn y.toNat) (TH y.toNat) (TM y.toNat) (TE y.toNat) (TG y.toNat) hoa.2.1 hob.2.1 (okT_hh hsy hoa) (okT_hh hsy hob) hoa.2.2.2.2.1 hoa.1 hoa.2.2.2.2.2.1) ⟨va_cnB 1 hg (gw_ok (fun _ h => h) wd_392) rfl rfl rfl (hN.use nw_389) (hg _ wd_13) (by decide +kernel) ⟨Nat.le_of_ble_eq_true rfl, Nat.le_of_ble_eq_true rfl⟩, hg _ wd_391, hg _ se_T_hasAllVariablesOf⟩ (rd_preV (va_recv (q0 := (k0 + 2)) hK hF rfl hk0) (pw_c (q := ((ta x.toNat), .inr (1, [.ref ((tH x.toNat)), .ref ((tP x.toNat)), .ref ((tE x.toNat)), .int (zI (↑(tn x.toNat))), .int (zI ((TG x.toNat)))]))) hF (k0 + 2) hk0 (pw_c (q := ((tH x.toNat), .inl (cI, (tn x.toNat), .inl (zA ((TH x.toNat)))))) hF (k1 + 2) hk1 (pw_c (q := ((tP x.toNat), .inl (cI, (tn x.toNat), .inl (zA ((TM x.toNat)))))) hF (k2 + 2) hk2 (pw_c (q := ((tE x.toNat), .inl (cI, (tn x.toNat), .inl (zA (eI ((TE x.toNat))))))) hF (k3 + 2) hk3 (pw_c (q := ((ta y.toNat), .inr (1, [.ref ((tH y.toNat)), .ref ((tP y.toNat)), .ref ((tE y.toNat)), .int (zI (↑(tn y.toNat))), .int (zI ((TG y.toNat)))]))) hF (j0 + 2) hj0 (pw_c (q := ((tH y.toNat), .inl (cI, (tn y.toNat), .inl (zA ((TH y.toNat)))))) hF (j1 + 2) hj1 (pw_c (q := ((tP y.toNat), .inl (cI, (tn y.toNat), .inl (zA ((TM y.toNat)))))) hF (j2 + 2) hj2 (pw_c (q := ((tE y.toNat), .inl (cI, (tn y.toNat), .inl (zA (eI ((TE y.toNat))))))) hF (j3 + 2) hj3 (pw_nil))))))))) hK hN) rfl rfl hl.1 rfl (lv_room (Nat.le_of_ble_eq_true rfl)) qd_X_rule_24 ⟨Nat.le_of_ble_eq_true rfl, Nat.le_of_ble_eq_true rfl⟩).run (fun r24 hr24 => ?_)
        refine zz_ifneB (tgt := 40) hx hb qd_X_rule_27 (by decide) (fun h27 => ?_) (fun h27 => ?_)
        · skip
          have hgd : 0 ≤ x ∧ x < tc ∧ 0 ≤ y ∧ y < tc ∧ 0 ≤ TH x.toNat 0 ∧ ∀ q, q < tn y.toNat → TH y.toNat q < 0 → ∃ k, k < tn x.toNat ∧ TH x.toNat k = TH y.toNat q := ⟨hs2.1, hs2.2, hs8.1, hs8.2, hv8, hr24.mp h27⟩
          refine lv_aload_n hx hb qd_X_rule_40 rfl (lv_at hl 2 rfl) ?_
          refine va_get (D := (dC, dI)) (ci := 5) (v := .ref orr) (C := "TermOrders") (T := qT_X) (N := 6) hx hb hg qi_X hown hK hF 0 rfl rfl 3 (by decide) (hg _ wd_123) (fun _ h9 => h9) rfl qd_X_rule_41 ?_
          refine va_getN (D := (dC, dI)) (ci := 4) (v := .int (zI (↑rc))) (C := "TermOrders$Rules") (T := qT_R) (N := 4) hx hb hg qi_R hown hK hP 0 rfl rfl 3 (by decide) (va_Nw.use rfl (hN.use nw_96)) (fun _ h9 => h9) rfl qd_X_rule_44 ?_
          refine lv_bipush (v := zI 8) hx hb qd_X_rule_47 (by decide) ?_
          refine zz_icmp_ne (tgt := 62) hx hb qd_X_rule_49 (by decide) (by omega) (by omega) (fun h49 => ?_) (fun h49 => ?_)
          · skip
            refine lv_aload_n hx hb qd_X_rule_62 rfl (lv_at hl 2 rfl) ?_
            refine va_get (D := (dC, dI)) (ci := 5) (v := .ref orr) (C := "TermOrders") (T := qT_X) (N := 6) hx hb hg qi_X hown hK hF 0 rfl rfl 3 (by decide) (hg _ wd_123) (fun _ h9 => h9) rfl qd_X_rule_63 ?_
            refine lv_aload_n hx hb qd_X_rule_66 rfl (lv_at hl 1 rfl) ?_
            refine lv_aload hx hb qd_X_rule_67 (lv_at hl 0 rfl) ?_
            have hPc := hP.sub (ws' := [(orr, .inr (4, [.ref rL, .ref rR, .ref rB, .int (zI (↑rc))])), (rL, .inl (cT, 8, .inr (.inr (.inr (.inr lf))))), (rR, .inl (cT, 8, .inr (.inr (.inr (.inr rf)))))]) [0, 1, 2] rfl
            have hDc := hD.sub (ws' := [(orr, .inr (4, [.ref rL, .ref rR, .ref rB, .int (zI (↑rc))])), (rL, .inl (cT, 8, .inr (.inr (.inr (.inr lf))))), (rR, .inl (cT, 8, .inr (.inr (.inr (.inr rf)))))]) [0, 1, 2] (by decide) rfl
            have hFr := va_free (wc := [(orr, .inr (4, [.ref rL, .ref rR, .ref rB, .int (zI (↑rc))])), (rL, .inl (cT, 8, .inr (.inr (.inr (.inr lf))))), (rR, .inl (cT, 8, .inr (.inr (.inr (.inr rf)))))]) hD hS hA [0, 1, 2] rfl
            refine mw_callI (va_runVN (As := [.ref ((ta x.toNat)), .ref ((ta y.toNat))]) (rest := []) ⟨hx, hb, hml, hown, hg⟩ (c_R_add l dC dI cI cZ cT cJ orr rL rR rB rc lf rf bd (ta x.toNat) (tH x.toNat) (tP x.toNat) (tE x.toNat) (tn x.toNat) (TH x.toNat) (TM x.toNat) (TE x.toNat) (TG x.toNat) (ta y.toNat) (tH y.toNat) (tP y.toNat) (tE y.toNat) (tn y.toNat) (TH y.toNat) (TM y.toNat) (TE y.toNat) (TG y.toNat) H8_2.size (by omega)) ⟨va_cnB 2 hg (gw_ok (fun _ h => h) wd_403) rfl rfl rfl (hN.use nw_400) (hg _ wd_4) (by decide +kernel) ⟨Nat.le_of_ble_eq_true rfl, Nat.le_of_ble_eq_true rfl⟩, hg _ wd_402, hg _ se_R_add⟩ (mw_preV (va_recv (q0 := 0) hK hP rfl rfl) hPc (pw_c (q := ((ta x.toNat), .inr (1, [.ref ((tH x.toNat)), .ref ((tP x.toNat)), .ref ((tE x.toNat)), .int (zI (↑(tn x.toNat))), .int (zI ((TG x.toNat)))]))) hF (k0 + 2) hk0 (pw_c (q := ((ta y.toNat), .inr (1, [.ref ((tH y.toNat)), .ref ((tP y.toNat)), .ref ((tE y.toNat)), .int (zI (↑(tn y.toNat))), .int (zI ((TG y.toNat)))]))) hF (j0 + 2) hj0 (pw_nil))) hK hN hDc (apw_c (q := ((ta x.toNat), .inr (1, [.ref ((tH x.toNat)), .ref ((tP x.toNat)), .ref ((tE x.toNat)), .int (zI (↑(tn x.toNat))), .int (zI ((TG x.toNat)))]))) (apw_f hD [0, 1, 2] rfl (hFA (k0 + 2) _ hk0)) (apw_c (q := ((ta y.toNat), .inr (1, [.ref ((tH y.toNat)), .ref ((tP y.toNat)), .ref ((tE y.toNat)), .int (zI (↑(tn y.toNat))), .int (zI ((TG y.toNat)))]))) (apw_f hD [0, 1, 2] rfl (hFA (j0 + 2) _ hj0)) (apw_nil)))) rfl rfl hl.1 rfl (lv_room (Nat.le_of_ble_eq_true rfl)) qd_X_rule_69 ⟨Nat.le_of_ble_eq_true rfl, Nat.le_of_ble_eq_true rfl⟩) hS (fun q _ h => hFr q h) hFr (fun r69 u9 t9 H69_4 L69_4 ht9 hv9 hr69 hB9 hz9 hk9 hS => ?_)
            obtain ⟨hP, hD⟩ := mw_join (wr := []) (w1 := [(orr, .inr (4, [.ref rL, .ref rR, .ref rB, .int (zI (↑(rc + 1)))])), (rL, .inl (cT, 8, .inr (.inr (.inr (.inr (va_up lf rc (some (ta x.toNat)))))))), (rR, .inl (cT, 8, .inr (.inr (.inr (.inr (va_up rf rc (some (ta y.toNat))))))))]) hP hD [0, 1, 2] [] rfl rfl (by decide) (by decide) hk9 hFr ht9 hB9
            have hP := hP.sub (ws' := [(orr, .inr (4, [.ref rL, .ref rR, .ref rB, .int (zI (↑(rc + 1)))])), (rL, .inl (cT, 8, .inr (.inr (.inr (.inr (va_up lf rc (some (ta x.toNat)))))))), (rR, .inl (cT, 8, .inr (.inr (.inr (.inr (va_up rf rc (some (ta y.toNat))))))))]) [0, 1, 2] rfl
            have hD := hD.sub (ws' := [(orr, .inr (4, [.ref rL, .ref rR, .ref rB, .int (zI (↑(rc + 1)))])), (rL, .inl (cT, 8, .inr (.inr (.inr (.inr (va_up lf rc (some (ta x.toNat)))))))), (rR, .inl (cT, 8, .inr (.inr (.inr (.inr (va_up rf rc (some (ta y.toNat))))))))]) [0, 1, 2] (by decide) rfl
            have hF := fz_keep hF0 hFA hS
            refine W.widen (k := 1) (n := 6) (by omega) (by omega) ?_
            refine vx_ret ?_
            exact W.iret (v := zI r69) hx hb hr (fun t9 ht9 hW9 => ⟨⟨r69, (), rfl, ⟨hgd, by omega, hr69⟩, mwB_i (by rw [ht9]; exact hP) (va_K.moved hW9.alike hK) hD⟩, hS.F ht9⟩) hS.2.2 qd_X_rule_72
          · skip
            exact zx_throw_s hx hb hst hown hg hE sx_113 hS (hl.1.trans hml.symm) qd_X_rule_52 qd_X_rule_55 qd_X_rule_56 qd_X_rule_58 qd_X_rule_61 htab (Nat.le_of_ble_eq_true rfl) (Nat.le_of_ble_eq_true rfl) (Nat.le_of_ble_eq_true rfl) (Nat.le_of_ble_eq_true rfl) hlocks (fun t9 g1 g2 g3 => (fun w9 => ⟨(), trivial, ⟨(Or.inr ⟨rfl, hgd, by omega⟩), w9.1⟩, w9.2⟩) (zx_x hP hK hD hS g1 g2 g3)) hS.2.2 (by omega) (by omega)
        · skip
          have hgd : ¬ (0 ≤ x ∧ x < tc ∧ 0 ≤ y ∧ y < tc ∧ 0 ≤ TH x.toNat 0 ∧ ∀ q, q < tn y.toNat → TH y.toNat q < 0 → ∃ k, k < tn x.toNat ∧ TH x.toNat k = TH y.toNat q) := fun z9 => by rw [hr24.mpr z9.2.2.2.2.2] at h27; exact Bool.noConfusion h27
          exact zx_throw_a hx hb hst hown hg hE sx_110 hS (hl.1.trans hml.symm) qd_X_rule_30 qd_X_rule_33 qd_X_rule_34 qd_X_rule_36 qd_X_rule_39 htab (Nat.le_of_ble_eq_true rfl) (Nat.le_of_ble_eq_true rfl) (Nat.le_of_ble_eq_true rfl) (Nat.le_of_ble_eq_true rfl) hlocks (fun t9 g1 g2 g3 => (fun w9 => ⟨(), trivial, ⟨(Or.inl ⟨rfl, hgd⟩), w9.1⟩, w9.2⟩) (zx_x hP hK hD hS g1 g2 g3)) hS.2.2 (by omega) (by omega)
    · skip
      have hPc := hP.sub (ws' := []) [] rfl
      have hDc := hD.sub (ws' := []) [] (by decide) rfl
      have hFr := va_free (wc := []) hD hS hA [] rfl
      refine mx_callR (vx_runV (As := [.int (zI (y))]) (rest := []) ⟨hx, hb, hml, hown, hg⟩ (c_X_termOf_no l dC dI cI cZ cT cJ ox o aA aR aW aV sy ar rk wt sv od dH dP dE dT dz dt hd pcs de dh orr rL rR rB rc lf rf bd og oG gr ta tH tP tE tn TH TM TE TG HT LI RI pl tc xT tf y H2_1.size hst htc htf h32y hs8) ⟨callB_of 1 hg (gw_ok (fun _ h => h) wd_372) rfl rfl rfl (hg _ wd_1) (hg _ wd_369) (by decide +kernel) ⟨Nat.le_of_ble_eq_true rfl, Nat.le_of_ble_eq_true rfl⟩, hg _ wd_371, hg _ se_X_termOf⟩ (mx_preV (va_recv (q0 := 0) hK hF rfl rfl) hPc (pw_c (q := (ox, .inr (5, [.ref o, .ref od, .ref xT, .ref orr, .ref og, .int (zI (↑tc))]))) hF 0 rfl (pw_c (q := (xT, .inl (cT, 160, .inr (.inr (.inr (.inr tf)))))) hF 1 rfl (pw_nil))) hK hN hDc (apw_c (q := (ox, .inr (5, [.ref o, .ref od, .ref xT, .ref orr, .ref og, .int (zI (↑tc))]))) (apw_f hD [] rfl (hFA 0 _ rfl)) (apw_c (q := (xT, .inl (cT, 160, .inr (.inr (.inr (.inr tf)))))) (apw_f hD [] rfl (hFA 1 _ rfl)) (apw_nil))) (exH.narrow (exH.kept hE hS.2.1) hFr)) rfl rfl hl.1 rfl (lv_room (Nat.le_of_ble_eq_true rfl)) qd_X_rule_8 ⟨Nat.le_of_ble_eq_true rfl, Nat.le_of_ble_eq_true rfl⟩) hS (fun q _ h => hFr q h) hFr (fun q _ h => hFr q h) (fun E9 ce9 q9 u9 t9 H8_7 L8_7 ht9 hv9 _ hx8 hz9 hk9 hS hc9 hcv9 hcl9 => ?_) (fun r8 u9 t9 H8_7 L8_7 ht9 hv9 hr8 hB9 hz9 hk9 hS => ?_)
      · skip
        obtain ⟨hx8, hB9⟩ := hx8
        try dsimp only at hx8 hB9
        obtain ⟨hP, hD⟩ := mw_join (wr := [(orr, .inr (4, [.ref rL, .ref rR, .ref rB, .int (zI (↑rc))])), (rL, .inl (cT, 8, .inr (.inr (.inr (.inr lf))))), (rR, .inl (cT, 8, .inr (.inr (.inr (.inr rf)))))]) (w1 := []) hP hD [] [0, 1, 2] rfl rfl (by decide) (by decide) hk9 hFr ht9 hB9
        have hP := hP.sub (ws' := [(orr, .inr (4, [.ref rL, .ref rR, .ref rB, .int (zI (↑rc))])), (rL, .inl (cT, 8, .inr (.inr (.inr (.inr lf))))), (rR, .inl (cT, 8, .inr (.inr (.inr (.inr rf)))))]) [0, 1, 2] rfl
        have hD := hD.sub (ws' := [(orr, .inr (4, [.ref rL, .ref rR, .ref rB, .int (zI (↑rc))])), (rL, .inl (cT, 8, .inr (.inr (.inr (.inr lf))))), (rR, .inl (cT, 8, .inr (.inr (.inr (.inr rf)))))]) [0, 1, 2] (by decide) rfl
        have hF := fz_keep hF0 hFA hS
        refine vx_widen (k := 1) (n := 6) (by omega) (by omega) ?_
        exact vx_out (fun x h => (htab x h).elim) hlocks hc9 hcv9 hcl9 (fun t9 g1 g2 => (fun w9 => ⟨(), trivial, ⟨(Or.inl ⟨hx8, (fun z9 => hs8 ⟨z9.2.2.1, z9.2.2.2.1⟩)⟩), w9.1⟩, w9.2⟩) (zx_o hP hK hD hS g1 g2)) hS.2.2 (Nat.le_refl _) (Nat.le_refl _)
      · skip
        exact (hr8).elim
  · skip
    have hPc := hP.sub (ws' := []) [] rfl
    have hDc := hD.sub (ws' := []) [] (by decide) rfl
    have hFr := va_free (wc := []) hD hS hA [] rfl
    refine mx_callR (vx_runV (As := [.int (zI (x))]) (rest := []) ⟨hx, hb, hml, hown, hg⟩ (c_X_termOf_no l dC dI cI cZ cT cJ ox o aA aR aW aV sy ar rk wt sv od dH dP dE dT dz dt hd pcs de dh orr rL rR rB rc lf rf bd og oG gr ta tH tP tE tn TH TM TE TG HT LI RI pl tc xT tf x sg.heap.size hst htc htf h32x hs2) ⟨callB_of 1 hg (gw_ok (fun _ h => h) wd_372) rfl rfl rfl (hg _ wd_1) (hg _ wd_369) (by decide +kernel) ⟨Nat.le_of_ble_eq_true rfl, Nat.le_of_ble_eq_true rfl⟩, hg _ wd_371, hg _ se_X_termOf⟩ (mx_preV (va_recv (q0 := 0) hK hF rfl rfl) hPc (pw_c (q := (ox, .inr (5, [.ref o, .ref od, .ref xT, .ref orr, .ref og, .int (zI (↑tc))]))) hF 0 rfl (pw_c (q := (xT, .inl (cT, 160, .inr (.inr (.inr (.inr tf)))))) hF 1 rfl (pw_nil))) hK hN hDc (apw_c (q := (ox, .inr (5, [.ref o, .ref od, .ref xT, .ref orr, .ref og, .int (zI (↑tc))]))) (apw_f hD [] rfl (hFA 0 _ rfl)) (apw_c (q := (xT, .inl (cT, 160, .inr (.inr (.inr (.inr tf)))))) (apw_f hD [] rfl (hFA 1 _ rfl)) (apw_nil))) (exH.narrow (exH.kept hE hS.2.1) hFr)) rfl rfl hl.1 rfl (lv_room (Nat.le_of_ble_eq_true rfl)) qd_X_rule_2 ⟨Nat.le_of_ble_eq_true rfl, Nat.le_of_ble_eq_true rfl⟩) hS (fun q _ h => hFr q h) hFr (fun q _ h => hFr q h) (fun E9 ce9 q9 u9 t9 H2_8 L2_8 ht9 hv9 _ hx2 hz9 hk9 hS hc9 hcv9 hcl9 => ?_) (fun r2 u9 t9 H2_8 L2_8 ht9 hv9 hr2 hB9 hz9 hk9 hS => ?_)
    · skip
      obtain ⟨hx2, hB9⟩ := hx2
      try dsimp only at hx2 hB9
      obtain ⟨hP, hD⟩ := mw_join (wr := [(orr, .inr (4, [.ref rL, .ref rR, .ref rB, .int (zI (↑rc))])), (rL, .inl (cT, 8, .inr (.inr (.inr (.inr lf))))), (rR, .inl (cT, 8, .inr (.inr (.inr (.inr rf)))))]) (w1 := []) hP hD [] [0, 1, 2] rfl rfl (by decide) (by decide) hk9 hFr ht9 hB9
      have hP := hP.sub (ws' := [(orr, .inr (4, [.ref rL, .ref rR, .ref rB, .int (zI (↑rc))])), (rL, .inl (cT, 8, .inr (.inr (.inr (.inr lf))))), (rR, .inl (cT, 8, .inr (.inr (.inr (.inr rf)))))]) [0, 1, 2] rfl
      have hD := hD.sub (ws' := [(orr, .inr (4, [.ref rL, .ref rR, .ref rB, .int (zI (↑rc))])), (rL, .inl (cT, 8, .inr (.inr (.inr (.inr lf))))), (rR, .inl (cT, 8, .inr (.inr (.inr (.inr rf)))))]) [0, 1, 2] (by decide) rfl
      have hF := fz_keep hF0 hFA hS
      refine vx_widen (k := 1) (n := 6) (by omega) (by omega) ?_
      exact vx_out (fun x h => (htab x h).elim) hlocks hc9 hcv9 hcl9 (fun t9 g1 g2 => (fun w9 => ⟨(), trivial, ⟨(Or.inl ⟨hx2, (fun z9 => hs2 ⟨z9.1, z9.2.1⟩)⟩), w9.1⟩, w9.2⟩) (zx_o hP hK hD hS g1 g2)) hS.2.2 (Nat.le_refl _) (Nat.le_refl _)
    · skip
      exact (hr2).elim
set_option maxHeartbeats 4000000 in
set_option maxRecDepth 100000 in
theorem c_X_search (l : Launch) (dC : Nat → ClassId) (dI : Nat → Nat → Nat) (cI cZ cT cJ : ClassId) (ox : Nat) (o aA aR aW aV sy : Nat) (ar rk wt sv : Nat → Int) (od dH dP dE dT dz : Nat) (dt : Bool) (hd pcs : Nat → Int) (de : Nat → Nat) (dh : Nat → Int) (orr rL rR rB rc : Nat) (lf rf : Nat → Option Nat) (bd : Nat → Int) (og oG : Nat) (gr : Nat → Bool) (ta tH tP tE tn : Nat → Nat) (TH TM : Nat → Nat → Int) (TE : Nat → Nat → Nat) (TG : Nat → Int) (HT : Nat → Nat → Int) (LI RI : Nat → Nat) (pl : va_W) (tc : Nat) (xT : Nat) (tf : Nat → Option Nat) (x : Int) (zh : Nat) (hst : l.stackTraces = false) (hsy : sy ≤ 5) (har : ∀ q, q < 5 → 0 ≤ ar q ∧ ar q ≤ 3) (hrk : ∀ q, q < 5 → 0 ≤ rk q ∧ rk q ≤ 4) (hwt : ∀ q, q < 5 → 0 ≤ wt q ∧ wt q ≤ 9) (htp : ∀ t, t < tc → okT sy ar (tn t) (TH t) (TM t) (TE t) (HT t) ∧ tin pl cI (ta t) (tH t) (tP t) (tE t) (tn t) (TH t) (TM t) (TE t) (TG t)) (hlr : ∀ r, r < rc → LI r < tc ∧ RI r < tc ∧ lf r = some (ta (LI r)) ∧ rf r = some (ta (RI r)) ∧ ∀ q, q < tn (RI r) → TH (RI r) q < 0 → ∃ k, k < tn (LI r) ∧ TH (LI r) k = TH (RI r) q) (hrc : rc ≤ 8) (h32x : -2147483648 ≤ x ∧ x < 2147483648) : vx_Met l qy_X_search qw_X_search ({ frames := 7, cells := 1, slots := 6, locals := 145 }) (mxP (dC, dI) qcl (qty cI cZ cT cJ) nwL [(aR, .inl (cI, 5, .inl (zA rk))), (aV, .inl (cI, 5, .inl (zA sv))), (oG, .inl (cZ, 256, .inl (zB gr)))] ([(ox, .inr (5, [.ref o, .ref od, .ref xT, .ref orr, .ref og, .int (zI (↑tc))])), (o, .inr (0, [.ref aA, .ref aR, .ref aW, .ref aV, .int (zI (↑sy))])), (aA, .inl (cI, 5, .inl (zA ar))), (aW, .inl (cI, 5, .inl (zA wt))), (orr, .inr (4, [.ref rL, .ref rR, .ref rB, .int (zI (↑rc))])), (rL, .inl (cT, 8, .inr (.inr (.inr (.inr lf))))), (rR, .inl (cT, 8, .inr (.inr (.inr (.inr rf))))), (og, .inr (3, [.ref o, .ref oG]))] ++ pl) zh [.ref ox, .int (zI (x))]) (mwO (S := (Nat → Int) × (Nat → Int) × (Nat → Bool)) (fun r uq => (0 ≤ x ∧ x ≤ 1) ∧ ((r = true ∧ ∃ w, w < sy ^ sy ∧ (ds sy w = true ∧ (x = 1 → ∀ us, us < sy → ¬ (ar us = 0 ∧ wt us = 0) ∧ ∀ t, t < sy → ¬ (ar us = 1 ∧ wt us = 0 ∧ t ≠ us ∧ ((rkW sy w rk)) us ≤ ((rkW sy w rk)) t)) ∧ ∀ k, k < rc → gtO x ((rkW sy w rk)) wt (TH (LI k)) (TE (LI k)) (TM (LI k)) (tn (LI k)) (TH (RI k)) (TE (RI k)) (TM (RI k)) (tn (RI k))) ∧ (∀ w1, w1 < w → ¬ (ds sy w1 = true ∧ (x = 1 → ∀ us, us < sy → ¬ (ar us = 0 ∧ wt us = 0) ∧ ∀ t, t < sy → ¬ (ar us = 1 ∧ wt us = 0 ∧ t ≠ us ∧ ((rkW sy w1 rk)) us ≤ ((rkW sy w1 rk)) t)) ∧ ∀ k, k < rc → gtO x ((rkW sy w1 rk)) wt (TH (LI k)) (TE (LI k)) (TM (LI k)) (tn (LI k)) (TH (RI k)) (TE (RI k)) (TM (RI k)) (tn (RI k)))) ∧ uq.1 = rkW sy w rk) ∨ (r = false ∧ (∀ w, w < sy ^ sy → ¬ (ds sy w = true ∧ (x = 1 → ∀ us, us < sy → ¬ (ar us = 0 ∧ wt us = 0) ∧ ∀ t, t < sy → ¬ (ar us = 1 ∧ wt us = 0 ∧ t ≠ us ∧ ((rkW sy w rk)) us ≤ ((rkW sy w rk)) t)) ∧ ∀ k, k < rc → gtO x ((rkW sy w rk)) wt (TH (LI k)) (TE (LI k)) (TM (LI k)) (tn (LI k)) (TH (RI k)) (TE (RI k)) (TM (RI k)) (tn (RI k)))) ∧ uq.1 = rk))) (fun uq tq => mwB (dC, dI) qcl (qty cI cZ cT cJ) (va_A [(aR, .inl (cI, 5, .inl (zA rk))), (aV, .inl (cI, 5, .inl (zA sv))), (oG, .inl (cZ, 256, .inl (zB gr)))] zh) [(aR, .inl (cI, 5, .inl (zA uq.1))), (aV, .inl (cI, 5, .inl (zA uq.2.1))), (oG, .inl (cZ, 256, .inl (zB uq.2.2)))] tq) (va_A [(aR, .inl (cI, 5, .inl (zA rk))), (aV, .inl (cI, 5, .inl (zA sv))), (oG, .inl (cZ, 256, .inl (zB gr)))] zh)) (vx_X (S := Unit) (fun _ => True) (fun E uq tq => (E = "java/lang/IllegalArgumentException" ∧ ¬ (0 ≤ x ∧ x ≤ 1)) ∧ mwB (dC, dI) qcl (qty cI cZ cT cJ) (va_A [(aR, .inl (cI, 5, .inl (zA rk))), (aV, .inl (cI, 5, .inl (zA sv))), (oG, .inl (cZ, 256, .inl (zB gr)))] zh) [(aR, .inl (cI, 5, .inl (zA rk))), (aV, .inl (cI, 5, .inl (zA sv))), (oG, .inl (cZ, 256, .inl (zB gr)))] tq) (va_A [(aR, .inl (cI, 5, .inl (zA rk))), (aV, .inl (cI, 5, .inl (zA sv))), (oG, .inl (cZ, 256, .inl (zB gr)))] zh)) 1 6 (va_A [(aR, .inl (cI, 5, .inl (zA rk))), (aV, .inl (cI, 5, .inl (zA sv))), (oG, .inl (cZ, 256, .inl (zB gr)))] zh) := by
  refine vx_ofW (cc := qc_X_search) (maxL := 4) (ret := (Option.some Jvm.ClassFile.FieldType.boolean)) (by decide) rfl ?_
  intro pg eg sg mg args below meth cg s₁ B hml htab hv
  obtain ⟨rfl, ⟨hsz, hP, hF0, hK, hN, hD0, hap⟩, hE⟩ := hv
  have hx := B.exec
  have hb := B.bytes
  have hr := B.returns
  have hts := atoms_spec (ws := qw_X_search) B.pre
  have hg : ∀ w ∈ gw, w.before _ sg = true := fun w h => hts w (List.mem_cons_of_mem _ h)
  have hown : sg.vm.findClass "TermOrders" = some mg.cls := findClass_of_methodNamed B.named
  have hlocks := B.notSynchronized
  have hl := lv_entry ([.ref ox, .int (zI (x))]) (n := 4) (Nat.le_of_ble_eq_true rfl)
  rw [lg_entry_eq]
  generalize (lg_sl ([.ref ox, .int (zI (x))]) ++ List.replicate (4 - (lg_sl ([.ref ox, .int (zI (x))])).length) Slot.unset).toArray = ls at hl ⊢
  subst hsz
  have hD := hD0.self (sz := sg.heap.size)
  have hFA := apw_A hap (fun k q hk => (hF0 k q hk).lt)
  generalize hAe : va_A [(aR, .inl (cI, 5, .inl (zA rk))), (aV, .inl (cI, 5, .inl (zA sv))), (oG, .inl (cZ, 256, .inl (zB gr)))] sg.heap.size = A at hD hFA hE ⊢
  have hA : ∀ q : Nat, sg.heap.size ≤ q → A q := fun q h => by rw [← hAe]; exact Or.inr h
  have hS : va_S A sg.heap sg.heap [] := va_S.rf
  have hF := hF0
  have hl : lv_has ls 4 [(0, .ref ox), (1, .int (zI (x)))] := hl
  refine lv_aload_n hx hb qd_X_search_0 rfl (lv_at hl 0 rfl) ?_
  refine lv_iload_n hx hb qd_X_search_1 rfl (lv_at hl 1 rfl) ?_
  by_cases hs2 : 0 ≤ x ∧ x ≤ 1
  · skip
    have hPc := hP.sub (ws' := []) [] rfl
    have hDc := hD.sub (ws' := []) [] (by decide) rfl
    have hFr := va_free (wc := []) hD hS hA [] rfl
    refine va_callv (va_runV (As := [.int (zI (x))]) (rest := []) ⟨hx, hb, hml, hown, hg⟩ (c_X_checkOrder_ok l dC dI cI cZ cT cJ ox o aA aR aW aV sy ar rk wt sv od dH dP dE dT dz dt hd pcs de dh orr rL rR rB rc lf rf bd og oG gr ta tH tP tE tn TH TM TE TG HT LI RI pl tc xT tf x sg.heap.size h32x hs2) ⟨callB_of 1 hg (gw_ok (fun _ h => h) wd_430) rfl rfl rfl (hg _ wd_1) (hg _ wd_427) (by decide +kernel) ⟨Nat.le_of_ble_eq_true rfl, Nat.le_of_ble_eq_true rfl⟩, hg _ wd_429, hg _ se_X_checkOrder⟩ (mw_preV (va_recv (q0 := 0) hK hF rfl rfl) hPc (pw_c (q := (ox, .inr (5, [.ref o, .ref od, .ref xT, .ref orr, .ref og, .int (zI (↑tc))]))) hF 0 rfl (pw_nil)) hK hN hDc (apw_c (q := (ox, .inr (5, [.ref o, .ref od, .ref xT, .ref orr, .ref og, .int (zI (↑tc))]))) (apw_f hD [] rfl (hFA 0 _ rfl)) (apw_nil))) rfl rfl hl.1 rfl (lv_room (Nat.le_of_ble_eq_true rfl)) qd_X_search_2 ⟨Nat.le_of_ble_eq_true rfl, Nat.le_of_ble_eq_true rfl⟩) hS (fun q _ h => hFr q h) hFr (fun u9 t9 H2_1 L2_1 ht9 hv9 hr2 hB9 hz9 hk9 hS => ?_)
    obtain ⟨hP, hD⟩ := mw_join (wr := [(aR, .inl (cI, 5, .inl (zA rk))), (aV, .inl (cI, 5, .inl (zA sv))), (oG, .inl (cZ, 256, .inl (zB gr)))]) (w1 := []) hP hD [] [0, 1, 2] rfl rfl (by decide) (by decide) hk9 hFr ht9 hB9
    have hP := hP.sub (ws' := [(aR, .inl (cI, 5, .inl (zA rk))), (aV, .inl (cI, 5, .inl (zA sv))), (oG, .inl (cZ, 256, .inl (zB gr)))]) [0, 1, 2] rfl
    have hD := hD.sub (ws' := [(aR, .inl (cI, 5, .inl (zA rk))), (aV, .inl (cI, 5, .inl (zA sv))), (oG, .inl (cZ, 256, .inl (zB gr)))]) [0, 1, 2] (by decide) rfl
    have hF := fz_keep hF0 hFA hS
    refine lv_aload_n hx hb qd_X_search_5 rfl (lv_at hl 0 rfl) ?_
    refine va_get (D := (dC, dI)) (ci := 5) (v := .ref o) (C := "TermOrders") (T := qT_X) (N := 6) hx hb hg qi_X hown hK hF 0 rfl rfl 0 (by decide) (hg _ wd_120) (fun _ h9 => h9) rfl qd_X_search_6 ?_
    have hPc := hP.sub (ws' := [(aR, .inl (cI, 5, .inl (zA rk))), (aV, .inl (cI, 5, .inl (zA sv)))]) [0, 1] rfl
    have hDc := hD.sub (ws' := [(aR, .inl (cI, 5, .inl (zA rk))), (aV, .inl (cI, 5, .inl (zA sv)))]) [0, 1] (by decide) rfl
    have hFr := va_free (wc := [(aR, .inl (cI, 5, .inl (zA rk))), (aV, .inl (cI, 5, .inl (zA sv)))]) hD hS hA [0, 1] rfl
    refine va_callv (va_runVN (As := []) (rest := []) ⟨hx, hb, hml, hown, hg⟩ (c_S_saveRanks l dC dI cI cZ cT cJ o aA aR aW aV sy ar rk wt sv H2_1.size ) ⟨va_cnB 0 hg (gw_ok (fun _ h => h) wd_510) rfl rfl rfl (hN.use nw_507) (hg _ wd_2) (by decide +kernel) ⟨Nat.le_of_ble_eq_true rfl, Nat.le_of_ble_eq_true rfl⟩, hg _ wd_509, hg _ se_S_saveRanks⟩ (mw_preV (va_recv (q0 := 1) hK hF rfl rfl) hPc (pw_c (q := (o, .inr (0, [.ref aA, .ref aR, .ref aW, .ref aV, .int (zI (↑sy))]))) hF 1 rfl (pw_nil)) hK hN hDc (apw_c (q := (o, .inr (0, [.ref aA, .ref aR, .ref aW, .ref aV, .int (zI (↑sy))]))) (apw_f hD [0, 1] rfl (hFA 1 _ rfl)) (apw_nil))) rfl rfl hl.1 rfl (lv_room (Nat.le_of_ble_eq_true rfl)) qd_X_search_9 ⟨Nat.le_of_ble_eq_true rfl, Nat.le_of_ble_eq_true rfl⟩) hS (fun q _ h => hFr q h) hFr (fun u9 t9 H9_2 L9_2 ht9 hv9 hr9 hB9 hz9 hk9 hS => ?_)
    obtain ⟨hP, hD⟩ := mw_join (wr := [(oG, .inl (cZ, 256, .inl (zB gr)))]) (w1 := [(aR, .inl (cI, 5, .inl (zA rk))), (aV, .inl (cI, 5, .inl (zA rk)))]) hP hD [0, 1] [2] rfl rfl (by decide) (by decide) hk9 hFr ht9 hB9
    have hP := hP.sub (ws' := [(aR, .inl (cI, 5, .inl (zA rk))), (aV, .inl (cI, 5, .inl (zA rk))), (oG, .inl (cZ, 256, .inl (zB gr)))]) [1, 2, 0] rfl
    have hD := hD.sub (ws' := [(aR, .inl (cI, 5, .inl (zA rk))), (aV, .inl (cI, 5, .inl (zA rk))), (oG, .inl (cZ, 256, .inl (zB gr)))]) [1, 2, 0] (by decide) rfl
    have hF := fz_keep hF0 hFA hS
    refine lv_aload_n hx hb qd_X_search_12 rfl (lv_at hl 0 rfl) ?_
    refine va_get (D := (dC, dI)) (ci := 5) (v := .ref o) (C := "TermOrders") (T := qT_X) (N := 6) hx hb hg qi_X hown hK hF 0 rfl rfl 0 (by decide) (hg _ wd_120) (fun _ h9 => h9) rfl qd_X_search_13 ?_
    have hPc := hP.sub (ws' := [(aR, .inl (cI, 5, .inl (zA rk)))]) [0] rfl
    have hDc := hD.sub (ws' := [(aR, .inl (cI, 5, .inl (zA rk)))]) [0] (by decide) rfl
    have hFr := va_free (wc := [(aR, .inl (cI, 5, .inl (zA rk)))]) hD hS hA [0] rfl
    refine va_callv (va_runVN (As := []) (rest := []) ⟨hx, hb, hml, hown, hg⟩ (c_S_takeFirstRanks l dC dI cI cZ cT cJ o aA aR aW aV sy ar rk wt rk H9_2.size hsy) ⟨va_cnB 0 hg (gw_ok (fun _ h => h) wd_515) rfl rfl rfl (hN.use nw_512) (hg _ wd_2) (by decide +kernel) ⟨Nat.le_of_ble_eq_true rfl, Nat.le_of_ble_eq_true rfl⟩, hg _ wd_514, hg _ se_S_takeFirstRanks⟩ (mw_preV (va_recv (q0 := 1) hK hF rfl rfl) hPc (pw_c (q := (o, .inr (0, [.ref aA, .ref aR, .ref aW, .ref aV, .int (zI (↑sy))]))) hF 1 rfl (pw_nil)) hK hN hDc (apw_c (q := (o, .inr (0, [.ref aA, .ref aR, .ref aW, .ref aV, .int (zI (↑sy))]))) (apw_f hD [0] rfl (hFA 1 _ rfl)) (apw_nil))) rfl rfl hl.1 rfl (lv_room (Nat.le_of_ble_eq_true rfl)) qd_X_search_16 ⟨Nat.le_of_ble_eq_true rfl, Nat.le_of_ble_eq_true rfl⟩) hS (fun q _ h => hFr q h) hFr (fun rkf t9 H16_3 L16_3 ht9 hv9 hr16 hB9 hz9 hk9 hS => ?_)
    try dsimp only at hr16 hB9
    obtain ⟨hP, hD⟩ := mw_join (wr := [(aV, .inl (cI, 5, .inl (zA rk))), (oG, .inl (cZ, 256, .inl (zB gr)))]) (w1 := [(aR, .inl (cI, 5, .inl (zA rkf)))]) hP hD [0] [1, 2] rfl rfl (by decide) (by decide) hk9 hFr ht9 hB9
    have hP := hP.sub (ws' := [(aR, .inl (cI, 5, .inl (zA rkf))), (aV, .inl (cI, 5, .inl (zA rk))), (oG, .inl (cZ, 256, .inl (zB gr)))]) [2, 0, 1] rfl
    have hD := hD.sub (ws' := [(aR, .inl (cI, 5, .inl (zA rkf))), (aV, .inl (cI, 5, .inl (zA rk))), (oG, .inl (cZ, 256, .inl (zB gr)))]) [2, 0, 1] (by decide) rfl
    have hF := fz_keep hF0 hFA hS
    obtain ⟨f1, f2, f3, f4, f5⟩ := way_first hsy
    have e9 := rkW_of (w := fs sy) (fun q hq => by rw [hr16.1 q hq, f3 q hq]) hr16.2
    subst e9
    refine lv_aload_n hx hb qd_X_search_19 rfl (lv_at hl 0 rfl) ?_
    refine lv_iload_n hx hb qd_X_search_20 rfl (lv_at hl 1 rfl) ?_
    have hPc := hP.sub (ws' := [(oG, .inl (cZ, 256, .inl (zB gr)))]) [2] rfl
    have hDc := hD.sub (ws' := [(oG, .inl (cZ, 256, .inl (zB gr)))]) [2] (by decide) rfl
    have hFr := va_free (wc := [(oG, .inl (cZ, 256, .inl (zB gr)))]) hD hS hA [2] rfl
    refine mw_callO (va_runV (As := [.int (zI (x))]) (rest := []) ⟨hx, hb, hml, hown, hg⟩ (c_X_isOrientedAsDue l dC dI cI cZ cT cJ ox o aA aR aW aV sy ar ((rkW sy (fs sy) rk)) wt rk od dH dP dE dT dz dt hd pcs de dh orr rL rR rB rc lf rf bd og oG gr ta tH tP tE tn TH TM TE TG HT LI RI pl tc xT tf x H16_3.size hsy har (rkW_b hsy hrk) hwt htp hlr hrc hs2) ⟨callB_of 1 hg (gw_ok (fun _ h => h) wd_519) rfl rfl rfl (hg _ wd_1) (hg _ wd_516) (by decide +kernel) ⟨Nat.le_of_ble_eq_true rfl, Nat.le_of_ble_eq_true rfl⟩, hg _ wd_518, hg _ se_X_isOrientedAsDue⟩ (mw_preV (va_recv (q0 := 0) hK hF rfl rfl) hPc (pw_c (q := (ox, .inr (5, [.ref o, .ref od, .ref xT, .ref orr, .ref og, .int (zI (↑tc))]))) hF 0 rfl (pw_c (q := (orr, .inr (4, [.ref rL, .ref rR, .ref rB, .int (zI (↑rc))]))) hF 4 rfl (pw_c (q := (rL, .inl (cT, 8, .inr (.inr (.inr (.inr lf)))))) hF 5 rfl (pw_c (q := (rR, .inl (cT, 8, .inr (.inr (.inr (.inr rf)))))) hF 6 rfl (pw_c (q := (og, .inr (3, [.ref o, .ref oG]))) hF 7 rfl (pw_c (q := (o, .inr (0, [.ref aA, .ref aR, .ref aW, .ref aV, .int (zI (↑sy))]))) hF 1 rfl (pw_c (q := (aA, .inl (cI, 5, .inl (zA ar)))) hF 2 rfl (pw_c (q := (aR, .inl (cI, 5, .inl (zA (((rkW sy (fs sy) rk))))))) hP 0 rfl (pw_c (q := (aW, .inl (cI, 5, .inl (zA wt)))) hF 3 rfl (pw_c (q := (aV, .inl (cI, 5, .inl (zA rk)))) hP 1 rfl (pw_tail [(ox, .inr (5, [.ref o, .ref od, .ref xT, .ref orr, .ref og, .int (zI (↑tc))])), (o, .inr (0, [.ref aA, .ref aR, .ref aW, .ref aV, .int (zI (↑sy))])), (aA, .inl (cI, 5, .inl (zA ar))), (aW, .inl (cI, 5, .inl (zA wt))), (orr, .inr (4, [.ref rL, .ref rR, .ref rB, .int (zI (↑rc))])), (rL, .inl (cT, 8, .inr (.inr (.inr (.inr lf))))), (rR, .inl (cT, 8, .inr (.inr (.inr (.inr rf))))), (og, .inr (3, [.ref o, .ref oG]))] hF))))))))))) hK hN hDc (apw_c (q := (ox, .inr (5, [.ref o, .ref od, .ref xT, .ref orr, .ref og, .int (zI (↑tc))]))) (apw_f hD [2] rfl (hFA 0 _ rfl)) (apw_c (q := (orr, .inr (4, [.ref rL, .ref rR, .ref rB, .int (zI (↑rc))]))) (apw_f hD [2] rfl (hFA 4 _ rfl)) (apw_c (q := (rL, .inl (cT, 8, .inr (.inr (.inr (.inr lf)))))) (apw_f hD [2] rfl (hFA 5 _ rfl)) (apw_c (q := (rR, .inl (cT, 8, .inr (.inr (.inr (.inr rf)))))) (apw_f hD [2] rfl (hFA 6 _ rfl)) (apw_c (q := (og, .inr (3, [.ref o, .ref oG]))) (apw_f hD [2] rfl (hFA 7 _ rfl)) (apw_c (q := (o, .inr (0, [.ref aA, .ref aR, .ref aW, .ref aV, .int (zI (↑sy))]))) (apw_f hD [2] rfl (hFA 1 _ rfl)) (apw_c (q := (aA, .inl (cI, 5, .inl (zA ar)))) (apw_f hD [2] rfl (hFA 2 _ rfl)) (apw_c (q := (aR, .inl (cI, 5, .inl (zA (((rkW sy (fs sy) rk))))))) (apw_m hD [2] rfl 0 rfl (by decide)) (apw_c (q := (aW, .inl (cI, 5, .inl (zA wt)))) (apw_f hD [2] rfl (hFA 3 _ rfl)) (apw_c (q := (aV, .inl (cI, 5, .inl (zA rk)))) (apw_m hD [2] rfl 1 rfl (by decide)) (apw_pool hD [2] rfl (hA_tail [(ox, .inr (5, [.ref o, .ref od, .ref xT, .ref orr, .ref og, .int (zI (↑tc))])), (o, .inr (0, [.ref aA, .ref aR, .ref aW, .ref aV, .int (zI (↑sy))])), (aA, .inl (cI, 5, .inl (zA ar))), (aW, .inl (cI, 5, .inl (zA wt))), (orr, .inr (4, [.ref rL, .ref rR, .ref rB, .int (zI (↑rc))])), (rL, .inl (cT, 8, .inr (.inr (.inr (.inr lf))))), (rR, .inl (cT, 8, .inr (.inr (.inr (.inr rf))))), (og, .inr (3, [.ref o, .ref oG]))] hFA))))))))))))) rfl rfl hl.1 rfl (lv_room (Nat.le_of_ble_eq_true rfl)) qd_X_search_21 ⟨Nat.le_of_ble_eq_true rfl, Nat.le_of_ble_eq_true rfl⟩) hS (fun q _ h => hFr q h) hFr (fun r21 gr1 t9 H21_4 L21_4 ht9 hv9 hr21 hB9 hz9 hk9 hS => ?_)
    try dsimp only at hr21 hB9
    obtain ⟨hP, hD⟩ := mw_join (wr := [(aR, .inl (cI, 5, .inl (zA ((rkW sy (fs sy) rk))))), (aV, .inl (cI, 5, .inl (zA rk)))]) (w1 := [(oG, .inl (cZ, 256, .inl (zB gr1)))]) hP hD [2] [0, 1] rfl rfl (by decide) (by decide) hk9 hFr ht9 hB9
    have hP := hP.sub (ws' := [(aR, .inl (cI, 5, .inl (zA ((rkW sy (fs sy) rk))))), (aV, .inl (cI, 5, .inl (zA rk))), (oG, .inl (cZ, 256, .inl (zB gr1)))]) [0, 1, 2] rfl
    have hD := hD.sub (ws' := [(aR, .inl (cI, 5, .inl (zA ((rkW sy (fs sy) rk))))), (aV, .inl (cI, 5, .inl (zA rk))), (oG, .inl (cZ, 256, .inl (zB gr1)))]) [0, 1, 2] (by decide) rfl
    have hF := fz_keep hF0 hFA hS
    refine lv_istore_n (lv' := [(2, .int (zI (bI (r21)))), (0, .ref ox), (1, .int (zI (x)))]) hx hb qd_X_search_24 rfl hl (by decide) rfl (fun ls hl => ?_)
    refine lv_iconst (v := zI 1) hx hb qd_X_search_25 rfl ?_
    refine lv_istore_n (lv' := [(3, .int (zI (1))), (2, .int (zI (bI (r21)))), (0, .ref ox), (1, .int (zI (x)))]) hx hb qd_X_search_26 rfl hl (by decide) rfl (fun ls hl => ?_)
    have L27 : ∀ (mu27 : Nat) (wy : Nat) (w : Nat) (fd : Bool) (gz : Nat → Bool), (1 ≤ wy ∧ wy ≤ 120) → (w < sy ^ sy) → (ds sy w = true) → (cd sy w + 1 = wy) → (fd = true → (ds sy w = true ∧ (x = 1 → ∀ us, us < sy → ¬ (ar us = 0 ∧ wt us = 0) ∧ ∀ t, t < sy → ¬ (ar us = 1 ∧ wt us = 0 ∧ t ≠ us ∧ ((rkW sy w rk)) us ≤ ((rkW sy w rk)) t)) ∧ ∀ k, k < rc → gtO x ((rkW sy w rk)) wt (TH (LI k)) (TE (LI k)) (TM (LI k)) (tn (LI k)) (TH (RI k)) (TE (RI k)) (TM (RI k)) (tn (RI k)))) → (fd = false → ¬ (ds sy w = true ∧ (x = 1 → ∀ us, us < sy → ¬ (ar us = 0 ∧ wt us = 0) ∧ ∀ t, t < sy → ¬ (ar us = 1 ∧ wt us = 0 ∧ t ≠ us ∧ ((rkW sy w rk)) us ≤ ((rkW sy w rk)) t)) ∧ ∀ k, k < rc → gtO x ((rkW sy w rk)) wt (TH (LI k)) (TE (LI k)) (TM (LI k)) (tn (LI k)) (TH (RI k)) (TE (RI k)) (TM (RI k)) (tn (RI k)))) → (∀ w1, w1 < w → ¬ (ds sy w1 = true ∧ (x = 1 → ∀ us, us < sy → ¬ (ar us = 0 ∧ wt us = 0) ∧ ∀ t, t < sy → ¬ (ar us = 1 ∧ wt us = 0 ∧ t ≠ us ∧ ((rkW sy w1 rk)) us ≤ ((rkW sy w1 rk)) t)) ∧ ∀ k, k < rc → gtO x ((rkW sy w1 rk)) wt (TH (LI k)) (TE (LI k)) (TM (LI k)) (tn (LI k)) (TH (RI k)) (TE (RI k)) (TM (RI k)) (tn (RI k)))) → 120 - wy = mu27 → ∀ (H27_5 : Heap) (L27_5 : List Loc), va_P (dC, dI) qcl [(aR, .inl (cI, 5, .inl (zA ((rkW sy w rk))))), (aV, .inl (cI, 5, .inl (zA rk))), (oG, .inl (cZ, 256, .inl (zB gz)))] H27_5 → va_D A [(aR, .inl (cI, 5, .inl (zA ((rkW sy w rk))))), (aV, .inl (cI, 5, .inl (zA rk))), (oG, .inl (cZ, 256, .inl (zB gz)))] → va_S A sg.heap H27_5 L27_5 → ∀ ls : Array Slot, lv_has ls 4 [(3, .int (zI (↑wy))), (2, .int (zI (bI (fd)))), (0, .ref ox), (1, .int (zI (x)))] → W pg l eg (headSpec qw_X_search ({ frames := 7, cells := 1, slots := 6, locals := 145 })).room sg mg ([.ref ox, .int (zI (x))] : List Value).toArray below meth cg H27_5 L27_5 0 0 (vx_MQ below (mwO (S := (Nat → Int) × (Nat → Int) × (Nat → Bool)) (fun r uq => (0 ≤ x ∧ x ≤ 1) ∧ ((r = true ∧ ∃ w, w < sy ^ sy ∧ (ds sy w = true ∧ (x = 1 → ∀ us, us < sy → ¬ (ar us = 0 ∧ wt us = 0) ∧ ∀ t, t < sy → ¬ (ar us = 1 ∧ wt us = 0 ∧ t ≠ us ∧ ((rkW sy w rk)) us ≤ ((rkW sy w rk)) t)) ∧ ∀ k, k < rc → gtO x ((rkW sy w rk)) wt (TH (LI k)) (TE (LI k)) (TM (LI k)) (tn (LI k)) (TH (RI k)) (TE (RI k)) (TM (RI k)) (tn (RI k))) ∧ (∀ w1, w1 < w → ¬ (ds sy w1 = true ∧ (x = 1 → ∀ us, us < sy → ¬ (ar us = 0 ∧ wt us = 0) ∧ ∀ t, t < sy → ¬ (ar us = 1 ∧ wt us = 0 ∧ t ≠ us ∧ ((rkW sy w1 rk)) us ≤ ((rkW sy w1 rk)) t)) ∧ ∀ k, k < rc → gtO x ((rkW sy w1 rk)) wt (TH (LI k)) (TE (LI k)) (TM (LI k)) (tn (LI k)) (TH (RI k)) (TE (RI k)) (TM (RI k)) (tn (RI k)))) ∧ uq.1 = rkW sy w rk) ∨ (r = false ∧ (∀ w, w < sy ^ sy → ¬ (ds sy w = true ∧ (x = 1 → ∀ us, us < sy → ¬ (ar us = 0 ∧ wt us = 0) ∧ ∀ t, t < sy → ¬ (ar us = 1 ∧ wt us = 0 ∧ t ≠ us ∧ ((rkW sy w rk)) us ≤ ((rkW sy w rk)) t)) ∧ ∀ k, k < rc → gtO x ((rkW sy w rk)) wt (TH (LI k)) (TE (LI k)) (TM (LI k)) (tn (LI k)) (TH (RI k)) (TE (RI k)) (TM (RI k)) (tn (RI k)))) ∧ uq.1 = rk))) (fun uq tq => mwB (dC, dI) qcl (qty cI cZ cT cJ) A [(aR, .inl (cI, 5, .inl (zA uq.1))), (aV, .inl (cI, 5, .inl (zA uq.2.1))), (oG, .inl (cZ, 256, .inl (zB uq.2.2)))] tq) A) (vx_X (S := Unit) (fun _ => True) (fun E uq tq => (E = "java/lang/IllegalArgumentException" ∧ ¬ (0 ≤ x ∧ x ≤ 1)) ∧ mwB (dC, dI) qcl (qty cI cZ cT cJ) A [(aR, .inl (cI, 5, .inl (zA rk))), (aV, .inl (cI, 5, .inl (zA sv))), (oG, .inl (cZ, 256, .inl (zB gr)))] tq) A) ([.ref ox, .int (zI (x))] : List Value).toArray sg 1 6 A) (F0 mg 27 ls []) := by
      intro mu27
      induction mu27 using Nat.strongRecOn with
      | _ mu27 ih27 =>
        intro wy w fd gz hy1 hw1 hw2 hw3 hf1 hf2 hno hmu27 H27_5 L27_5 hP hD hS ls hl
        have hF := fz_keep hF0 hFA hS
        refine lv_iload_n hx hb qd_X_search_27 rfl (lv_at hl 0 rfl) ?_
        refine lv_bipush (v := zI 120) hx hb qd_X_search_28 (by decide) ?_
        refine zz_icmp_ge (tgt := 59) hx hb qd_X_search_30 (by decide) (by omega) (by omega) (fun h30 => ?_) (fun h30 => ?_)
        · skip
          have hnx : ∀ w1, w < w1 → w1 < sy ^ sy → ds sy w1 = false := way_120 hsy hw1 hw2 (by omega)
          refine lv_iload_n hx hb qd_X_search_59 rfl (lv_at hl 1 rfl) ?_
          refine zz_ifneB (tgt := 70) hx hb qd_X_search_60 (by decide) (fun h60 => ?_) (fun h60 => ?_)
          · skip
            refine lv_iload_n hx hb qd_X_search_70 rfl (lv_at hl 1 rfl) ?_
            refine W.widen (k := 1) (n := 6) (by omega) (by omega) ?_
            refine vx_ret ?_
            exact W.zret (v := zI (bI fd)) (ty := .boolean) hx hb hr (bI_n _) (fun t9 ht9 hW9 => ⟨⟨fd, (rkW sy w rk, rk, gz), rfl, ⟨hs2, Or.inl ⟨h60, w, hw1, hf1 h60, hno, rfl⟩⟩, mwB_i (by rw [ht9]; exact hP) (va_K.moved hW9.alike hK) hD⟩, hS.F ht9⟩) hS.2.2 qd_X_search_71
          · skip
            have hall : ∀ w1, w1 < sy ^ sy → ¬ (ds sy w1 = true ∧ (x = 1 → ∀ us, us < sy → ¬ (ar us = 0 ∧ wt us = 0) ∧ ∀ t, t < sy → ¬ (ar us = 1 ∧ wt us = 0 ∧ t ≠ us ∧ ((rkW sy w1 rk)) us ≤ ((rkW sy w1 rk)) t)) ∧ ∀ k, k < rc → gtO x ((rkW sy w1 rk)) wt (TH (LI k)) (TE (LI k)) (TM (LI k)) (tn (LI k)) (TH (RI k)) (TE (RI k)) (TM (RI k)) (tn (RI k))) := fun w1 hw z8 => if z1 : w1 < w then hno w1 z1 z8 else if z2 : w1 = w then hf2 h60 (z2 ▸ z8) else (by rw [hnx w1 (by omega) hw] at z8; exact Bool.noConfusion z8.1)
            refine lv_aload_n hx hb qd_X_search_63 rfl (lv_at hl 2 rfl) ?_
            refine va_get (D := (dC, dI)) (ci := 5) (v := .ref o) (C := "TermOrders") (T := qT_X) (N := 6) hx hb hg qi_X hown hK hF 0 rfl rfl 0 (by decide) (hg _ wd_120) (fun _ h9 => h9) rfl qd_X_search_64 ?_
            have hPc := hP.sub (ws' := [(aR, .inl (cI, 5, .inl (zA (((rkW sy w rk)))))), (aV, .inl (cI, 5, .inl (zA rk)))]) [0, 1] rfl
            have hDc := hD.sub (ws' := [(aR, .inl (cI, 5, .inl (zA (((rkW sy w rk)))))), (aV, .inl (cI, 5, .inl (zA rk)))]) [0, 1] (by decide) rfl
            have hFr := va_free (wc := [(aR, .inl (cI, 5, .inl (zA (((rkW sy w rk)))))), (aV, .inl (cI, 5, .inl (zA rk)))]) hD hS hA [0, 1] rfl
            refine va_callv (va_runVN (As := []) (rest := []) ⟨hx, hb, hml, hown, hg⟩ (c_S_restoreRanks l dC dI cI cZ cT cJ o aA aR aW aV sy ar ((rkW sy w rk)) wt rk H27_5.size ) ⟨va_cnB 0 hg (gw_ok (fun _ h => h) wd_539) rfl rfl rfl (hN.use nw_536) (hg _ wd_2) (by decide +kernel) ⟨Nat.le_of_ble_eq_true rfl, Nat.le_of_ble_eq_true rfl⟩, hg _ wd_538, hg _ se_S_restoreRanks⟩ (mw_preV (va_recv (q0 := 1) hK hF rfl rfl) hPc (pw_c (q := (o, .inr (0, [.ref aA, .ref aR, .ref aW, .ref aV, .int (zI (↑sy))]))) hF 1 rfl (pw_nil)) hK hN hDc (apw_c (q := (o, .inr (0, [.ref aA, .ref aR, .ref aW, .ref aV, .int (zI (↑sy))]))) (apw_f hD [0, 1] rfl (hFA 1 _ rfl)) (apw_nil))) rfl rfl hl.1 rfl (lv_room (Nat.le_of_ble_eq_true rfl)) qd_X_search_67 ⟨Nat.le_of_ble_eq_true rfl, Nat.le_of_ble_eq_true rfl⟩) hS (fun q _ h => hFr q h) hFr (fun u9 t9 H67_6 L67_6 ht9 hv9 hr67 hB9 hz9 hk9 hS => ?_)
            obtain ⟨hP, hD⟩ := mw_join (wr := [(oG, .inl (cZ, 256, .inl (zB gz)))]) (w1 := [(aR, .inl (cI, 5, .inl (zA rk))), (aV, .inl (cI, 5, .inl (zA rk)))]) hP hD [0, 1] [2] rfl rfl (by decide) (by decide) hk9 hFr ht9 hB9
            have hP := hP.sub (ws' := [(aR, .inl (cI, 5, .inl (zA rk))), (aV, .inl (cI, 5, .inl (zA rk))), (oG, .inl (cZ, 256, .inl (zB gz)))]) [1, 2, 0] rfl
            have hD := hD.sub (ws' := [(aR, .inl (cI, 5, .inl (zA rk))), (aV, .inl (cI, 5, .inl (zA rk))), (oG, .inl (cZ, 256, .inl (zB gz)))]) [1, 2, 0] (by decide) rfl
            have hF := fz_keep hF0 hFA hS
            refine lv_iload_n hx hb qd_X_search_70 rfl (lv_at hl 1 rfl) ?_
            refine W.widen (k := 1) (n := 6) (by omega) (by omega) ?_
            refine vx_ret ?_
            exact W.zret (v := zI (bI fd)) (ty := .boolean) hx hb hr (bI_n _) (fun t9 ht9 hW9 => ⟨⟨fd, (rk, rk, gz), rfl, ⟨hs2, Or.inr ⟨h60, hall, rfl⟩⟩, mwB_i (by rw [ht9]; exact hP) (va_K.moved hW9.alike hK) hD⟩, hS.F ht9⟩) hS.2.2 qd_X_search_71
        · skip
          refine lv_iload_n hx hb qd_X_search_33 rfl (lv_at hl 1 rfl) ?_
          refine zz_ifneB (tgt := 59) hx hb qd_X_search_34 (by decide) (fun h34 => ?_) (fun h34 => ?_)
          · skip
            refine lv_iload_n hx hb qd_X_search_59 rfl (lv_at hl 1 rfl) ?_
            refine zz_ifneB (tgt := 70) hx hb qd_X_search_60 (by decide) (fun h60 => ?_) (fun h60 => ?_)
            · skip
              refine lv_iload_n hx hb qd_X_search_70 rfl (lv_at hl 1 rfl) ?_
              refine W.widen (k := 1) (n := 6) (by omega) (by omega) ?_
              refine vx_ret ?_
              exact W.zret (v := zI (bI fd)) (ty := .boolean) hx hb hr (bI_n _) (fun t9 ht9 hW9 => ⟨⟨fd, (rkW sy w rk, rk, gz), rfl, ⟨hs2, Or.inl ⟨h60, w, hw1, hf1 h60, hno, rfl⟩⟩, mwB_i (by rw [ht9]; exact hP) (va_K.moved hW9.alike hK) hD⟩, hS.F ht9⟩) hS.2.2 qd_X_search_71
            · skip
              rw [h34] at h60
              exact Bool.noConfusion h60
          · skip
            refine lv_aload_n hx hb qd_X_search_37 rfl (lv_at hl 2 rfl) ?_
            refine va_get (D := (dC, dI)) (ci := 5) (v := .ref o) (C := "TermOrders") (T := qT_X) (N := 6) hx hb hg qi_X hown hK hF 0 rfl rfl 0 (by decide) (hg _ wd_120) (fun _ h9 => h9) rfl qd_X_search_38 ?_
            have hrw : ∀ q, q < sy → rkW sy w rk q = ↑(dg sy w q) := fun q hq => by unfold rkW; rw [if_pos hq]
            have hPc := hP.sub (ws' := [(aR, .inl (cI, 5, .inl (zA (((rkW sy w rk))))))]) [0] rfl
            have hDc := hD.sub (ws' := [(aR, .inl (cI, 5, .inl (zA (((rkW sy w rk))))))]) [0] (by decide) rfl
            have hFr := va_free (wc := [(aR, .inl (cI, 5, .inl (zA (((rkW sy w rk))))))]) hD hS hA [0] rfl
            refine mw_callO (va_runVN (As := []) (rest := []) ⟨hx, hb, hml, hown, hg⟩ (c_S_takeNextRanks l dC dI cI cZ cT cJ o aA aR aW aV sy ar ((rkW sy w rk)) wt rk H27_5.size hsy (rkW_b hsy hrk)) ⟨va_cnB 0 hg (gw_ok (fun _ h => h) wd_523) rfl rfl rfl (hN.use nw_520) (hg _ wd_2) (by decide +kernel) ⟨Nat.le_of_ble_eq_true rfl, Nat.le_of_ble_eq_true rfl⟩, hg _ wd_522, hg _ se_S_takeNextRanks⟩ (mw_preV (va_recv (q0 := 1) hK hF rfl rfl) hPc (pw_c (q := (o, .inr (0, [.ref aA, .ref aR, .ref aW, .ref aV, .int (zI (↑sy))]))) hF 1 rfl (pw_c (q := (aA, .inl (cI, 5, .inl (zA ar)))) hF 2 rfl (pw_c (q := (aW, .inl (cI, 5, .inl (zA wt)))) hF 3 rfl (pw_c (q := (aV, .inl (cI, 5, .inl (zA rk)))) hP 1 rfl (pw_nil))))) hK hN hDc (apw_c (q := (o, .inr (0, [.ref aA, .ref aR, .ref aW, .ref aV, .int (zI (↑sy))]))) (apw_f hD [0] rfl (hFA 1 _ rfl)) (apw_c (q := (aA, .inl (cI, 5, .inl (zA ar)))) (apw_f hD [0] rfl (hFA 2 _ rfl)) (apw_c (q := (aW, .inl (cI, 5, .inl (zA wt)))) (apw_f hD [0] rfl (hFA 3 _ rfl)) (apw_c (q := (aV, .inl (cI, 5, .inl (zA rk)))) (apw_m hD [0] rfl 1 rfl (by decide)) (apw_nil)))))) rfl rfl hl.1 rfl (lv_room (Nat.le_of_ble_eq_true rfl)) qd_X_search_41 ⟨Nat.le_of_ble_eq_true rfl, Nat.le_of_ble_eq_true rfl⟩) hS (fun q _ h => hFr q h) hFr (fun r41 rkn t9 H41_7 L41_7 ht9 hv9 hr41 hB9 hz9 hk9 hS => ?_)
            try dsimp only at hr41 hB9
            obtain ⟨hP, hD⟩ := mw_join (wr := [(aV, .inl (cI, 5, .inl (zA rk))), (oG, .inl (cZ, 256, .inl (zB gz)))]) (w1 := [(aR, .inl (cI, 5, .inl (zA rkn)))]) hP hD [0] [1, 2] rfl rfl (by decide) (by decide) hk9 hFr ht9 hB9
            have hP := hP.sub (ws' := [(aR, .inl (cI, 5, .inl (zA rkn))), (aV, .inl (cI, 5, .inl (zA rk))), (oG, .inl (cZ, 256, .inl (zB gz)))]) [2, 0, 1] rfl
            have hD := hD.sub (ws' := [(aR, .inl (cI, 5, .inl (zA rkn))), (aV, .inl (cI, 5, .inl (zA rk))), (oG, .inl (cZ, 256, .inl (zB gz)))]) [2, 0, 1] (by decide) rfl
            have hF := fz_keep hF0 hFA hS
            refine zz_ifeqB (tgt := 59) hx hb qd_X_search_44 (by decide) (fun h44 => ?_) (fun h44 => ?_)
            · skip
              have hnx : ∀ w1, w < w1 → w1 < sy ^ sy → ds sy w1 = false := sr_last hsy hw1 hw2 h44 hr41
              have e9 := sr_same h44 hr41
              clear hr41
              subst e9
              refine lv_iload_n hx hb qd_X_search_59 rfl (lv_at hl 1 rfl) ?_
              refine zz_ifneB (tgt := 70) hx hb qd_X_search_60 (by decide) (fun h60 => ?_) (fun h60 => ?_)
              · skip
                rw [h34] at h60
                exact Bool.noConfusion h60
              · skip
                have hall : ∀ w1, w1 < sy ^ sy → ¬ (ds sy w1 = true ∧ (x = 1 → ∀ us, us < sy → ¬ (ar us = 0 ∧ wt us = 0) ∧ ∀ t, t < sy → ¬ (ar us = 1 ∧ wt us = 0 ∧ t ≠ us ∧ ((rkW sy w1 rk)) us ≤ ((rkW sy w1 rk)) t)) ∧ ∀ k, k < rc → gtO x ((rkW sy w1 rk)) wt (TH (LI k)) (TE (LI k)) (TM (LI k)) (tn (LI k)) (TH (RI k)) (TE (RI k)) (TM (RI k)) (tn (RI k))) := fun w1 hw z8 => if z1 : w1 < w then hno w1 z1 z8 else if z2 : w1 = w then hf2 h60 (z2 ▸ z8) else (by rw [hnx w1 (by omega) hw] at z8; exact Bool.noConfusion z8.1)
                refine lv_aload_n hx hb qd_X_search_63 rfl (lv_at hl 2 rfl) ?_
                refine va_get (D := (dC, dI)) (ci := 5) (v := .ref o) (C := "TermOrders") (T := qT_X) (N := 6) hx hb hg qi_X hown hK hF 0 rfl rfl 0 (by decide) (hg _ wd_120) (fun _ h9 => h9) rfl qd_X_search_64 ?_
                have hPc := hP.sub (ws' := [(aR, .inl (cI, 5, .inl (zA (((rkW sy w rk)))))), (aV, .inl (cI, 5, .inl (zA rk)))]) [0, 1] rfl
                have hDc := hD.sub (ws' := [(aR, .inl (cI, 5, .inl (zA (((rkW sy w rk)))))), (aV, .inl (cI, 5, .inl (zA rk)))]) [0, 1] (by decide) rfl
                have hFr := va_free (wc := [(aR, .inl (cI, 5, .inl (zA (((rkW sy w rk)))))), (aV, .inl (cI, 5, .inl (zA rk)))]) hD hS hA [0, 1] rfl
                refine va_callv (va_runVN (As := []) (rest := []) ⟨hx, hb, hml, hown, hg⟩ (c_S_restoreRanks l dC dI cI cZ cT cJ o aA aR aW aV sy ar ((rkW sy w rk)) wt rk H41_7.size ) ⟨va_cnB 0 hg (gw_ok (fun _ h => h) wd_539) rfl rfl rfl (hN.use nw_536) (hg _ wd_2) (by decide +kernel) ⟨Nat.le_of_ble_eq_true rfl, Nat.le_of_ble_eq_true rfl⟩, hg _ wd_538, hg _ se_S_restoreRanks⟩ (mw_preV (va_recv (q0 := 1) hK hF rfl rfl) hPc (pw_c (q := (o, .inr (0, [.ref aA, .ref aR, .ref aW, .ref aV, .int (zI (↑sy))]))) hF 1 rfl (pw_nil)) hK hN hDc (apw_c (q := (o, .inr (0, [.ref aA, .ref aR, .ref aW, .ref aV, .int (zI (↑sy))]))) (apw_f hD [0, 1] rfl (hFA 1 _ rfl)) (apw_nil))) rfl rfl hl.1 rfl (lv_room (Nat.le_of_ble_eq_true rfl)) qd_X_search_67 ⟨Nat.le_of_ble_eq_true rfl, Nat.le_of_ble_eq_true rfl⟩) hS (fun q _ h => hFr q h) hFr (fun u9 t9 H67_8 L67_8 ht9 hv9 hr67 hB9 hz9 hk9 hS => ?_)
                obtain ⟨hP, hD⟩ := mw_join (wr := [(oG, .inl (cZ, 256, .inl (zB gz)))]) (w1 := [(aR, .inl (cI, 5, .inl (zA rk))), (aV, .inl (cI, 5, .inl (zA rk)))]) hP hD [0, 1] [2] rfl rfl (by decide) (by decide) hk9 hFr ht9 hB9
                have hP := hP.sub (ws' := [(aR, .inl (cI, 5, .inl (zA rk))), (aV, .inl (cI, 5, .inl (zA rk))), (oG, .inl (cZ, 256, .inl (zB gz)))]) [1, 2, 0] rfl
                have hD := hD.sub (ws' := [(aR, .inl (cI, 5, .inl (zA rk))), (aV, .inl (cI, 5, .inl (zA rk))), (oG, .inl (cZ, 256, .inl (zB gz)))]) [1, 2, 0] (by decide) rfl
                have hF := fz_keep hF0 hFA hS
                refine lv_iload_n hx hb qd_X_search_70 rfl (lv_at hl 1 rfl) ?_
                refine W.widen (k := 1) (n := 6) (by omega) (by omega) ?_
                refine vx_ret ?_
                exact W.zret (v := zI (bI fd)) (ty := .boolean) hx hb hr (bI_n _) (fun t9 ht9 hW9 => ⟨⟨fd, (rk, rk, gz), rfl, ⟨hs2, Or.inr ⟨h60, hall, rfl⟩⟩, mwB_i (by rw [ht9]; exact hP) (va_K.moved hW9.alike hK) hD⟩, hS.F ht9⟩) hS.2.2 qd_X_search_71
            · skip
              obtain ⟨w9, g1, g2, g3, g5, e9⟩ := sr_next hsy hw1 hw2 h44 hr41
              clear hr41
              subst e9
              have g4 : ∀ w1, w1 < w9 → ¬ (ds sy w1 = true ∧ (x = 1 → ∀ us, us < sy → ¬ (ar us = 0 ∧ wt us = 0) ∧ ∀ t, t < sy → ¬ (ar us = 1 ∧ wt us = 0 ∧ t ≠ us ∧ ((rkW sy w1 rk)) us ≤ ((rkW sy w1 rk)) t)) ∧ ∀ k, k < rc → gtO x ((rkW sy w1 rk)) wt (TH (LI k)) (TE (LI k)) (TM (LI k)) (tn (LI k)) (TH (RI k)) (TE (RI k)) (TM (RI k)) (tn (RI k))) := fun w1 hw z8 => if z1 : w1 < w then hno w1 z1 z8 else if z2 : w1 = w then hf2 h34 (z2 ▸ z8) else (by rw [g5 w1 (by omega) hw] at z8; exact Bool.noConfusion z8.1)
              refine lv_aload_n hx hb qd_X_search_47 rfl (lv_at hl 2 rfl) ?_
              refine lv_iload_n hx hb qd_X_search_48 rfl (lv_at hl 3 rfl) ?_
              have hPc := hP.sub (ws' := [(oG, .inl (cZ, 256, .inl (zB gz)))]) [2] rfl
              have hDc := hD.sub (ws' := [(oG, .inl (cZ, 256, .inl (zB gz)))]) [2] (by decide) rfl
              have hFr := va_free (wc := [(oG, .inl (cZ, 256, .inl (zB gz)))]) hD hS hA [2] rfl
              refine mw_callO (va_runV (As := [.int (zI (x))]) (rest := []) ⟨hx, hb, hml, hown, hg⟩ (c_X_isOrientedAsDue l dC dI cI cZ cT cJ ox o aA aR aW aV sy ar ((rkW sy w9 rk)) wt rk od dH dP dE dT dz dt hd pcs de dh orr rL rR rB rc lf rf bd og oG gz ta tH tP tE tn TH TM TE TG HT LI RI pl tc xT tf x H41_7.size hsy har (rkW_b hsy hrk) hwt htp hlr hrc hs2) ⟨callB_of 1 hg (gw_ok (fun _ h => h) wd_519) rfl rfl rfl (hg _ wd_1) (hg _ wd_516) (by decide +kernel) ⟨Nat.le_of_ble_eq_true rfl, Nat.le_of_ble_eq_true rfl⟩, hg _ wd_518, hg _ se_X_isOrientedAsDue⟩ (mw_preV (va_recv (q0 := 0) hK hF rfl rfl) hPc (pw_c (q := (ox, .inr (5, [.ref o, .ref od, .ref xT, .ref orr, .ref og, .int (zI (↑tc))]))) hF 0 rfl (pw_c (q := (orr, .inr (4, [.ref rL, .ref rR, .ref rB, .int (zI (↑rc))]))) hF 4 rfl (pw_c (q := (rL, .inl (cT, 8, .inr (.inr (.inr (.inr lf)))))) hF 5 rfl (pw_c (q := (rR, .inl (cT, 8, .inr (.inr (.inr (.inr rf)))))) hF 6 rfl (pw_c (q := (og, .inr (3, [.ref o, .ref oG]))) hF 7 rfl (pw_c (q := (o, .inr (0, [.ref aA, .ref aR, .ref aW, .ref aV, .int (zI (↑sy))]))) hF 1 rfl (pw_c (q := (aA, .inl (cI, 5, .inl (zA ar)))) hF 2 rfl (pw_c (q := (aR, .inl (cI, 5, .inl (zA (((rkW sy w9 rk))))))) hP 0 rfl (pw_c (q := (aW, .inl (cI, 5, .inl (zA wt)))) hF 3 rfl (pw_c (q := (aV, .inl (cI, 5, .inl (zA rk)))) hP 1 rfl (pw_tail [(ox, .inr (5, [.ref o, .ref od, .ref xT, .ref orr, .ref og, .int (zI (↑tc))])), (o, .inr (0, [.ref aA, .ref aR, .ref aW, .ref aV, .int (zI (↑sy))])), (aA, .inl (cI, 5, .inl (zA ar))), (aW, .inl (cI, 5, .inl (zA wt))), (orr, .inr (4, [.ref rL, .ref rR, .ref rB, .int (zI (↑rc))])), (rL, .inl (cT, 8, .inr (.inr (.inr (.inr lf))))), (rR, .inl (cT, 8, .inr (.inr (.inr (.inr rf))))), (og, .inr (3, [.ref o, .ref oG]))] hF))))))))))) hK hN hDc (apw_c (q := (ox, .inr (5, [.ref o, .ref od, .ref xT, .ref orr, .ref og, .int (zI (↑tc))]))) (apw_f hD [2] rfl (hFA 0 _ rfl)) (apw_c (q := (orr, .inr (4, [.ref rL, .ref rR, .ref rB, .int (zI (↑rc))]))) (apw_f hD [2] rfl (hFA 4 _ rfl)) (apw_c (q := (rL, .inl (cT, 8, .inr (.inr (.inr (.inr lf)))))) (apw_f hD [2] rfl (hFA 5 _ rfl)) (apw_c (q := (rR, .inl (cT, 8, .inr (.inr (.inr (.inr rf)))))) (apw_f hD [2] rfl (hFA 6 _ rfl)) (apw_c (q := (og, .inr (3, [.ref o, .ref oG]))) (apw_f hD [2] rfl (hFA 7 _ rfl)) (apw_c (q := (o, .inr (0, [.ref aA, .ref aR, .ref aW, .ref aV, .int (zI (↑sy))]))) (apw_f hD [2] rfl (hFA 1 _ rfl)) (apw_c (q := (aA, .inl (cI, 5, .inl (zA ar)))) (apw_f hD [2] rfl (hFA 2 _ rfl)) (apw_c (q := (aR, .inl (cI, 5, .inl (zA (((rkW sy w9 rk))))))) (apw_m hD [2] rfl 0 rfl (by decide)) (apw_c (q := (aW, .inl (cI, 5, .inl (zA wt)))) (apw_f hD [2] rfl (hFA 3 _ rfl)) (apw_c (q := (aV, .inl (cI, 5, .inl (zA rk)))) (apw_m hD [2] rfl 1 rfl (by decide)) (apw_pool hD [2] rfl (hA_tail [(ox, .inr (5, [.ref o, .ref od, .ref xT, .ref orr, .ref og, .int (zI (↑tc))])), (o, .inr (0, [.ref aA, .ref aR, .ref aW, .ref aV, .int (zI (↑sy))])), (aA, .inl (cI, 5, .inl (zA ar))), (aW, .inl (cI, 5, .inl (zA wt))), (orr, .inr (4, [.ref rL, .ref rR, .ref rB, .int (zI (↑rc))])), (rL, .inl (cT, 8, .inr (.inr (.inr (.inr lf))))), (rR, .inl (cT, 8, .inr (.inr (.inr (.inr rf))))), (og, .inr (3, [.ref o, .ref oG]))] hFA))))))))))))) rfl rfl hl.1 rfl (lv_room (Nat.le_of_ble_eq_true rfl)) qd_X_search_49 ⟨Nat.le_of_ble_eq_true rfl, Nat.le_of_ble_eq_true rfl⟩) hS (fun q _ h => hFr q h) hFr (fun r49 gr4 t9 H49_9 L49_9 ht9 hv9 hr49 hB9 hz9 hk9 hS => ?_)
              try dsimp only at hr49 hB9
              obtain ⟨hP, hD⟩ := mw_join (wr := [(aR, .inl (cI, 5, .inl (zA (((rkW sy w9 rk)))))), (aV, .inl (cI, 5, .inl (zA rk)))]) (w1 := [(oG, .inl (cZ, 256, .inl (zB gr4)))]) hP hD [2] [0, 1] rfl rfl (by decide) (by decide) hk9 hFr ht9 hB9
              have hP := hP.sub (ws' := [(aR, .inl (cI, 5, .inl (zA (((rkW sy w9 rk)))))), (aV, .inl (cI, 5, .inl (zA rk))), (oG, .inl (cZ, 256, .inl (zB gr4)))]) [0, 1, 2] rfl
              have hD := hD.sub (ws' := [(aR, .inl (cI, 5, .inl (zA (((rkW sy w9 rk)))))), (aV, .inl (cI, 5, .inl (zA rk))), (oG, .inl (cZ, 256, .inl (zB gr4)))]) [0, 1, 2] (by decide) rfl
              have hF := fz_keep hF0 hFA hS
              refine lv_istore_n (lv' := [(2, .int (zI (bI (r49)))), (3, .int (zI (↑wy))), (0, .ref ox), (1, .int (zI (x)))]) hx hb qd_X_search_52 rfl hl (by decide) rfl (fun ls hl => ?_)
              refine lv_iinc (k := 1) (lv' := [(3, .int (zI (↑(wy + 1)))), (2, .int (zI (bI (r49)))), (0, .ref ox), (1, .int (zI (x)))]) hx hb qd_X_search_53 hl rfl (zI_inc (v := ↑(wy + 1)) (by omega)) (by decide) rfl (fun ls hl => ?_)
              refine lv_goto (tgt := 27) hx hb qd_X_search_56 (by decide) ?_
              exact ih27 _ (by omega) (wy + 1) w9 r49 gr4 (by omega) g1 g2 (by omega) (fun z9 => ⟨g2, (hr49.mp z9).1, (hr49.mp z9).2⟩) (fun z9 z8 => by rw [hr49.mpr z8.2] at z9; exact Bool.noConfusion z9) g4 rfl H49_9 L49_9 hP hD hS ls hl
    exact L27 _ 1 (fs sy) r21 gr1 (by omega) f1 f2 (by rw [f4]) (fun z9 => ⟨f2, (hr21.mp z9).1, (hr21.mp z9).2⟩) (fun z9 z8 => by rw [hr21.mpr z8.2] at z9; exact Bool.noConfusion z9) (fun w1 hw z8 => by rw [f5 w1 hw] at z8; exact Bool.noConfusion z8.1) rfl H21_4 L21_4 hP hD hS ls hl
  · skip
    have hPc := hP.sub (ws' := []) [] rfl
    have hDc := hD.sub (ws' := []) [] (by decide) rfl
    have hFr := va_free (wc := []) hD hS hA [] rfl
    refine vx_callv (vx_runV (As := [.int (zI (x))]) (rest := []) ⟨hx, hb, hml, hown, hg⟩ (c_X_checkOrder_no l dC dI cI cZ cT cJ ox o aA aR aW aV sy ar rk wt sv od dH dP dE dT dz dt hd pcs de dh orr rL rR rB rc lf rf bd og oG gr ta tH tP tE tn TH TM TE TG HT LI RI pl tc xT tf x sg.heap.size hst h32x hs2) ⟨callB_of 1 hg (gw_ok (fun _ h => h) wd_430) rfl rfl rfl (hg _ wd_1) (hg _ wd_427) (by decide +kernel) ⟨Nat.le_of_ble_eq_true rfl, Nat.le_of_ble_eq_true rfl⟩, hg _ wd_429, hg _ se_X_checkOrder⟩ (mx_preV (va_recv (q0 := 0) hK hF rfl rfl) hPc (pw_c (q := (ox, .inr (5, [.ref o, .ref od, .ref xT, .ref orr, .ref og, .int (zI (↑tc))]))) hF 0 rfl (pw_nil)) hK hN hDc (apw_c (q := (ox, .inr (5, [.ref o, .ref od, .ref xT, .ref orr, .ref og, .int (zI (↑tc))]))) (apw_f hD [] rfl (hFA 0 _ rfl)) (apw_nil)) (exH.narrow (exH.kept hE hS.2.1) hFr)) rfl rfl hl.1 rfl (lv_room (Nat.le_of_ble_eq_true rfl)) qd_X_search_2 ⟨Nat.le_of_ble_eq_true rfl, Nat.le_of_ble_eq_true rfl⟩) hS (fun q _ h => hFr q h) hFr (fun q _ h => hFr q h) (fun E9 ce9 q9 u9 t9 H2_10 L2_10 ht9 hv9 _ hx2 hz9 hk9 hS hc9 hcv9 hcl9 => ?_) (fun u9 t9 H2_10 L2_10 ht9 hv9 hr2 hB9 hz9 hk9 hS => ?_)
    · skip
      obtain ⟨hx2, hB9⟩ := hx2
      try dsimp only at hx2 hB9
      obtain ⟨hP, hD⟩ := mw_join (wr := [(aR, .inl (cI, 5, .inl (zA rk))), (aV, .inl (cI, 5, .inl (zA sv))), (oG, .inl (cZ, 256, .inl (zB gr)))]) (w1 := []) hP hD [] [0, 1, 2] rfl rfl (by decide) (by decide) hk9 hFr ht9 hB9
      have hP := hP.sub (ws' := [(aR, .inl (cI, 5, .inl (zA rk))), (aV, .inl (cI, 5, .inl (zA sv))), (oG, .inl (cZ, 256, .inl (zB gr)))]) [0, 1, 2] rfl
      have hD := hD.sub (ws' := [(aR, .inl (cI, 5, .inl (zA rk))), (aV, .inl (cI, 5, .inl (zA sv))), (oG, .inl (cZ, 256, .inl (zB gr)))]) [0, 1, 2] (by decide) rfl
      have hF := fz_keep hF0 hFA hS
      refine vx_widen (k := 1) (n := 6) (by omega) (by omega) ?_
      exact vx_out (fun x h => (htab x h).elim) hlocks hc9 hcv9 hcl9 (fun t9 g1 g2 => (fun w9 => ⟨(), trivial, ⟨⟨hx2, hs2⟩, w9.1⟩, w9.2⟩) (zx_o hP hK hD hS g1 g2)) hS.2.2 (Nat.le_refl _) (Nat.le_refl _)
    · skip
      exact (hr2).elim
