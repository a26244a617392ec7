set_option maxHeartbeats 4000000 in
set_option maxRecDepth 100000 in
theorem c_O_isGreaterByPaths (l : Launch) (dC : Nat → ClassId) (dI : Nat → Nat → Nat) (cI cZ cT cJ : ClassId) (o aA aR aW aV sy : Nat) (ar rk wt sv : Nat → Int) (og oG : Nat) (gr : Nat → Bool) (a aH aP aE n : Nat) (th tm : Nat → Int) (te : Nat → Nat) (tg : Int) (a2 aH2 aP2 aE2 n2 : Nat) (th2 tm2 : Nat → Int) (te2 : Nat → Nat) (tg2 : Int) (zh : Nat) (hrk : ∀ q, q < 5 → 0 ≤ rk q ∧ rk q ≤ 4) (h16 : n ≤ 16) (h162 : n2 ≤ 16) (hh : ∀ q, q < n → -4 ≤ th q ∧ th q ≤ 4) (hh2 : ∀ q, q < n2 → -4 ≤ th2 q ∧ th2 q ≤ 4) (we : wfE tm n te) (we2 : wfE tm2 n2 te2) (hm : ∀ q, q < n → 0 ≤ tm q ∧ tm q ≤ 3) (hm2 : ∀ q, q < n2 → 0 ≤ tm2 q ∧ tm2 q ≤ 3) (hmm : ∀ i j, i < n → j < n2 → th i = th2 j → tm i = tm2 j) (hn0 : 0 < n) (hn02 : 0 < n2) : Met l qy_O_isGreaterByPaths qw_O_isGreaterByPaths ({ frames := 3, cells := 0, slots := 0, locals := 76 }) (mwP (dC, dI) qcl (qty cI cZ cT cJ) nwL [(oG, .inl (cZ, 256, .inl (zB gr)))] [(og, .inr (3, [.ref o, .ref oG])), (o, .inr (0, [.ref aA, .ref aR, .ref aW, .ref aV, .int (zI (↑sy))])), (aA, .inl (cI, 5, .inl (zA ar))), (aR, .inl (cI, 5, .inl (zA rk))), (aW, .inl (cI, 5, .inl (zA wt))), (aV, .inl (cI, 5, .inl (zA sv))), (a, .inr (1, [.ref aH, .ref aP, .ref aE, .int (zI (↑n)), .int (zI (tg))])), (aH, .inl (cI, n, .inl (zA th))), (aP, .inl (cI, n, .inl (zA tm))), (aE, .inl (cI, n, .inl (zA (eI te)))), (a2, .inr (1, [.ref aH2, .ref aP2, .ref aE2, .int (zI (↑n2)), .int (zI (tg2))])), (aH2, .inl (cI, n2, .inl (zA th2))), (aP2, .inl (cI, n2, .inl (zA tm2))), (aE2, .inl (cI, n2, .inl (zA (eI te2))))] zh [.ref og, .ref a, .ref a2]) (mwO (S := (Nat → Bool)) (fun r uq => r = true ↔ gtP rk th te tm n th2 te2 tm2 n2) (fun uq tq => mwB (dC, dI) qcl (qty cI cZ cT cJ) (va_A [(oG, .inl (cZ, 256, .inl (zB gr)))] zh) [(oG, .inl (cZ, 256, .inl (zB uq)))] tq) (va_A [(oG, .inl (cZ, 256, .inl (zB gr)))] zh)) 0 0 (va_A [(oG, .inl (cZ, 256, .inl (zB gr)))] zh) := by
  refine Met.ofW (cc := qc_O_isGreaterByPaths) (maxL := 5) (ret := (Option.some Jvm.ClassFile.FieldType.boolean)) (by decide) rfl ?_
  intro pg eg sg mg args below meth cg s₁ B hml hv
  obtain ⟨rfl, hsz, hP, hF0, hK, hN, hD0, hap⟩ := hv
  have hx := B.exec
  have hb := B.bytes
  have hr := B.returns
  have hts := atoms_spec (ws := qw_O_isGreaterByPaths) B.pre
  have hg : ∀ w ∈ gw, w.before _ sg = true := fun w h => hts w (List.mem_cons_of_mem _ h)
  have hown : sg.vm.findClass "TermOrders$Orders" = some mg.cls := findClass_of_methodNamed B.named
  have hlocks := B.notSynchronized
  have hl := lv_entry ([.ref og, .ref a, .ref a2]) (n := 5) (Nat.le_of_ble_eq_true rfl)
  rw [lg_entry_eq]
  generalize (lg_sl ([.ref og, .ref a, .ref a2]) ++ List.replicate (5 - (lg_sl ([.ref og, .ref a, .ref a2])).length) Slot.unset).toArray = ls at hl ⊢
  subst hsz
  have hD := hD0.self (sz := sg.heap.size)
  have hFA := apw_A hap (fun k q hk => (hF0 k q hk).lt)
  generalize hAe : va_A [(oG, .inl (cZ, 256, .inl (zB gr)))] sg.heap.size = A at hD hFA ⊢
  have hA : ∀ q : Nat, sg.heap.size ≤ q → A q := fun q h => by rw [← hAe]; exact Or.inr h
  have hS : va_S A sg.heap sg.heap [] := va_S.rf
  have hF := hF0
  have hl : lv_has ls 5 [(0, .ref og), (1, .ref a), (2, .ref a2)] := hl
  refine lv_aload_n hx hb qd_O_isGreaterByPaths_0 rfl (lv_at hl 1 rfl) ?_
  refine va_getN (D := (dC, dI)) (ci := 1) (v := .int (zI (↑n))) (C := "TermOrders$Term") (T := qT_T) (N := 5) hx hb hg qi_T hown hK hF 6 rfl rfl 3 (by decide) (va_Nw.use rfl (hN.use nw_337)) (fun _ h9 => h9) rfl qd_O_isGreaterByPaths_1 ?_
  refine lv_iconst (v := zI 1) hx hb qd_O_isGreaterByPaths_4 rfl ?_
  refine zz_isub hx hb ((↑n) - 1) rfl qd_O_isGreaterByPaths_5 ?_
  refine lv_istore_n (lv' := [(3, .int (zI ((↑n) - 1))), (0, .ref og), (1, .ref a), (2, .ref a2)]) hx hb qd_O_isGreaterByPaths_6 rfl hl (by decide) rfl (fun ls hl => ?_)
  have L7 : ∀ (d9 : Nat) (j : Int) (gz : Nat → Bool), (-1 ≤ j ∧ j < n) → (fld n n2 (fun G i j => paP G rk th te tm i th2 te2 tm2 j) (j + 1).toNat 0 gz) → (j + 1).toNat = d9 → ∀ (H7_1 : Heap) (L7_1 : List Loc), va_P (dC, dI) qcl [(oG, .inl (cZ, 256, .inl (zB gz)))] H7_1 → va_D A [(oG, .inl (cZ, 256, .inl (zB gz)))] → va_S A sg.heap H7_1 L7_1 → ∀ ls : Array Slot, lv_has ls 5 [(3, .int (zI (j))), (0, .ref og), (1, .ref a), (2, .ref a2)] → W pg l eg (headSpec qw_O_isGreaterByPaths ({ frames := 3, cells := 0, slots := 0, locals := 76 })).room sg mg ([.ref og, .ref a, .ref a2] : List Value).toArray below meth cg H7_1 L7_1 0 0 (MQ below (mwO (S := (Nat → Bool)) (fun r uq => r = true ↔ gtP rk th te tm n th2 te2 tm2 n2) (fun uq tq => mwB (dC, dI) qcl (qty cI cZ cT cJ) A [(oG, .inl (cZ, 256, .inl (zB uq)))] tq) A) ([.ref og, .ref a, .ref a2] : List Value).toArray sg 0 0 A) (F0 mg 7 ls []) := by
    intro d9
    induction d9 using Nat.strongRecOn with
    | _ d9 ih7 =>
      intro j gz hj hfl hd9 H7_1 L7_1 hP hD hS ls hl
      have hF := fz_keep hF0 hFA hS
      refine lv_iload_n hx hb qd_O_isGreaterByPaths_7 rfl (lv_at hl 0 rfl) ?_
      refine zz_if_lt (tgt := 57) hx hb qd_O_isGreaterByPaths_8 (by decide) (by omega) (fun h8 => ?_) (fun h8 => ?_)
      · skip
        have hrc := fld_rc (show fld n n2 (fun G i j => paP G rk th te tm i th2 te2 tm2 j) 0 0 gz by rw [show (j + 1).toNat = 0 by omega] at hfl; exact hfl)
        refine lv_aload_n hx hb qd_O_isGreaterByPaths_57 rfl (lv_at hl 1 rfl) ?_
        refine va_get (D := (dC, dI)) (ci := 3) (v := .ref oG) (C := "TermOrders$Orders") (T := qT_O) (N := 2) hx hb hg qi_O hown hK hF 0 rfl rfl 1 (by decide) (hg _ wd_113) (fun _ h9 => h9) rfl qd_O_isGreaterByPaths_58 ?_
        refine lv_iconst (v := zI 0) hx hb qd_O_isGreaterByPaths_61 rfl ?_
        refine zz_zald hx hb hK hP 0 1 rfl rfl 0 (by omega) (by omega) (by omega) qd_O_isGreaterByPaths_62 ?_
        exact W.zret (v := zI (bI (gz 0))) (ty := .boolean) hx hb hr (bI_n _) (fun t9 ht9 hW9 => ⟨⟨gz 0, gz, rfl, (gtP_of we we2 hmm hn0 hn02 hrc).symm, mwB_i (by rw [ht9]; exact hP) (va_K.moved hW9.alike hK) hD⟩, hS.F ht9⟩) hS.2.2 qd_O_isGreaterByPaths_63
      · skip
        obtain ⟨p, rfl⟩ : ∃ p : Nat, j = ↑p := ⟨j.toNat, by omega⟩
        have hfr := fld_row (show fld n n2 (fun G i j => paP G rk th te tm i th2 te2 tm2 j) (p + 1) 0 gz by rw [show (((p : Nat) : Int) + 1).toNat = p + 1 by omega] at hfl; exact hfl)
        refine lv_aload_n hx hb qd_O_isGreaterByPaths_11 rfl (lv_at hl 3 rfl) ?_
        refine va_getN (D := (dC, dI)) (ci := 1) (v := .int (zI (↑n2))) (C := "TermOrders$Term") (T := qT_T) (N := 5) hx hb hg qi_T hown hK hF 10 rfl rfl 3 (by decide) (va_Nw.use rfl (hN.use nw_337)) (fun _ h9 => h9) rfl qd_O_isGreaterByPaths_12 ?_
        refine lv_iconst (v := zI 1) hx hb qd_O_isGreaterByPaths_15 rfl ?_
        refine zz_isub hx hb ((↑n2) - 1) rfl qd_O_isGreaterByPaths_16 ?_
        refine lv_istore (lv' := [(4, .int (zI ((↑n2) - 1))), (3, .int (zI ((↑p)))), (0, .ref og), (1, .ref a), (2, .ref a2)]) hx hb qd_O_isGreaterByPaths_17 hl (by decide) rfl (fun ls hl => ?_)
        have L19 : ∀ (d9 : Nat) (k : Int) (gy : Nat → Bool), (-1 ≤ k ∧ k < n2) → (fld n n2 (fun G i j => paP G rk th te tm i th2 te2 tm2 j) p (k + 1).toNat gy) → (k + 1).toNat = d9 → ∀ (H19_2 : Heap) (L19_2 : List Loc), va_P (dC, dI) qcl [(oG, .inl (cZ, 256, .inl (zB gy)))] H19_2 → va_D A [(oG, .inl (cZ, 256, .inl (zB gy)))] → va_S A sg.heap H19_2 L19_2 → ∀ ls : Array Slot, lv_has ls 5 [(4, .int (zI (k))), (3, .int (zI ((↑p)))), (0, .ref og), (1, .ref a), (2, .ref a2)] → W pg l eg (headSpec qw_O_isGreaterByPaths ({ frames := 3, cells := 0, slots := 0, locals := 76 })).room sg mg ([.ref og, .ref a, .ref a2] : List Value).toArray below meth cg H19_2 L19_2 0 0 (MQ below (mwO (S := (Nat → Bool)) (fun r uq => r = true ↔ gtP rk th te tm n th2 te2 tm2 n2) (fun uq tq => mwB (dC, dI) qcl (qty cI cZ cT cJ) A [(oG, .inl (cZ, 256, .inl (zB uq)))] tq) A) ([.ref og, .ref a, .ref a2] : List Value).toArray sg 0 0 A) (F0 mg 19 ls []) := by
          intro d9
          induction d9 using Nat.strongRecOn with
          | _ d9 ih19 =>
            intro k gy hk hfk hd9 H19_2 L19_2 hP hD hS ls hl
            have hF := fz_keep hF0 hFA hS
            refine lv_iload hx hb qd_O_isGreaterByPaths_19 (lv_at hl 0 rfl) ?_
            refine zz_if_lt (tgt := 51) hx hb qd_O_isGreaterByPaths_21 (by decide) (by omega) (fun h21 => ?_) (fun h21 => ?_)
            · skip
              refine lv_iinc (k := 1) (lv' := [(3, .int (zI (↑p - 1))), (4, .int (zI (k))), (0, .ref og), (1, .ref a), (2, .ref a2)]) hx hb qd_O_isGreaterByPaths_51 hl rfl (zI_inc (v := ↑p - 1) (by omega)) (by decide) rfl (fun ls hl => ?_)
              refine lv_goto (tgt := 7) hx hb qd_O_isGreaterByPaths_54 (by decide) ?_
              have hl := lv_sub (l' := [(3, .int (zI (↑p - 1))), (0, .ref og), (1, .ref a), (2, .ref a2)]) hl [0, 2, 3, 4] rfl
              exact ih7 _ (by omega) (↑p - 1) gy (by omega) (by rw [show (((p : Nat) : Int) - 1 + 1).toNat = p by omega]; rw [show (k + 1).toNat = 0 by omega] at hfk; exact hfk) rfl H19_2 L19_2 hP hD hS ls hl
            · skip
              obtain ⟨q, rfl⟩ : ∃ q : Nat, k = ↑q := ⟨k.toNat, by omega⟩
              refine lv_aload_n hx hb qd_O_isGreaterByPaths_24 rfl (lv_at hl 2 rfl) ?_
              refine va_get (D := (dC, dI)) (ci := 3) (v := .ref oG) (C := "TermOrders$Orders") (T := qT_O) (N := 2) hx hb hg qi_O hown hK hF 0 rfl rfl 1 (by decide) (hg _ wd_113) (fun _ h9 => h9) rfl qd_O_isGreaterByPaths_25 ?_
              refine lv_iload_n hx hb qd_O_isGreaterByPaths_28 rfl (lv_at hl 1 rfl) ?_
              refine lv_bipush (v := zI 16) hx hb qd_O_isGreaterByPaths_29 (by decide) ?_
              refine zz_imul hx hb (((↑p)) * 16) rfl qd_O_isGreaterByPaths_31 ?_
              refine lv_iload hx hb qd_O_isGreaterByPaths_32 (lv_at hl 0 rfl) ?_
              refine zz_iadd hx hb ((((↑p)) * 16) + ((↑q))) rfl qd_O_isGreaterByPaths_34 ?_
              refine lv_aload_n hx hb qd_O_isGreaterByPaths_35 rfl (lv_at hl 2 rfl) ?_
              refine lv_aload_n hx hb qd_O_isGreaterByPaths_36 rfl (lv_at hl 3 rfl) ?_
              refine lv_iload_n hx hb qd_O_isGreaterByPaths_37 rfl (lv_at hl 1 rfl) ?_
              refine lv_aload_n hx hb qd_O_isGreaterByPaths_38 rfl (lv_at hl 4 rfl) ?_
              refine lv_iload hx hb qd_O_isGreaterByPaths_39 (lv_at hl 0 rfl) ?_
              refine rd_callB (W.runV (As := [.ref a, .int (zI (↑p)), .ref a2, .int (zI (↑q))]) (rest := [.int (zI ((((↑p)) * 16) + ((↑q)))), .ref oG]) ⟨hx, hb, hml, hown, hg⟩ (c_O_isPlaceGreaterByPaths l dC dI cI cZ cT cJ o aA aR aW aV sy ar rk wt sv og oG gy a aH aP aE n th tm te tg a2 aH2 aP2 aE2 n2 th2 tm2 te2 tg2 p q hrk h16 h162 hh hh2 we we2 hm hm2 (by omega) (by omega) hmm) ⟨callB_of 4 hg (gw_ok (fun _ h => h) wd_443) rfl rfl rfl (hg _ wd_5) (hg _ wd_440) (by decide +kernel) ⟨Nat.le_of_ble_eq_true rfl, Nat.le_of_ble_eq_true rfl⟩, hg _ wd_442, hg _ se_O_isPlaceGreaterByPaths⟩ (rd_preV (va_recv (q0 := 0) hK hF rfl rfl) (pw_c (q := (og, .inr (3, [.ref o, .ref oG]))) hF 0 rfl (pw_c (q := (oG, .inl (cZ, 256, .inl (zB gy)))) hP 0 rfl (pw_c (q := (o, .inr (0, [.ref aA, .ref aR, .ref aW, .ref aV, .int (zI (↑sy))]))) hF 1 rfl (pw_c (q := (aA, .inl (cI, 5, .inl (zA ar)))) hF 2 rfl (pw_c (q := (aR, .inl (cI, 5, .inl (zA rk)))) hF 3 rfl (pw_c (q := (aW, .inl (cI, 5, .inl (zA wt)))) hF 4 rfl (pw_c (q := (aV, .inl (cI, 5, .inl (zA sv)))) hF 5 rfl (pw_c (q := (a, .inr (1, [.ref aH, .ref aP, .ref aE, .int (zI (↑n)), .int (zI (tg))]))) hF 6 rfl (pw_c (q := (aH, .inl (cI, n, .inl (zA th)))) hF 7 rfl (pw_c (q := (aP, .inl (cI, n, .inl (zA tm)))) hF 8 rfl (pw_c (q := (aE, .inl (cI, n, .inl (zA (eI te))))) hF 9 rfl (pw_c (q := (a2, .inr (1, [.ref aH2, .ref aP2, .ref aE2, .int (zI (↑n2)), .int (zI (tg2))]))) hF 10 rfl (pw_c (q := (aH2, .inl (cI, n2, .inl (zA th2)))) hF 11 rfl (pw_c (q := (aP2, .inl (cI, n2, .inl (zA tm2)))) hF 12 rfl (pw_c (q := (aE2, .inl (cI, n2, .inl (zA (eI te2))))) hF 13 rfl (pw_nil)))))))))))))))) hK hN) rfl rfl hl.1 rfl (lv_room (Nat.le_of_ble_eq_true rfl)) qd_O_isGreaterByPaths_41 ⟨Nat.le_of_ble_eq_true rfl, Nat.le_of_ble_eq_true rfl⟩) (fun r41 hr41 => ?_)
              refine zz_zast hx hb hK hP hD hS 0 1 rfl rfl (16 * p + q) (by omega) (by omega) (by omega) qd_O_isGreaterByPaths_44 (fun H44_3 L44_3 hP hD hS => ?_)
              have hP : va_P (dC, dI) qcl [(oG, .inl (cZ, 256, .inl (zB (ub gy (16 * p + q) r41))))] H44_3 := hP
              have hD : va_D A [(oG, .inl (cZ, 256, .inl (zB (ub gy (16 * p + q) r41))))] := hD
              have hF := fz_keep hF0 hFA hS
              refine lv_iinc (k := 0) (lv' := [(4, .int (zI (↑q - 1))), (3, .int (zI ((↑p)))), (0, .ref og), (1, .ref a), (2, .ref a2)]) hx hb qd_O_isGreaterByPaths_45 hl rfl (zI_inc (v := ↑q - 1) (by omega)) (by decide) rfl (fun ls hl => ?_)
              refine lv_goto (tgt := 19) hx hb qd_O_isGreaterByPaths_48 (by decide) ?_
              exact ih19 _ (by omega) (↑q - 1) (ub gy (16 * p + q) r41) (by omega) (by rw [show (((q : Nat) : Int) - 1 + 1).toNat = q by omega]; exact fld_1 h162 (paP_cg we we2 hmm) (by omega) (by omega) (by rw [show (((q : Nat) : Int) + 1).toNat = q + 1 by omega] at hfk; exact hfk) hr41) rfl H44_3 L44_3 hP hD hS ls hl
        exact L19 _ (↑n2 - 1) gz (by omega) (by rw [show (((n2 : Nat) : Int) - 1 + 1).toNat = n2 by omega]; exact hfr) rfl H7_1 L7_1 hP hD hS ls hl
  exact L7 _ (↑n - 1) gr (by omega) (by rw [show (((n : Nat) : Int) - 1 + 1).toNat = n by omega]; exact fld_0) rfl sg.heap [] hP hD hS ls hl
set_option maxHeartbeats 4000000 in
set_option maxRecDepth 100000 in
theorem c_O_isGreater (l : Launch) (dC : Nat → ClassId) (dI : Nat → Nat → Nat) (cI cZ cT cJ : ClassId) (o aA aR aW aV sy : Nat) (ar rk wt sv : Nat → Int) (og oG : Nat) (gr : Nat → Bool) (a aH aP aE n : Nat) (th tm : Nat → Int) (te : Nat → Nat) (tg : Int) (a2 aH2 aP2 aE2 n2 : Nat) (th2 tm2 : Nat → Int) (te2 : Nat → Nat) (tg2 : Int) (ht : Nat → Int) (ord : Int) (zh : Nat) (hrk : ∀ q, q < 5 → 0 ≤ rk q ∧ rk q ≤ 4) (hwt : ∀ q, q < 5 → 0 ≤ wt q ∧ wt q ≤ 9) (h16 : n ≤ 16) (h162 : n2 ≤ 16) (hh : ∀ q, q < n → -4 ≤ th q ∧ th q ≤ 4) (hh2 : ∀ q, q < n2 → -4 ≤ th2 q ∧ th2 q ≤ 4) (we : wfE tm n te) (we2 : wfE tm2 n2 te2) (hm : ∀ q, q < n → 0 ≤ tm q ∧ tm q ≤ 3) (hm2 : ∀ q, q < n2 → 0 ≤ tm2 q ∧ tm2 q ≤ 3) (hmm : ∀ i j, i < n → j < n2 → th i = th2 j → tm i = tm2 j) (hn0 : 0 < n) (hn02 : 0 < n2) (hsm : ∀ q r, q < n → r < n → th q = th r → tm q = tm r) (hgh : hgE tm n te ht) (hh4 : ht 0 ≤ 4) (hor : ord = 0 ∨ ord = 1) : Met l qy_O_isGreater qw_O_isGreater ({ frames := 4, cells := 0, slots := 0, locals := 100 }) (mwP (dC, dI) qcl (qty cI cZ cT cJ) nwL [(oG, .inl (cZ, 256, .inl (zB gr)))] [(og, .inr (3, [.ref o, .ref oG])), (o, .inr (0, [.ref aA, .ref aR, .ref aW, .ref aV, .int (zI (↑sy))])), (aA, .inl (cI, 5, .inl (zA ar))), (aR, .inl (cI, 5, .inl (zA rk))), (aW, .inl (cI, 5, .inl (zA wt))), (aV, .inl (cI, 5, .inl (zA sv))), (a, .inr (1, [.ref aH, .ref aP, .ref aE, .int (zI (↑n)), .int (zI (tg))])), (aH, .inl (cI, n, .inl (zA th))), (aP, .inl (cI, n, .inl (zA tm))), (aE, .inl (cI, n, .inl (zA (eI te)))), (a2, .inr (1, [.ref aH2, .ref aP2, .ref aE2, .int (zI (↑n2)), .int (zI (tg2))])), (aH2, .inl (cI, n2, .inl (zA th2))), (aP2, .inl (cI, n2, .inl (zA tm2))), (aE2, .inl (cI, n2, .inl (zA (eI te2))))] zh [.ref og, .int (zI (ord)), .ref a, .ref a2]) (mwO (S := (Nat → Bool)) (fun r uq => r = true ↔ gtO ord rk wt th te tm n th2 te2 tm2 n2) (fun uq tq => mwB (dC, dI) qcl (qty cI cZ cT cJ) (va_A [(oG, .inl (cZ, 256, .inl (zB gr)))] zh) [(oG, .inl (cZ, 256, .inl (zB uq)))] tq) (va_A [(oG, .inl (cZ, 256, .inl (zB gr)))] zh)) 0 0 (va_A [(oG, .inl (cZ, 256, .inl (zB gr)))] zh) := by
  refine Met.ofW (cc := qc_O_isGreater) (maxL := 4) (ret := (Option.some Jvm.ClassFile.FieldType.boolean)) (by decide) rfl ?_
  intro pg eg sg mg args below meth cg s₁ B hml hv
  obtain ⟨rfl, hsz, hP, hF0, hK, hN, hD0, hap⟩ := hv
  have hx := B.exec
  have hb := B.bytes
  have hr := B.returns
  have hts := atoms_spec (ws := qw_O_isGreater) B.pre
  have hg : ∀ w ∈ gw, w.before _ sg = true := fun w h => hts w (List.mem_cons_of_mem _ h)
  have hown : sg.vm.findClass "TermOrders$Orders" = some mg.cls := findClass_of_methodNamed B.named
  have hlocks := B.notSynchronized
  have hl := lv_entry ([.ref og, .int (zI (ord)), .ref a, .ref a2]) (n := 4) (Nat.le_of_ble_eq_true rfl)
  rw [lg_entry_eq]
  generalize (lg_sl ([.ref og, .int (zI (ord)), .ref a, .ref a2]) ++ List.replicate (4 - (lg_sl ([.ref og, .int (zI (ord)), .ref a, .ref a2])).length) Slot.unset).toArray = ls at hl ⊢
  subst hsz
  have hD := hD0.self (sz := sg.heap.size)
  have hFA := apw_A hap (fun k q hk => (hF0 k q hk).lt)
  generalize hAe : va_A [(oG, .inl (cZ, 256, .inl (zB gr)))] sg.heap.size = A at hD hFA ⊢
  have hA : ∀ q : Nat, sg.heap.size ≤ q → A q := fun q h => by rw [← hAe]; exact Or.inr h
  have hS : va_S A sg.heap sg.heap [] := va_S.rf
  have hF := hF0
  have hl : lv_has ls 4 [(0, .ref og), (1, .int (zI (ord))), (2, .ref a), (3, .ref a2)] := hl
  refine lv_iload_n hx hb qd_O_isGreater_0 rfl (lv_at hl 1 rfl) ?_
  refine zz_if_ne (tgt := 13) hx hb qd_O_isGreater_1 (by decide) (by omega) (fun h1 => ?_) (fun h1 => ?_)
  · skip
    refine lv_aload_n hx hb qd_O_isGreater_13 rfl (lv_at hl 0 rfl) ?_
    refine lv_aload_n hx hb qd_O_isGreater_14 rfl (lv_at hl 2 rfl) ?_
    refine lv_aload_n hx hb qd_O_isGreater_15 rfl (lv_at hl 3 rfl) ?_
    refine rd_callB (W.runV (As := [.ref a, .ref a2]) (rest := []) ⟨hx, hb, hml, hown, hg⟩ (c_O_isGreaterByWeights l dC dI cI cZ cT cJ o aA aR aW aV sy ar rk wt sv og oG gr a aH aP aE n th tm te tg a2 aH2 aP2 aE2 n2 th2 tm2 te2 tg2 ht hrk hwt h16 h162 hh hh2 we we2 hm hm2 hmm hsm hn0 hn02 hgh hh4) ⟨callB_of 2 hg (gw_ok (fun _ h => h) wd_471) rfl rfl rfl (hg _ wd_5) (hg _ wd_468) (by decide +kernel) ⟨Nat.le_of_ble_eq_true rfl, Nat.le_of_ble_eq_true rfl⟩, hg _ wd_470, hg _ se_O_isGreaterByWeights⟩ (rd_preV (va_recv (q0 := 0) hK hF rfl rfl) (pw_c (q := (og, .inr (3, [.ref o, .ref oG]))) hF 0 rfl (pw_c (q := (oG, .inl (cZ, 256, .inl (zB gr)))) hP 0 rfl (pw_c (q := (o, .inr (0, [.ref aA, .ref aR, .ref aW, .ref aV, .int (zI (↑sy))]))) hF 1 rfl (pw_c (q := (aA, .inl (cI, 5, .inl (zA ar)))) hF 2 rfl (pw_c (q := (aR, .inl (cI, 5, .inl (zA rk)))) hF 3 rfl (pw_c (q := (aW, .inl (cI, 5, .inl (zA wt)))) hF 4 rfl (pw_c (q := (aV, .inl (cI, 5, .inl (zA sv)))) hF 5 rfl (pw_c (q := (a, .inr (1, [.ref aH, .ref aP, .ref aE, .int (zI (↑n)), .int (zI (tg))]))) hF 6 rfl (pw_c (q := (aH, .inl (cI, n, .inl (zA th)))) hF 7 rfl (pw_c (q := (aP, .inl (cI, n, .inl (zA tm)))) hF 8 rfl (pw_c (q := (aE, .inl (cI, n, .inl (zA (eI te))))) hF 9 rfl (pw_c (q := (a2, .inr (1, [.ref aH2, .ref aP2, .ref aE2, .int (zI (↑n2)), .int (zI (tg2))]))) hF 10 rfl (pw_c (q := (aH2, .inl (cI, n2, .inl (zA th2)))) hF 11 rfl (pw_c (q := (aP2, .inl (cI, n2, .inl (zA tm2)))) hF 12 rfl (pw_c (q := (aE2, .inl (cI, n2, .inl (zA (eI te2))))) hF 13 rfl (pw_nil)))))))))))))))) hK hN) rfl rfl hl.1 rfl (lv_room (Nat.le_of_ble_eq_true rfl)) qd_O_isGreater_16 ⟨Nat.le_of_ble_eq_true rfl, Nat.le_of_ble_eq_true rfl⟩) (fun r16 hr16 => ?_)
    exact W.zret (v := zI (bI r16)) (ty := .boolean) hx hb hr (bI_n _) (fun t9 ht9 hW9 => ⟨⟨r16, gr, rfl, (hr16.trans ⟨fun z => ⟨fun z9 => absurd z9 h1, fun _ => z⟩, fun z => z.2 h1⟩), mwB_i (by rw [ht9]; exact hP) (va_K.moved hW9.alike hK) hD⟩, hS.F ht9⟩) hS.2.2 qd_O_isGreater_19
  · skip
    refine lv_aload_n hx hb qd_O_isGreater_4 rfl (lv_at hl 0 rfl) ?_
    refine lv_aload_n hx hb qd_O_isGreater_5 rfl (lv_at hl 2 rfl) ?_
    refine lv_aload_n hx hb qd_O_isGreater_6 rfl (lv_at hl 3 rfl) ?_
    have hPc := hP.sub (ws' := [(oG, .inl (cZ, 256, .inl (zB gr)))]) [0] rfl
    have hDc := hD.sub (ws' := [(oG, .inl (cZ, 256, .inl (zB gr)))]) [0] (by decide) rfl
    have hFr := va_free (wc := [(oG, .inl (cZ, 256, .inl (zB gr)))]) hD hS hA [0] rfl
    refine mw_callO (va_runV (As := [.ref a, .ref a2]) (rest := []) ⟨hx, hb, hml, hown, hg⟩ (c_O_isGreaterByPaths l dC dI cI cZ cT cJ o aA aR aW aV sy ar rk wt sv og oG gr a aH aP aE n th tm te tg a2 aH2 aP2 aE2 n2 th2 tm2 te2 tg2 sg.heap.size hrk h16 h162 hh hh2 we we2 hm hm2 hmm hn0 hn02) ⟨callB_of 2 hg (gw_ok (fun _ h => h) wd_439) rfl rfl rfl (hg _ wd_5) (hg _ wd_436) (by decide +kernel) ⟨Nat.le_of_ble_eq_true rfl, Nat.le_of_ble_eq_true rfl⟩, hg _ wd_438, hg _ se_O_isGreaterByPaths⟩ (mw_preV (va_recv (q0 := 0) hK hF rfl rfl) hPc (pw_c (q := (og, .inr (3, [.ref o, .ref oG]))) hF 0 rfl (pw_c (q := (o, .inr (0, [.ref aA, .ref aR, .ref aW, .ref aV, .int (zI (↑sy))]))) hF 1 rfl (pw_c (q := (aA, .inl (cI, 5, .inl (zA ar)))) hF 2 rfl (pw_c (q := (aR, .inl (cI, 5, .inl (zA rk)))) hF 3 rfl (pw_c (q := (aW, .inl (cI, 5, .inl (zA wt)))) hF 4 rfl (pw_c (q := (aV, .inl (cI, 5, .inl (zA sv)))) hF 5 rfl (pw_c (q := (a, .inr (1, [.ref aH, .ref aP, .ref aE, .int (zI (↑n)), .int (zI (tg))]))) hF 6 rfl (pw_c (q := (aH, .inl (cI, n, .inl (zA th)))) hF 7 rfl (pw_c (q := (aP, .inl (cI, n, .inl (zA tm)))) hF 8 rfl (pw_c (q := (aE, .inl (cI, n, .inl (zA (eI te))))) hF 9 rfl (pw_c (q := (a2, .inr (1, [.ref aH2, .ref aP2, .ref aE2, .int (zI (↑n2)), .int (zI (tg2))]))) hF 10 rfl (pw_c (q := (aH2, .inl (cI, n2, .inl (zA th2)))) hF 11 rfl (pw_c (q := (aP2, .inl (cI, n2, .inl (zA tm2)))) hF 12 rfl (pw_c (q := (aE2, .inl (cI, n2, .inl (zA (eI te2))))) hF 13 rfl (pw_nil))))))))))))))) hK hN hDc (apw_c (q := (og, .inr (3, [.ref o, .ref oG]))) (apw_f hD [0] rfl (hFA 0 _ rfl)) (apw_c (q := (o, .inr (0, [.ref aA, .ref aR, .ref aW, .ref aV, .int (zI (↑sy))]))) (apw_f hD [0] rfl (hFA 1 _ rfl)) (apw_c (q := (aA, .inl (cI, 5, .inl (zA ar)))) (apw_f hD [0] rfl (hFA 2 _ rfl)) (apw_c (q := (aR, .inl (cI, 5, .inl (zA rk)))) (apw_f hD [0] rfl (hFA 3 _ rfl)) (apw_c (q := (aW, .inl (cI, 5, .inl (zA wt)))) (apw_f hD [0] rfl (hFA 4 _ rfl)) (apw_c (q := (aV, .inl (cI, 5, .inl (zA sv)))) (apw_f hD [0] rfl (hFA 5 _ rfl)) (apw_c (q := (a, .inr (1, [.ref aH, .ref aP, .ref aE, .int (zI (↑n)), .int (zI (tg))]))) (apw_f hD [0] rfl (hFA 6 _ rfl)) (apw_c (q := (aH, .inl (cI, n, .inl (zA th)))) (apw_f hD [0] rfl (hFA 7 _ rfl)) (apw_c (q := (aP, .inl (cI, n, .inl (zA tm)))) (apw_f hD [0] rfl (hFA 8 _ rfl)) (apw_c (q := (aE, .inl (cI, n, .inl (zA (eI te))))) (apw_f hD [0] rfl (hFA 9 _ rfl)) (apw_c (q := (a2, .inr (1, [.ref aH2, .ref aP2, .ref aE2, .int (zI (↑n2)), .int (zI (tg2))]))) (apw_f hD [0] rfl (hFA 10 _ rfl)) (apw_c (q := (aH2, .inl (cI, n2, .inl (zA th2)))) (apw_f hD [0] rfl (hFA 11 _ rfl)) (apw_c (q := (aP2, .inl (cI, n2, .inl (zA tm2)))) (apw_f hD [0] rfl (hFA 12 _ rfl)) (apw_c (q := (aE2, .inl (cI, n2, .inl (zA (eI te2))))) (apw_f hD [0] rfl (hFA 13 _ rfl)) (apw_nil)))))))))))))))) rfl rfl hl.1 rfl (lv_room (Nat.le_of_ble_eq_true rfl)) qd_O_isGreater_7 ⟨Nat.le_of_ble_eq_true rfl, Nat.le_of_ble_eq_true rfl⟩) hS (fun q _ h => hFr q h) hFr (fun r7 gr3 t9 H7_1 L7_1 ht9 hv9 hr7 hB9 hz9 hk9 hS => ?_)
    try dsimp only at hr7 hB9
    obtain ⟨hP, hD⟩ := mw_join (wr := []) (w1 := [(oG, .inl (cZ, 256, .inl (zB gr3)))]) hP hD [0] [] rfl rfl (by decide) (by decide) hk9 hFr ht9 hB9
    have hP := hP.sub (ws' := [(oG, .inl (cZ, 256, .inl (zB gr3)))]) [0] rfl
    have hD := hD.sub (ws' := [(oG, .inl (cZ, 256, .inl (zB gr3)))]) [0] (by decide) rfl
    have hF := fz_keep hF0 hFA hS
    refine lv_goto (tgt := 19) hx hb qd_O_isGreater_10 (by decide) ?_
    exact W.zret (v := zI (bI r7)) (ty := .boolean) hx hb hr (bI_n _) (fun t9 ht9 hW9 => ⟨⟨r7, gr3, rfl, (hr7.trans ⟨fun z => ⟨fun _ => z, fun z9 => absurd h1 z9⟩, fun z => z.1 h1⟩), mwB_i (by rw [ht9]; exact hP) (va_K.moved hW9.alike hK) hD⟩, hS.F ht9⟩) hS.2.2 qd_O_isGreater_19
set_option maxHeartbeats 4000000 in
set_option maxRecDepth 100000 in
theorem c_A_fill (l : Launch) (dC : Nat → ClassId) (dI : Nat → Nat → Nat) (cI cZ cT cJ : ClassId) (a n : Nat) (f : Nat → Int) (x : Int) (zh : Nat) (hn : n < 1000) : Met l qy_A_fill qw_A_fill ({ frames := 0, cells := 0, slots := 0, locals := 0 }) (mwP (dC, dI) qcl (qty cI cZ cT cJ) nwL [(a, .inl (cI, n, .inl (zA f)))] [] zh [.ref a, .int (zI (x))]) (va_Qv (S := (Nat → Int)) (fun uq => ∀ q, q < n → uq q = x) (fun uq tq => mwB (dC, dI) qcl (qty cI cZ cT cJ) (va_A [(a, .inl (cI, n, .inl (zA f)))] zh) [(a, .inl (cI, n, .inl (zA uq)))] tq) (va_A [(a, .inl (cI, n, .inl (zA f)))] zh)) 0 0 (va_A [(a, .inl (cI, n, .inl (zA f)))] zh) := by
  refine Met.ofW (cc := qc_A_fill) (maxL := 4) (ret := (Option.none : Option Jvm.ClassFile.FieldType)) (by decide) rfl ?_
  intro pg eg sg mg args below meth cg s₁ B hml hv
  obtain ⟨rfl, hsz, hP, hF0, hK, hN, hD0, hap⟩ := hv
  have hx := B.exec
  have hb := B.bytes
  have hr := B.returns
  have hts := atoms_spec (ws := qw_A_fill) B.pre
  have hg : ∀ w ∈ gw, w.before _ sg = true := fun w h => hts w (List.mem_cons_of_mem _ h)
  have hown : sg.vm.findClass "java/util/Arrays" = some mg.cls := findClass_of_methodNamed B.named
  have hlocks := B.notSynchronized
  have hl := lv_entry ([.ref a, .int (zI (x))]) (n := 4) (Nat.le_of_ble_eq_true rfl)
  rw [lg_entry_eq]
  generalize (lg_sl ([.ref a, .int (zI (x))]) ++ List.replicate (4 - (lg_sl ([.ref a, .int (zI (x))])).length) Slot.unset).toArray = ls at hl ⊢
  subst hsz
  have hD := hD0.self (sz := sg.heap.size)
  have hFA := apw_A hap (fun k q hk => (hF0 k q hk).lt)
  generalize hAe : va_A [(a, .inl (cI, n, .inl (zA f)))] sg.heap.size = A at hD hFA ⊢
  have hA : ∀ q : Nat, sg.heap.size ≤ q → A q := fun q h => by rw [← hAe]; exact Or.inr h
  have hS : va_S A sg.heap sg.heap [] := va_S.rf
  have hF := hF0
  have hl : lv_has ls 4 [(0, .ref a), (1, .int (zI (x)))] := hl
  refine lv_iconst (v := zI 0) hx hb qd_A_fill_0 rfl ?_
  refine lv_istore_n (lv' := [(2, .int (zI (0))), (0, .ref a), (1, .int (zI (x)))]) hx hb qd_A_fill_1 rfl hl (by decide) rfl (fun ls hl => ?_)
  refine lv_aload_n hx hb qd_A_fill_2 rfl (lv_at hl 1 rfl) ?_
  refine va_alen (v := zI ↑n) hx hb hK hP 0 0 rfl rfl (zI_nat _).symm qd_A_fill_3 ?_
  refine lv_istore_n (lv' := [(3, .int (zI (↑n))), (2, .int (zI (0))), (0, .ref a), (1, .int (zI (x)))]) hx hb qd_A_fill_4 rfl hl (by decide) rfl (fun ls hl => ?_)
  have L5 : ∀ (d9 : Nat) (i : Nat) (fz : Nat → Int), (i ≤ n) → (∀ q, q < i → fz q = x) → n - i = d9 → ∀ (H5_1 : Heap) (L5_1 : List Loc), va_P (dC, dI) qcl [(a, .inl (cI, n, .inl (zA fz)))] H5_1 → va_D A [(a, .inl (cI, n, .inl (zA fz)))] → va_S A sg.heap H5_1 L5_1 → ∀ ls : Array Slot, lv_has ls 4 [(3, .int (zI (↑n))), (2, .int (zI (↑i))), (0, .ref a), (1, .int (zI (x)))] → W pg l eg (headSpec qw_A_fill ({ frames := 0, cells := 0, slots := 0, locals := 0 })).room sg mg ([.ref a, .int (zI (x))] : List Value).toArray below meth cg H5_1 L5_1 0 0 (MQ below (va_Qv (S := (Nat → Int)) (fun uq => ∀ q, q < n → uq q = x) (fun uq tq => mwB (dC, dI) qcl (qty cI cZ cT cJ) A [(a, .inl (cI, n, .inl (zA uq)))] tq) A) ([.ref a, .int (zI (x))] : List Value).toArray sg 0 0 A) (F0 mg 5 ls []) := by
    intro d9
    induction d9 using Nat.strongRecOn with
    | _ d9 ih5 =>
      intro i fz hi hz hd9 H5_1 L5_1 hP hD hS ls hl
      refine lv_iload_n hx hb qd_A_fill_5 rfl (lv_at hl 1 rfl) ?_
      refine lv_iload_n hx hb qd_A_fill_6 rfl (lv_at hl 0 rfl) ?_
      refine zz_icmp_ge (tgt := 20) hx hb qd_A_fill_7 (by decide) (by omega) (by omega) (fun h7 => ?_) (fun h7 => ?_)
      · skip
        exact W.vret hx hb hr (fun t9 ht9 hW9 => ⟨⟨fz, rfl, (fun q hq => hz q (by omega)), mwB_i (by rw [ht9]; exact hP) (va_K.moved hW9.alike hK) hD⟩, hS.F ht9⟩) hS.2.2 qd_A_fill_20
      · skip
        refine lv_aload_n hx hb qd_A_fill_10 rfl (lv_at hl 2 rfl) ?_
        refine lv_iload_n hx hb qd_A_fill_11 rfl (lv_at hl 1 rfl) ?_
        refine lv_iload_n hx hb qd_A_fill_12 rfl (lv_at hl 3 rfl) ?_
        refine zz_iast hx hb hK hP hD hS 0 0 rfl rfl i rfl (by omega) (by omega) qd_A_fill_13 (fun H13_2 L13_2 hP hD hS => ?_)
        have hP : va_P (dC, dI) qcl [(a, .inl (cI, n, .inl (zA (uz fz i x))))] H13_2 := hP
        have hD : va_D A [(a, .inl (cI, n, .inl (zA (uz fz i x))))] := hD
        refine lv_iinc (k := 1) (lv' := [(2, .int (zI (↑(i + 1)))), (3, .int (zI (↑n))), (0, .ref a), (1, .int (zI (x)))]) hx hb qd_A_fill_14 hl rfl (zI_inc (v := ↑(i + 1)) (by omega)) (by decide) rfl (fun ls hl => ?_)
        refine lv_goto (tgt := 5) hx hb qd_A_fill_17 (by decide) ?_
        have hl := lv_sub (l' := [(3, .int (zI (↑n))), (2, .int (zI (↑(i + 1)))), (0, .ref a), (1, .int (zI (x)))]) hl [1, 0, 2, 3] rfl
        exact ih5 _ (by omega) (i + 1) (uz fz i x) (by omega) (fun q hq => if h8 : q = i then (by rw [h8, uz_s]) else (by rw [uz_n _ _ h8]; exact hz q (by omega))) rfl H13_2 L13_2 hP hD hS ls hl
  exact L5 _ 0 f (by omega) (fun q hq => by omega) rfl sg.heap [] hP hD hS ls hl
set_option maxHeartbeats 4000000 in
set_option maxRecDepth 100000 in
theorem c_R_bind (l : Launch) (dC : Nat → ClassId) (dI : Nat → Nat → Nat) (cI cZ cT cJ : ClassId) (orr rL rR rB rc : Nat) (lf rf : Nat → Option Nat) (bd : Nat → Int) (a aH aP aE n : Nat) (th tm : Nat → Int) (te : Nat → Nat) (tg : Int) (v q : Nat) (zh : Nat) (h16 : n ≤ 16) (hh : ∀ q, q < n → -4 ≤ th q ∧ th q ≤ 4) (we : wfE tm n te) (hv : v < 4) (hq : q < n) (hbd : bd v = -1 ∨ ∃ x : Nat, bd v = ↑x ∧ x < n) : Met l qy_R_bind qw_R_bind ({ frames := 1, cells := 0, slots := 0, locals := 25 }) (mwP (dC, dI) qcl (qty cI cZ cT cJ) nwL [(rB, .inl (cI, 4, .inl (zA bd)))] [(orr, .inr (4, [.ref rL, .ref rR, .ref rB, .int (zI (↑rc))])), (a, .inr (1, [.ref aH, .ref aP, .ref aE, .int (zI (↑n)), .int (zI (tg))])), (aH, .inl (cI, n, .inl (zA th))), (aP, .inl (cI, n, .inl (zA tm))), (aE, .inl (cI, n, .inl (zA (eI te))))] zh [.ref orr, .int (zI (↑v)), .ref a, .int (zI (↑q))]) (mwO (S := (Nat → Int)) (fun r uq => (r = true ∧ bd v < 0 ∧ uq = uz bd v ↑q) ∨ (r = true ∧ 0 ≤ bd v ∧ smP th te (bd v).toNat th te q ∧ uq = bd) ∨ (r = false ∧ 0 ≤ bd v ∧ ¬ smP th te (bd v).toNat th te q)) (fun uq tq => mwB (dC, dI) qcl (qty cI cZ cT cJ) (va_A [(rB, .inl (cI, 4, .inl (zA bd)))] zh) [(rB, .inl (cI, 4, .inl (zA uq)))] tq) (va_A [(rB, .inl (cI, 4, .inl (zA bd)))] zh)) 0 0 (va_A [(rB, .inl (cI, 4, .inl (zA bd)))] zh) := by
  refine Met.ofW (cc := qc_R_bind) (maxL := 4) (ret := (Option.some Jvm.ClassFile.FieldType.boolean)) (by decide) rfl ?_
  intro pg eg sg mg args below meth cg s₁ B hml hv
  obtain ⟨rfl, hsz, hP, hF0, hK, hN, hD0, hap⟩ := hv
  have hx := B.exec
  have hb := B.bytes
  have hr := B.returns
  have hts := atoms_spec (ws := qw_R_bind) B.pre
  have hg : ∀ w ∈ gw, w.before _ sg = true := fun w h => hts w (List.mem_cons_of_mem _ h)
  have hown : sg.vm.findClass "TermOrders$Rules" = some mg.cls := findClass_of_methodNamed B.named
  have hlocks := B.notSynchronized
  have hl := lv_entry ([.ref orr, .int (zI (↑v)), .ref a, .int (zI (↑q))]) (n := 4) (Nat.le_of_ble_eq_true rfl)
  rw [lg_entry_eq]
  generalize (lg_sl ([.ref orr, .int (zI (↑v)), .ref a, .int (zI (↑q))]) ++ List.replicate (4 - (lg_sl ([.ref orr, .int (zI (↑v)), .ref a, .int (zI (↑q))])).length) Slot.unset).toArray = ls at hl ⊢
  subst hsz
  have hD := hD0.self (sz := sg.heap.size)
  have hFA := apw_A hap (fun k q hk => (hF0 k q hk).lt)
  generalize hAe : va_A [(rB, .inl (cI, 4, .inl (zA bd)))] sg.heap.size = A at hD hFA ⊢
  have hA : ∀ q : Nat, sg.heap.size ≤ q → A q := fun q h => by rw [← hAe]; exact Or.inr h
  have hS : va_S A sg.heap sg.heap [] := va_S.rf
  have hF := hF0
  have hl : lv_has ls 4 [(0, .ref orr), (1, .int (zI (↑v))), (2, .ref a), (3, .int (zI (↑q)))] := hl
  have hbb : -1 ≤ bd v ∧ bd v < n := by rcases hbd with z | ⟨x, z1, z2⟩ <;> omega
  refine lv_aload_n hx hb qd_R_bind_0 rfl (lv_at hl 0 rfl) ?_
  refine va_get (D := (dC, dI)) (ci := 4) (v := .ref rB) (C := "TermOrders$Rules") (T := qT_R) (N := 4) hx hb hg qi_R hown hK hF 0 rfl rfl 2 (by decide) (hg _ wd_94) (fun _ h9 => h9) rfl qd_R_bind_1 ?_
  refine lv_iload_n hx hb qd_R_bind_4 rfl (lv_at hl 1 rfl) ?_
  refine zz_iald hx hb hK hP 0 0 rfl rfl v rfl (by omega) (by omega) qd_R_bind_5 ?_
  refine lv_iconst (v := zI (-1)) hx hb qd_R_bind_6 rfl ?_
  refine zz_icmp_ne (tgt := 19) hx hb qd_R_bind_7 (by decide) (by omega) (by omega) (fun h7 => ?_) (fun h7 => ?_)
  · skip
    refine lv_aload_n hx hb qd_R_bind_19 rfl (lv_at hl 2 rfl) ?_
    refine lv_aload_n hx hb qd_R_bind_20 rfl (lv_at hl 0 rfl) ?_
    refine va_get (D := (dC, dI)) (ci := 4) (v := .ref rB) (C := "TermOrders$Rules") (T := qT_R) (N := 4) hx hb hg qi_R hown hK hF 0 rfl rfl 2 (by decide) (hg _ wd_94) (fun _ h9 => h9) rfl qd_R_bind_21 ?_
    refine lv_iload_n hx hb qd_R_bind_24 rfl (lv_at hl 1 rfl) ?_
    refine zz_iald hx hb hK hP 0 0 rfl rfl v rfl (by omega) (by omega) qd_R_bind_25 ?_
    refine zz_top (b := ↑(bd v).toNat) (by omega) ?_
    refine lv_aload_n hx hb qd_R_bind_26 rfl (lv_at hl 2 rfl) ?_
    refine lv_iload_n hx hb qd_R_bind_27 rfl (lv_at hl 3 rfl) ?_
    refine rd_callB (va_runVN (As := [.int (zI (↑((bd v).toNat))), .ref a, .int (zI (↑q))]) (rest := []) ⟨hx, hb, hml, hown, hg⟩ (c_T_isSamePlace l dC dI cI cZ cT cJ a aH aP aE n th tm te tg a aH aP aE n th tm te tg ((bd v).toNat) q h16 h16 hh hh we we (by omega) hq) ⟨va_cnB 3 hg (gw_ok (fun _ h => h) wd_455) rfl rfl rfl (hN.use nw_571) (hg _ wd_13) (by decide +kernel) ⟨Nat.le_of_ble_eq_true rfl, Nat.le_of_ble_eq_true rfl⟩, hg _ wd_454, hg _ se_T_isSamePlace⟩ (rd_preV (va_recv (q0 := 1) hK hF rfl rfl) (pw_c (q := (a, .inr (1, [.ref aH, .ref aP, .ref aE, .int (zI (↑n)), .int (zI (tg))]))) hF 1 rfl (pw_c (q := (aH, .inl (cI, n, .inl (zA th)))) hF 2 rfl (pw_c (q := (aP, .inl (cI, n, .inl (zA tm)))) hF 3 rfl (pw_c (q := (aE, .inl (cI, n, .inl (zA (eI te))))) hF 4 rfl (pw_c (q := (a, .inr (1, [.ref aH, .ref aP, .ref aE, .int (zI (↑n)), .int (zI (tg))]))) hF 1 rfl (pw_c (q := (aH, .inl (cI, n, .inl (zA th)))) hF 2 rfl (pw_c (q := (aP, .inl (cI, n, .inl (zA tm)))) hF 3 rfl (pw_c (q := (aE, .inl (cI, n, .inl (zA (eI te))))) hF 4 rfl (pw_nil))))))))) hK hN) rfl rfl hl.1 rfl (lv_room (Nat.le_of_ble_eq_true rfl)) qd_R_bind_28 ⟨Nat.le_of_ble_eq_true rfl, Nat.le_of_ble_eq_true rfl⟩).run (fun r28 hr28 => ?_)
    exact W.zret (v := zI (bI r28)) (ty := .boolean) hx hb hr (bI_n _) (fun t9 ht9 hW9 => ⟨⟨r28, bd, rfl, (by cases hb9 : r28 with
      | true => exact Or.inr (Or.inl ⟨rfl, by omega, hr28.mp hb9, rfl⟩)
      | false => exact Or.inr (Or.inr ⟨rfl, by omega, fun z => by rw [hr28.mpr z] at hb9; exact Bool.noConfusion hb9⟩)), mwB_i (by rw [ht9]; exact hP) (va_K.moved hW9.alike hK) hD⟩, hS.F ht9⟩) hS.2.2 qd_R_bind_31
  · skip
    refine lv_aload_n hx hb qd_R_bind_10 rfl (lv_at hl 0 rfl) ?_
    refine va_get (D := (dC, dI)) (ci := 4) (v := .ref rB) (C := "TermOrders$Rules") (T := qT_R) (N := 4) hx hb hg qi_R hown hK hF 0 rfl rfl 2 (by decide) (hg _ wd_94) (fun _ h9 => h9) rfl qd_R_bind_11 ?_
    refine lv_iload_n hx hb qd_R_bind_14 rfl (lv_at hl 1 rfl) ?_
    refine lv_iload_n hx hb qd_R_bind_15 rfl (lv_at hl 3 rfl) ?_
    refine zz_iast hx hb hK hP hD hS 0 0 rfl rfl v rfl (by omega) (by omega) qd_R_bind_16 (fun H16_1 L16_1 hP hD hS => ?_)
    have hP : va_P (dC, dI) qcl [(rB, .inl (cI, 4, .inl (zA (uz bd v (↑q)))))] H16_1 := hP
    have hD : va_D A [(rB, .inl (cI, 4, .inl (zA (uz bd v (↑q)))))] := hD
    have hF := fz_keep hF0 hFA hS
    refine lv_iconst (v := zI 1) hx hb qd_R_bind_17 rfl ?_
    exact W.zret (v := zI (bI true)) (ty := .boolean) hx hb hr (bI_n _) (fun t9 ht9 hW9 => ⟨⟨true, uz bd v ↑q, rfl, (Or.inl ⟨rfl, by omega, rfl⟩), mwB_i (by rw [ht9]; exact hP) (va_K.moved hW9.alike hK) hD⟩, hS.F ht9⟩) hS.2.2 qd_R_bind_18
set_option maxHeartbeats 4000000 in
set_option maxRecDepth 100000 in
theorem c_R_bindMatch (l : Launch) (dC : Nat → ClassId) (dI : Nat → Nat → Nat) (cI cZ cT cJ : ClassId) (orr rL rR rB rc : Nat) (lf rf : Nat → Option Nat) (bd : Nat → Int) (a1 aH1 aP1 aE1 n1 : Nat) (th1 tm1 : Nat → Int) (te1 : Nat → Nat) (tg1 : Int) (a aH aP aE n : Nat) (th tm : Nat → Int) (te : Nat → Nat) (tg : Int) (p : Nat) (zh : Nat) (hl16 : n1 ≤ 16) (hlh : ∀ q, q < n1 → -4 ≤ th1 q ∧ th1 q ≤ 4) (hlr : rowL tm1 n1) (hlv : ∀ i, i < n1 → th1 i < 0 → tm1 i = 0) (hlm : ∀ i j, i < n1 → j < n → 0 ≤ th1 i → th1 i = th j → tm1 i = tm j) (h16 : n ≤ 16) (hh : ∀ q, q < n → -4 ≤ th q ∧ th q ≤ 4) (we : wfE tm n te) (hp : p < n) : Met l qy_R_bindMatch qw_R_bindMatch ({ frames := 2, cells := 0, slots := 0, locals := 48 }) (mwP (dC, dI) qcl (qty cI cZ cT cJ) nwL [(rB, .inl (cI, 4, .inl (zA bd)))] [(orr, .inr (4, [.ref rL, .ref rR, .ref rB, .int (zI (↑rc))])), (a1, .inr (1, [.ref aH1, .ref aP1, .ref aE1, .int (zI (↑n1)), .int (zI (tg1))])), (aH1, .inl (cI, n1, .inl (zA th1))), (aP1, .inl (cI, n1, .inl (zA tm1))), (aE1, .inl (cI, n1, .inl (zA (eI te1)))), (a, .inr (1, [.ref aH, .ref aP, .ref aE, .int (zI (↑n)), .int (zI (tg))])), (aH, .inl (cI, n, .inl (zA th))), (aP, .inl (cI, n, .inl (zA tm))), (aE, .inl (cI, n, .inl (zA (eI te))))] zh [.ref orr, .ref a1, .ref a, .int (zI (↑p))]) (mwO (S := (Nat → Int)) (fun r uq => (r = true → ∃ q, MR th1 th te p n1 q uq) ∧ (r = false → ¬ MA th1 n1 th te p)) (fun uq tq => mwB (dC, dI) qcl (qty cI cZ cT cJ) (va_A [(rB, .inl (cI, 4, .inl (zA bd)))] zh) [(rB, .inl (cI, 4, .inl (zA uq)))] tq) (va_A [(rB, .inl (cI, 4, .inl (zA bd)))] zh)) 0 0 (va_A [(rB, .inl (cI, 4, .inl (zA bd)))] zh) := by
  refine Met.ofW (cc := qc_R_bindMatch) (maxL := 6) (ret := (Option.some Jvm.ClassFile.FieldType.boolean)) (by decide) rfl ?_
  intro pg eg sg mg args below meth cg s₁ B hml hv
  obtain ⟨rfl, hsz, hP, hF0, hK, hN, hD0, hap⟩ := hv
  have hx := B.exec
  have hb := B.bytes
  have hr := B.returns
  have hts := atoms_spec (ws := qw_R_bindMatch) B.pre
  have hg : ∀ w ∈ gw, w.before _ sg = true := fun w h => hts w (List.mem_cons_of_mem _ h)
  have hown : sg.vm.findClass "TermOrders$Rules" = some mg.cls := findClass_of_methodNamed B.named
  have hlocks := B.notSynchronized
  have hl := lv_entry ([.ref orr, .ref a1, .ref a, .int (zI (↑p))]) (n := 6) (Nat.le_of_ble_eq_true rfl)
  rw [lg_entry_eq]
  generalize (lg_sl ([.ref orr, .ref a1, .ref a, .int (zI (↑p))]) ++ List.replicate (6 - (lg_sl ([.ref orr, .ref a1, .ref a, .int (zI (↑p))])).length) Slot.unset).toArray = ls at hl ⊢
  subst hsz
  have hD := hD0.self (sz := sg.heap.size)
  have hFA := apw_A hap (fun k q hk => (hF0 k q hk).lt)
  generalize hAe : va_A [(rB, .inl (cI, 4, .inl (zA bd)))] sg.heap.size = A at hD hFA ⊢
  have hA : ∀ q : Nat, sg.heap.size ≤ q → A q := fun q h => by rw [← hAe]; exact Or.inr h
  have hS : va_S A sg.heap sg.heap [] := va_S.rf
  have hF := hF0
  have hl : lv_has ls 6 [(0, .ref orr), (1, .ref a1), (2, .ref a), (3, .int (zI (↑p)))] := hl
  obtain ⟨w1, w2, w3, w4⟩ := we p hp
  refine lv_aload_n hx hb qd_R_bindMatch_0 rfl (lv_at hl 0 rfl) ?_
  refine va_get (D := (dC, dI)) (ci := 4) (v := .ref rB) (C := "TermOrders$Rules") (T := qT_R) (N := 4) hx hb hg qi_R hown hK hF 0 rfl rfl 2 (by decide) (hg _ wd_94) (fun _ h9 => h9) rfl qd_R_bindMatch_1 ?_
  refine lv_iconst (v := zI (-1)) hx hb qd_R_bindMatch_4 rfl ?_
  have hPc := hP.sub (ws' := [(rB, .inl (cI, 4, .inl (zA bd)))]) [0] rfl
  have hDc := hD.sub (ws' := [(rB, .inl (cI, 4, .inl (zA bd)))]) [0] (by decide) rfl
  have hFr := va_free (wc := [(rB, .inl (cI, 4, .inl (zA bd)))]) hD hS hA [0] rfl
  refine va_callv (va_runS (As := [.ref rB, .int (zI ((-1)))]) (rest := []) ⟨hx, hb, hml, hown, hg⟩ (c_A_fill l dC dI cI cZ cT cJ rB 4 bd (-1) sg.heap.size (by omega)) ⟨callB_of 2 hg (gw_ok (fun _ h => h) wd_565) rfl rfl rfl (hg _ wd_14) (hg _ wd_563) (by decide +kernel) ⟨Nat.le_of_ble_eq_true rfl, Nat.le_of_ble_eq_true rfl⟩, hg _ wd_564⟩ (mw_preS hPc (pw_nil) hK hN hDc (apw_nil)) rfl rfl hl.1 rfl (lv_room (Nat.le_of_ble_eq_true rfl)) qd_R_bindMatch_5 ⟨Nat.le_of_ble_eq_true rfl, Nat.le_of_ble_eq_true rfl⟩) hS (fun q _ h => hFr q h) hFr (fun b0 t9 H5_1 L5_1 ht9 hv9 hr5 hB9 hz9 hk9 hS => ?_)
  try dsimp only at hr5 hB9
  obtain ⟨hP, hD⟩ := mw_join (wr := []) (w1 := [(rB, .inl (cI, 4, .inl (zA b0)))]) hP hD [0] [] rfl rfl (by decide) (by decide) hk9 hFr ht9 hB9
  have hP := hP.sub (ws' := [(rB, .inl (cI, 4, .inl (zA b0)))]) [0] rfl
  have hD := hD.sub (ws' := [(rB, .inl (cI, 4, .inl (zA b0)))]) [0] (by decide) rfl
  have hF := fz_keep hF0 hFA hS
  refine lv_iload_n hx hb qd_R_bindMatch_8 rfl (lv_at hl 3 rfl) ?_
  refine lv_istore (lv' := [(4, .int (zI (↑p))), (0, .ref orr), (1, .ref a1), (2, .ref a), (3, .int (zI (↑p)))]) hx hb qd_R_bindMatch_9 hl (by decide) rfl (fun ls hl => ?_)
  refine lv_iconst (v := zI 0) hx hb qd_R_bindMatch_11 rfl ?_
  refine lv_istore (lv' := [(5, .int (zI (0))), (4, .int (zI (↑p))), (0, .ref orr), (1, .ref a1), (2, .ref a), (3, .int (zI (↑p)))]) hx hb qd_R_bindMatch_12 hl (by decide) rfl (fun ls hl => ?_)
  have L14 : ∀ (d9 : Nat) (i : Nat) (q : Nat) (bz : Nat → Int), (i ≤ n1) → (MR th1 th te p i q bz) → n1 - i = d9 → ∀ (H14_2 : Heap) (L14_2 : List Loc), va_P (dC, dI) qcl [(rB, .inl (cI, 4, .inl (zA bz)))] H14_2 → va_D A [(rB, .inl (cI, 4, .inl (zA bz)))] → va_S A sg.heap H14_2 L14_2 → ∀ ls : Array Slot, lv_has ls 6 [(5, .int (zI (↑i))), (4, .int (zI (↑q))), (0, .ref orr), (1, .ref a1), (2, .ref a), (3, .int (zI (↑p)))] → W pg l eg (headSpec qw_R_bindMatch ({ frames := 2, cells := 0, slots := 0, locals := 48 })).room sg mg ([.ref orr, .ref a1, .ref a, .int (zI (↑p))] : List Value).toArray below meth cg H14_2 L14_2 0 0 (MQ below (mwO (S := (Nat → Int)) (fun r uq => (r = true → ∃ q, MR th1 th te p n1 q uq) ∧ (r = false → ¬ MA th1 n1 th te p)) (fun uq tq => mwB (dC, dI) qcl (qty cI cZ cT cJ) A [(rB, .inl (cI, 4, .inl (zA uq)))] tq) A) ([.ref orr, .ref a1, .ref a, .int (zI (↑p))] : List Value).toArray sg 0 0 A) (F0 mg 14 ls []) := by
    intro d9
    induction d9 using Nat.strongRecOn with
    | _ d9 ih14 =>
      intro i q bz hi hM hd9 H14_2 L14_2 hP hD hS ls hl
      have hF := fz_keep hF0 hFA hS
      obtain ⟨m1, m2, m3, m4⟩ := MR_in (el := te) hlr we hp hlm hlv hi hM
      refine lv_iload hx hb qd_R_bindMatch_14 (lv_at hl 0 rfl) ?_
      refine lv_aload_n hx hb qd_R_bindMatch_16 rfl (lv_at hl 3 rfl) ?_
      refine va_getN (D := (dC, dI)) (ci := 1) (v := .int (zI (↑n1))) (C := "TermOrders$Term") (T := qT_T) (N := 5) hx hb hg qi_T hown hK hF 1 rfl rfl 3 (by decide) (va_Nw.use rfl (hN.use nw_338)) (fun _ h9 => h9) rfl qd_R_bindMatch_17 ?_
      refine zz_icmp_ge (tgt := 107) hx hb qd_R_bindMatch_20 (by decide) (by omega) (by omega) (fun h20 => ?_) (fun h20 => ?_)
      · skip
        refine lv_iconst (v := zI 1) hx hb qd_R_bindMatch_107 rfl ?_
        exact W.zret (v := zI (bI true)) (ty := .boolean) hx hb hr (bI_n _) (fun t9 ht9 hW9 => ⟨⟨true, bz, rfl, ⟨fun _ => ⟨q, by rw [show n1 = i by omega]; exact hM⟩, fun z => Bool.noConfusion z⟩, mwB_i (by rw [ht9]; exact hP) (va_K.moved hW9.alike hK) hD⟩, hS.F ht9⟩) hS.2.2 qd_R_bindMatch_108
      · skip
        obtain ⟨g1, g2, g3⟩ := MR_lt hlr we hp hlm hlv (by omega) hM
        have hqh := hh q g3
        have hih := hlh i (by omega)
        have hqw := we q g3
        refine lv_iload hx hb qd_R_bindMatch_23 (lv_at hl 1 rfl) ?_
        refine lv_aload_n hx hb qd_R_bindMatch_25 rfl (lv_at hl 4 rfl) ?_
        refine va_getN (D := (dC, dI)) (ci := 1) (v := .int (zI (↑n))) (C := "TermOrders$Term") (T := qT_T) (N := 5) hx hb hg qi_T hown hK hF 5 rfl rfl 3 (by decide) (va_Nw.use rfl (hN.use nw_338)) (fun _ h9 => h9) rfl qd_R_bindMatch_26 ?_
        refine zz_icmp_lt (tgt := 34) hx hb qd_R_bindMatch_29 (by decide) (by omega) (by omega) (fun h29 => ?_) (fun h29 => ?_)
        · skip
          refine lv_aload_n hx hb qd_R_bindMatch_34 rfl (lv_at hl 3 rfl) ?_
          refine lv_iload hx hb qd_R_bindMatch_35 (lv_at hl 0 rfl) ?_
          refine rd_callB (va_runVN (As := [.int (zI (↑i))]) (rest := []) ⟨hx, hb, hml, hown, hg⟩ (c_T_isVariable l dC dI cI cZ cT cJ a1 aH1 aP1 aE1 n1 th1 tm1 te1 tg1 i hl16 hlh (by omega)) ⟨va_cnB 1 hg (gw_ok (fun _ h => h) wd_388) rfl rfl rfl (hN.use nw_566) (hg _ wd_13) (by decide +kernel) ⟨Nat.le_of_ble_eq_true rfl, Nat.le_of_ble_eq_true rfl⟩, hg _ wd_387, hg _ se_T_isVariable⟩ (rd_preV (va_recv (q0 := 1) hK hF rfl rfl) (pw_c (q := (a1, .inr (1, [.ref aH1, .ref aP1, .ref aE1, .int (zI (↑n1)), .int (zI (tg1))]))) hF 1 rfl (pw_c (q := (aH1, .inl (cI, n1, .inl (zA th1)))) hF 2 rfl (pw_c (q := (aP1, .inl (cI, n1, .inl (zA tm1)))) hF 3 rfl (pw_c (q := (aE1, .inl (cI, n1, .inl (zA (eI te1))))) hF 4 rfl (pw_nil))))) hK hN) rfl rfl hl.1 rfl (lv_room (Nat.le_of_ble_eq_true rfl)) qd_R_bindMatch_37 ⟨Nat.le_of_ble_eq_true rfl, Nat.le_of_ble_eq_true rfl⟩).run (fun r37 hr37 => ?_)
          refine zz_ifeqB (tgt := 76) hx hb qd_R_bindMatch_40 (by decide) (fun h40 => ?_) (fun h40 => ?_)
          · skip
            have hvx : 0 ≤ th1 i := Classical.byContradiction (fun z => by rw [hr37.mpr (by omega)] at h40; exact Bool.noConfusion h40)
            refine lv_aload_n hx hb qd_R_bindMatch_76 rfl (lv_at hl 3 rfl) ?_
            refine va_getN (D := (dC, dI)) (ci := 1) (v := .ref aH1) (C := "TermOrders$Term") (T := qT_T) (N := 5) hx hb hg qi_T hown hK hF 1 rfl rfl 0 (by decide) (va_Nw.use rfl (hN.use nw_325)) (fun _ h9 => h9) rfl qd_R_bindMatch_77 ?_
            refine lv_iload hx hb qd_R_bindMatch_80 (lv_at hl 0 rfl) ?_
            refine zz_iald hx hb hK hF 2 0 rfl rfl i rfl (by omega) (by omega) qd_R_bindMatch_82 ?_
            refine lv_aload_n hx hb qd_R_bindMatch_83 rfl (lv_at hl 4 rfl) ?_
            refine va_getN (D := (dC, dI)) (ci := 1) (v := .ref aH) (C := "TermOrders$Term") (T := qT_T) (N := 5) hx hb hg qi_T hown hK hF 5 rfl rfl 0 (by decide) (va_Nw.use rfl (hN.use nw_325)) (fun _ h9 => h9) rfl qd_R_bindMatch_84 ?_
            refine lv_iload hx hb qd_R_bindMatch_87 (lv_at hl 1 rfl) ?_
            refine zz_iald hx hb hK hF 6 0 rfl rfl q rfl (by omega) (by omega) qd_R_bindMatch_89 ?_
            refine zz_icmp_ne (tgt := 99) hx hb qd_R_bindMatch_90 (by decide) (by omega) (by omega) (fun h90 => ?_) (fun h90 => ?_)
            · skip
              have hno : ¬ MA th1 n1 th te p := MA_not (by omega) hM (fun q9 b9 z => z.elim (fun y => h90 y.2.1) (fun z => z.elim (fun y => absurd y.1 (by omega)) (fun y => absurd y.1 (by omega))))
              refine lv_iconst (v := zI 0) hx hb qd_R_bindMatch_99 rfl ?_
              exact W.zret (v := zI (bI false)) (ty := .boolean) hx hb hr (bI_n _) (fun t9 ht9 hW9 => ⟨⟨false, bz, rfl, ⟨fun z => Bool.noConfusion z, fun _ => hno⟩, mwB_i (by rw [ht9]; exact hP) (va_K.moved hW9.alike hK) hD⟩, hS.F ht9⟩) hS.2.2 qd_R_bindMatch_100
            · skip
              have hM2 : MR th1 th te p (i + 1) (q + 1) bz := ⟨q, bz, hM, Or.inl ⟨hvx, h90, rfl, rfl⟩⟩
              refine lv_iinc (k := 1) (lv' := [(4, .int (zI (↑(q + 1)))), (5, .int (zI (↑i))), (0, .ref orr), (1, .ref a1), (2, .ref a), (3, .int (zI (↑p)))]) hx hb qd_R_bindMatch_93 hl rfl (zI_inc (v := ↑(q + 1)) (by omega)) (by decide) rfl (fun ls hl => ?_)
              refine lv_goto (tgt := 101) hx hb qd_R_bindMatch_96 (by decide) ?_
              refine lv_iinc (k := 1) (lv' := [(5, .int (zI (↑(i + 1)))), (4, .int (zI (↑(q + 1)))), (0, .ref orr), (1, .ref a1), (2, .ref a), (3, .int (zI (↑p)))]) hx hb qd_R_bindMatch_101 hl rfl (zI_inc (v := ↑(i + 1)) (by omega)) (by decide) rfl (fun ls hl => ?_)
              refine lv_goto (tgt := 14) hx hb qd_R_bindMatch_104 (by decide) ?_
              exact ih14 _ (by (try clear hm9); omega) (i + 1) (q + 1) bz (by (try clear hm9); omega) hM2 rfl H14_2 L14_2 hP hD hS ls hl
          · skip
            have hvx : th1 i < 0 := hr37.mp h40
            have hm9 := m4 ((-1) - th1 i).toNat
            refine lv_aload_n hx hb qd_R_bindMatch_43 rfl (lv_at hl 2 rfl) ?_
            refine lv_iconst (v := zI (-1)) hx hb qd_R_bindMatch_44 rfl ?_
            refine lv_aload_n hx hb qd_R_bindMatch_45 rfl (lv_at hl 3 rfl) ?_
            refine va_getN (D := (dC, dI)) (ci := 1) (v := .ref aH1) (C := "TermOrders$Term") (T := qT_T) (N := 5) hx hb hg qi_T hown hK hF 1 rfl rfl 0 (by decide) (va_Nw.use rfl (hN.use nw_325)) (fun _ h9 => h9) rfl qd_R_bindMatch_46 ?_
            refine lv_iload hx hb qd_R_bindMatch_49 (lv_at hl 0 rfl) ?_
            refine zz_iald hx hb hK hF 2 0 rfl rfl i rfl (by omega) (by omega) qd_R_bindMatch_51 ?_
            refine zz_isub hx hb (↑((-1) - th1 i).toNat) (by omega) qd_R_bindMatch_52 ?_
            refine lv_aload_n hx hb qd_R_bindMatch_53 rfl (lv_at hl 4 rfl) ?_
            refine lv_iload hx hb qd_R_bindMatch_54 (lv_at hl 1 rfl) ?_
            have hPc := hP.sub (ws' := [(rB, .inl (cI, 4, .inl (zA bz)))]) [0] rfl
            have hDc := hD.sub (ws' := [(rB, .inl (cI, 4, .inl (zA bz)))]) [0] (by decide) rfl
            have hFr := va_free (wc := [(rB, .inl (cI, 4, .inl (zA bz)))]) hD hS hA [0] rfl
            refine mw_callO (va_runV (As := [.int (zI (↑(((-1) - th1 i).toNat))), .ref a, .int (zI (↑q))]) (rest := []) ⟨hx, hb, hml, hown, hg⟩ (c_R_bind l dC dI cI cZ cT cJ orr rL rR rB rc lf rf bz a aH aP aE n th tm te tg (((-1) - th1 i).toNat) q H14_2.size h16 hh we (by omega) g3 (hm9.elim Or.inl (fun ⟨x, z1, z2, z3⟩ => Or.inr ⟨x, z1, by omega⟩))) ⟨callB_of 3 hg (gw_ok (fun _ h => h) wd_570) rfl rfl rfl (hg _ wd_4) (hg _ wd_567) (by decide +kernel) ⟨Nat.le_of_ble_eq_true rfl, Nat.le_of_ble_eq_true rfl⟩, hg _ wd_569, hg _ se_R_bind⟩ (mw_preV (va_recv (q0 := 0) hK hF rfl rfl) hPc (pw_c (q := (orr, .inr (4, [.ref rL, .ref rR, .ref rB, .int (zI (↑rc))]))) hF 0 rfl (pw_c (q := (a, .inr (1, [.ref aH, .ref aP, .ref aE, .int (zI (↑n)), .int (zI (tg))]))) hF 5 rfl (pw_c (q := (aH, .inl (cI, n, .inl (zA th)))) hF 6 rfl (pw_c (q := (aP, .inl (cI, n, .inl (zA tm)))) hF 7 rfl (pw_c (q := (aE, .inl (cI, n, .inl (zA (eI te))))) hF 8 rfl (pw_nil)))))) hK hN hDc (apw_c (q := (orr, .inr (4, [.ref rL, .ref rR, .ref rB, .int (zI (↑rc))]))) (apw_f hD [0] rfl (hFA 0 _ rfl)) (apw_c (q := (a, .inr (1, [.ref aH, .ref aP, .ref aE, .int (zI (↑n)), .int (zI (tg))]))) (apw_f hD [0] rfl (hFA 5 _ rfl)) (apw_c (q := (aH, .inl (cI, n, .inl (zA th)))) (apw_f hD [0] rfl (hFA 6 _ rfl)) (apw_c (q := (aP, .inl (cI, n, .inl (zA tm)))) (apw_f hD [0] rfl (hFA 7 _ rfl)) (apw_c (q := (aE, .inl (cI, n, .inl (zA (eI te))))) (apw_f hD [0] rfl (hFA 8 _ rfl)) (apw_nil))))))) rfl rfl hl.1 rfl (lv_room (Nat.le_of_ble_eq_true rfl)) qd_R_bindMatch_56 ⟨Nat.le_of_ble_eq_true rfl, Nat.le_of_ble_eq_true rfl⟩) hS (fun q _ h => hFr q h) hFr (fun r56 b3 t9 H56_3 L56_3 ht9 hv9 hr56 hB9 hz9 hk9 hS => ?_)
            try dsimp only at hr56 hB9
            obtain ⟨hP, hD⟩ := mw_join (wr := []) (w1 := [(rB, .inl (cI, 4, .inl (zA b3)))]) hP hD [0] [] rfl rfl (by decide) (by decide) hk9 hFr ht9 hB9
            have hP := hP.sub (ws' := [(rB, .inl (cI, 4, .inl (zA b3)))]) [0] rfl
            have hD := hD.sub (ws' := [(rB, .inl (cI, 4, .inl (zA b3)))]) [0] (by decide) rfl
            have hF := fz_keep hF0 hFA hS
            refine zz_ifneB (tgt := 64) hx hb qd_R_bindMatch_59 (by decide) (fun h59 => ?_) (fun h59 => ?_)
            · skip
              have hM2 : MR th1 th te p (i + 1) (te q) b3 := by
                refine ⟨q, bz, hM, ?_⟩
                rcases hr56 with ⟨_, z1, z2⟩ | ⟨_, z1, z2, z3⟩ | ⟨z1, _⟩
                · exact Or.inr (Or.inl ⟨hvx, z1, rfl, z2⟩)
                · exact Or.inr (Or.inr ⟨hvx, z1, z2, rfl, z3⟩)
                · rw [z1] at h59; exact Bool.noConfusion h59
              refine lv_aload_n hx hb qd_R_bindMatch_64 rfl (lv_at hl 4 rfl) ?_
              refine va_getN (D := (dC, dI)) (ci := 1) (v := .ref aE) (C := "TermOrders$Term") (T := qT_T) (N := 5) hx hb hg qi_T hown hK hF 5 rfl rfl 2 (by decide) (va_Nw.use rfl (hN.use nw_334)) (fun _ h9 => h9) rfl qd_R_bindMatch_65 ?_
              refine lv_iload hx hb qd_R_bindMatch_68 (lv_at hl 1 rfl) ?_
              refine zz_eald hx hb hK hF 8 0 rfl rfl q rfl (by omega) (by omega) qd_R_bindMatch_70 ?_
              refine lv_istore (lv' := [(4, .int (zI (↑(te q)))), (5, .int (zI (↑i))), (0, .ref orr), (1, .ref a1), (2, .ref a), (3, .int (zI (↑p)))]) hx hb qd_R_bindMatch_71 hl (by decide) rfl (fun ls hl => ?_)
              refine lv_goto (tgt := 101) hx hb qd_R_bindMatch_73 (by decide) ?_
              refine lv_iinc (k := 1) (lv' := [(5, .int (zI (↑(i + 1)))), (4, .int (zI (↑(te q)))), (0, .ref orr), (1, .ref a1), (2, .ref a), (3, .int (zI (↑p)))]) hx hb qd_R_bindMatch_101 hl rfl (zI_inc (v := ↑(i + 1)) (by omega)) (by decide) rfl (fun ls hl => ?_)
              refine lv_goto (tgt := 14) hx hb qd_R_bindMatch_104 (by decide) ?_
              exact ih14 _ (by (try clear hm9); omega) (i + 1) (te q) b3 (by (try clear hm9); omega) hM2 rfl H56_3 L56_3 hP hD hS ls hl
            · skip
              have hno : ¬ MA th1 n1 th te p := by
                refine MA_not (by omega) hM (fun q9 b9 z => ?_)
                rcases hr56 with ⟨z1, _⟩ | ⟨z1, _⟩ | ⟨_, z1, z2⟩
                · rw [z1] at h59; exact Bool.noConfusion h59
                · rw [z1] at h59; exact Bool.noConfusion h59
                · rcases z with ⟨y1, _⟩ | ⟨_, y2, _⟩ | ⟨_, _, y3, _⟩
                  · omega
                  · omega
                  · exact z2 y3
              refine lv_iconst (v := zI 0) hx hb qd_R_bindMatch_62 rfl ?_
              exact W.zret (v := zI (bI false)) (ty := .boolean) hx hb hr (bI_n _) (fun t9 ht9 hW9 => ⟨⟨false, b3, rfl, ⟨fun z => Bool.noConfusion z, fun _ => hno⟩, mwB_i (by rw [ht9]; exact hP) (va_K.moved hW9.alike hK) hD⟩, hS.F ht9⟩) hS.2.2 qd_R_bindMatch_63
        · skip
          exfalso
          omega
  have hP : va_P (dC, dI) qcl [(rB, .inl (cI, 4, .inl (zA ((fun _ => -1)))))] H5_1 := pw_ext (q0 := 0) (g := zA ((fun _ => -1))) hP rfl (fun j hj => by show zI (b0 j) = zI (-1); rw [hr5 j hj])
  have hD : va_D A [(rB, .inl (cI, 4, .inl (zA ((fun _ => -1)))))] := dw_ext (q0 := 0) hD rfl
  exact L14 _ 0 p (fun _ => -1) (by omega) (⟨rfl, rfl⟩) rfl H5_1 L5_1 hP hD hS ls hl
