theorem mu_s {n k d : Nat} (h : n - k = d) (hk : k < n) : n - (k + 1) < d := by omega
theorem inn_no {M : Nat → Prop} {e : Nat → Nat} {n : Nat} (he : ∀ k, k < n → e k ≤ n) (h : ∀ j, j < n → ¬ inn M e j) : ∀ k, k < n → ¬ M k := by
  have key : ∀ d k, n - k ≤ d → k < n → ¬ M k := by
    intro d
    induction d with
    | zero => intro k h1 h2; omega
    | succ d ih =>
      intro k h1 h2 hM
      have hk := he k h2
      exact h k h2 ⟨hM, fun q a1 a2 hq => ih q (by omega) (by omega) hq⟩
  exact fun k hk => key n k (by omega) hk
set_option maxHeartbeats 4000000 in
set_option maxRecDepth 100000 in
theorem c_M_matches (l : Launch) (dC : Nat → ClassId) (dI : Nat → Nat → Nat) (cI cZ cT cJ : ClassId) (o mA mR mW mC mS mL mT mH mY mE mG mB mO sy tc rc : Nat) (tw : Int) (ar rk wt co : Nat → Int) (sz lf rg : Nat → Nat) (hi hv : Nat → Int) (ef : Nat → Nat) (gr : Nat → Bool) (bd ol : Nat → Int) (tn : Nat → Nat) (TH TM : Nat → Nat → Int) (TE : Nat → Nat → Nat) (HT : Nat → Nat → Int) (x : Nat) (n : Nat) (th tm : Nat → Int) (te : Nat → Nat) (ht : Nat → Int) (rr k : Nat) (zh : Nat) (har : ∀ q, q < 5 → 0 ≤ ar q ∧ ar q ≤ 3) (hsy : sy ≤ 5) (htc : tc ≤ 160) (htp : ∀ t, t < tc → okT sy ar (tn t) (TH t) (TM t) (TE t) (HT t) ∧ sz t = tn t ∧ ∀ q, q < tn t → co (16 * t + q) = TH t q) (hrc : rc ≤ 8) (hlr : ∀ r, r < rc → lf r < tc ∧ rg r < tc ∧ ∀ q, q < tn (rg r) → TH (rg r) q < 0 → ∃ k, k < tn (lf r) ∧ TH (lf r) k = TH (rg r) q) (hx160 : x < tc) (hot : okT sy ar n th tm te ht) (hzx : sz x = n) (hco : ∀ q, q < n → co (16 * x + q) = th q) (hrr : rr < rc) (hk : k < n) : Met l qy_M_matches qw_M_matches ({ frames := 3, cells := 0, slots := 0, locals := 71 }) (mwP (dC, dI) qcl (qty cI cZ cT cJ) nwL [(mB, .inl (cI, 4, .inl (zA bd)))] [(o, .inr (6, [.int (zI (↑sy)), .ref mA, .ref mR, .ref mW, .int (zI (↑tc)), .ref mC, .ref mS, .int (zI (↑rc)), .ref mL, .ref mT, .ref mH, .ref mY, .ref mE, .ref mG, .ref mB, .ref mO, .int (zI (tw))])), (mA, .inl (cI, 5, .inl (zA ar))), (mC, .inl (cI, 2608, .inl (zA co))), (mS, .inl (cI, 163, .inl (zA (eI sz)))), (mL, .inl (cI, 8, .inl (zA (eI lf))))] zh [.ref o, .int (zI (↑rr)), .int (zI (↑(16 * x))), .int (zI (↑k))]) (mwO (S := (Nat → Int)) (fun r uq => (r = true → ∃ q, MR (TH (lf rr)) th te k (tn (lf rr)) q uq) ∧ (r = false → ¬ MA (TH (lf rr)) (tn (lf rr)) th te k)) (fun uq tq => mwB (dC, dI) qcl (qty cI cZ cT cJ) (va_A [(mB, .inl (cI, 4, .inl (zA bd)))] zh) [(mB, .inl (cI, 4, .inl (zA uq)))] tq) (va_A [(mB, .inl (cI, 4, .inl (zA bd)))] zh)) 0 0 (va_A [(mB, .inl (cI, 4, .inl (zA bd)))] zh) := by
  refine Met.ofW (cc := qc_M_matches) (maxL := 9) (ret := (Option.some Jvm.ClassFile.FieldType.boolean)) (by decide) rfl ?_
  intro pg eg sg mg args below meth cg s₁ B hml hv
  obtain ⟨rfl, hsz, hP, hF0, hK, hN, hD0, hap⟩ := hv
  have hx := B.exec
  have hb := B.bytes
  have hr := B.returns
  have hts := atoms_spec (ws := qw_M_matches) B.pre
  have hg : ∀ w ∈ gw, w.before _ sg = true := fun w h => hts w (List.mem_cons_of_mem _ h)
  have hown : sg.vm.findClass "TermOrdersModel" = some mg.cls := findClass_of_methodNamed B.named
  have hlocks := B.notSynchronized
  have hl := lv_entry ([.ref o, .int (zI (↑rr)), .int (zI (↑(16 * x))), .int (zI (↑k))]) (n := 9) (Nat.le_of_ble_eq_true rfl)
  rw [lg_entry_eq]
  generalize (lg_sl ([.ref o, .int (zI (↑rr)), .int (zI (↑(16 * x))), .int (zI (↑k))]) ++ List.replicate (9 - (lg_sl ([.ref o, .int (zI (↑rr)), .int (zI (↑(16 * x))), .int (zI (↑k))])).length) Slot.unset).toArray = ls at hl ⊢
  subst hsz
  have hD := hD0.self (sz := sg.heap.size)
  have hFA := apw_A hap (fun k q hk => (hF0 k q hk).lt)
  generalize hAe : va_A [(mB, .inl (cI, 4, .inl (zA bd)))] sg.heap.size = A at hD hFA ⊢
  have hA : ∀ q : Nat, sg.heap.size ≤ q → A q := fun q h => by rw [← hAe]; exact Or.inr h
  have hS : va_S A sg.heap sg.heap [] := va_S.rf
  have hF := hF0
  have hl : lv_has ls 9 [(0, .ref o), (1, .int (zI (↑rr))), (2, .int (zI (↑(16 * x)))), (3, .int (zI (↑k)))] := hl
  have h16 := hot.2.1
  have hh := okT_hh hsy hot
  have we := hot.2.2.2.2.1
  have htm := hot.2.2.2.1
  obtain ⟨w1, w2, w3, w4⟩ := we k hk
  obtain ⟨hu1, hu2, hu3⟩ := hlr rr hrr
  obtain ⟨ho1, hz1, hc1⟩ := htp (lf rr) hu1
  have hl16 := ho1.2.1
  have hh1 := okT_hh hsy ho1
  have hrow := okT_row ho1
  have hlv := okT_v ho1
  have hlm : ∀ i j, i < tn (lf rr) → j < n → 0 ≤ TH (lf rr) i → TH (lf rr) i = th j → TM (lf rr) i = tm j := fun a b ha hb _ he => okT_mm ho1 hot a b ha hb he
  refine lv_bipush (v := zI 16) hx hb qd_M_matches_0 (by decide) ?_
  refine lv_aload_n hx hb qd_M_matches_2 rfl (lv_at hl 0 rfl) ?_
  refine va_get (D := (dC, dI)) (ci := 6) (v := .ref mL) (C := "TermOrdersModel") (T := qT_M) (N := 17) hx hb hg qi_M hown hK hF 0 rfl rfl 8 (by decide) (hg _ wd_626) (fun _ h9 => h9) rfl qd_M_matches_3 ?_
  refine lv_iload_n hx hb qd_M_matches_6 rfl (lv_at hl 1 rfl) ?_
  refine zz_eald hx hb hK hF 4 0 rfl rfl rr rfl (by omega) (by omega) qd_M_matches_7 ?_
  refine zz_imul hx hb (↑(16 * lf rr)) (by omega) qd_M_matches_8 ?_
  refine lv_istore (lv' := [(4, .int (zI (↑(16 * lf rr)))), (0, .ref o), (1, .int (zI (↑rr))), (2, .int (zI (↑(16 * x)))), (3, .int (zI (↑k)))]) hx hb qd_M_matches_9 hl (by decide) rfl (fun ls hl => ?_)
  refine lv_iload_n hx hb qd_M_matches_11 rfl (lv_at hl 4 rfl) ?_
  refine lv_istore (lv' := [(5, .int (zI (↑k))), (4, .int (zI (↑(16 * lf rr)))), (0, .ref o), (1, .int (zI (↑rr))), (2, .int (zI (↑(16 * x)))), (3, .int (zI (↑k)))]) hx hb qd_M_matches_12 hl (by decide) rfl (fun ls hl => ?_)
  refine lv_iconst (v := zI 0) hx hb qd_M_matches_14 rfl ?_
  refine lv_istore (lv' := [(6, .int (zI (0))), (5, .int (zI (↑k))), (4, .int (zI (↑(16 * lf rr)))), (0, .ref o), (1, .int (zI (↑rr))), (2, .int (zI (↑(16 * x)))), (3, .int (zI (↑k)))]) hx hb qd_M_matches_15 hl (by decide) rfl (fun ls hl => ?_)
  have L17 : ∀ (mu17 : Nat) (v : Nat) (bz : Nat → Int), (v ≤ 4) → (∀ j, j < v → bz j = -1) → 4 - v = mu17 → ∀ (H17_1 : Heap) (L17_1 : List Loc), va_P (dC, dI) qcl [(mB, .inl (cI, 4, .inl (zA bz)))] H17_1 → va_D A [(mB, .inl (cI, 4, .inl (zA bz)))] → va_S A sg.heap H17_1 L17_1 → ∀ ls : Array Slot, lv_has ls 9 [(6, .int (zI (↑v))), (5, .int (zI (↑k))), (4, .int (zI (↑(16 * lf rr)))), (0, .ref o), (1, .int (zI (↑rr))), (2, .int (zI (↑(16 * x)))), (3, .int (zI (↑k)))] → W pg l eg (headSpec qw_M_matches ({ frames := 3, cells := 0, slots := 0, locals := 71 })).room sg mg ([.ref o, .int (zI (↑rr)), .int (zI (↑(16 * x))), .int (zI (↑k))] : List Value).toArray below meth cg H17_1 L17_1 0 0 (MQ below (mwO (S := (Nat → Int)) (fun r uq => (r = true → ∃ q, MR (TH (lf rr)) th te k (tn (lf rr)) q uq) ∧ (r = false → ¬ MA (TH (lf rr)) (tn (lf rr)) th te k)) (fun uq tq => mwB (dC, dI) qcl (qty cI cZ cT cJ) A [(mB, .inl (cI, 4, .inl (zA uq)))] tq) A) ([.ref o, .int (zI (↑rr)), .int (zI (↑(16 * x))), .int (zI (↑k))] : List Value).toArray sg 0 0 A) (F0 mg 17 ls []) := by
    intro mu17
    induction mu17 using Nat.strongRecOn with
    | _ mu17 ih17 =>
      intro v bz hv4 hz hmu17 H17_1 L17_1 hP hD hS ls hl
      have hF := fz_keep hF0 hFA hS
      refine lv_iload hx hb qd_M_matches_17 (lv_at hl 0 rfl) ?_
      refine lv_iconst (v := zI 4) hx hb qd_M_matches_19 rfl ?_
      refine zz_icmp_ge (tgt := 37) hx hb qd_M_matches_20 (by decide) (by omega) (by omega) (fun h20 => ?_) (fun h20 => ?_)
      · skip
        refine lv_iconst (v := zI 0) hx hb qd_M_matches_37 rfl ?_
        refine lv_istore (lv' := [(6, .int (zI (0))), (5, .int (zI (↑k))), (4, .int (zI (↑(16 * lf rr)))), (0, .ref o), (1, .int (zI (↑rr))), (2, .int (zI (↑(16 * x)))), (3, .int (zI (↑k)))]) hx hb qd_M_matches_38 hl (by decide) rfl (fun ls hl => ?_)
        have L40 : ∀ (mu40 : Nat) (i : Nat) (q : Nat) (by_ : Nat → Int), (i ≤ tn (lf rr)) → (MR (TH (lf rr)) th te k i q by_) → tn (lf rr) - i = mu40 → ∀ (H40_2 : Heap) (L40_2 : List Loc), va_P (dC, dI) qcl [(mB, .inl (cI, 4, .inl (zA by_)))] H40_2 → va_D A [(mB, .inl (cI, 4, .inl (zA by_)))] → va_S A sg.heap H40_2 L40_2 → ∀ ls : Array Slot, lv_has ls 9 [(6, .int (zI (↑i))), (5, .int (zI (↑q))), (4, .int (zI (↑(16 * lf rr)))), (0, .ref o), (1, .int (zI (↑rr))), (2, .int (zI (↑(16 * x)))), (3, .int (zI (↑k)))] → W pg l eg (headSpec qw_M_matches ({ frames := 3, cells := 0, slots := 0, locals := 71 })).room sg mg ([.ref o, .int (zI (↑rr)), .int (zI (↑(16 * x))), .int (zI (↑k))] : List Value).toArray below meth cg H40_2 L40_2 0 0 (MQ below (mwO (S := (Nat → Int)) (fun r uq => (r = true → ∃ q, MR (TH (lf rr)) th te k (tn (lf rr)) q uq) ∧ (r = false → ¬ MA (TH (lf rr)) (tn (lf rr)) th te k)) (fun uq tq => mwB (dC, dI) qcl (qty cI cZ cT cJ) A [(mB, .inl (cI, 4, .inl (zA uq)))] tq) A) ([.ref o, .int (zI (↑rr)), .int (zI (↑(16 * x))), .int (zI (↑k))] : List Value).toArray sg 0 0 A) (F0 mg 40 ls []) := by
          intro mu40
          induction mu40 using Nat.strongRecOn with
          | _ mu40 ih40 =>
            intro i q by_ hi8 hM hmu40 H40_2 L40_2 hP hD hS ls hl
            have hF := fz_keep hF0 hFA hS
            obtain ⟨m1, m2, m3, m4⟩ := MR_in (el := te) hrow we hk hlm hlv hi8 hM
            refine lv_iload hx hb qd_M_matches_40 (lv_at hl 0 rfl) ?_
            refine lv_aload_n hx hb qd_M_matches_42 rfl (lv_at hl 3 rfl) ?_
            refine va_get (D := (dC, dI)) (ci := 6) (v := .ref mS) (C := "TermOrdersModel") (T := qT_M) (N := 17) hx hb hg qi_M hown hK hF 0 rfl rfl 6 (by decide) (hg _ wd_624) (fun _ h9 => h9) rfl qd_M_matches_43 ?_
            refine lv_aload_n hx hb qd_M_matches_46 rfl (lv_at hl 3 rfl) ?_
            refine va_get (D := (dC, dI)) (ci := 6) (v := .ref mL) (C := "TermOrdersModel") (T := qT_M) (N := 17) hx hb hg qi_M hown hK hF 0 rfl rfl 8 (by decide) (hg _ wd_626) (fun _ h9 => h9) rfl qd_M_matches_47 ?_
            refine lv_iload_n hx hb qd_M_matches_50 rfl (lv_at hl 4 rfl) ?_
            refine zz_eald hx hb hK hF 4 0 rfl rfl rr rfl (by omega) (by omega) qd_M_matches_51 ?_
            refine zz_eald hx hb hK hF 3 0 rfl rfl (lf rr) rfl (by omega) (by omega) qd_M_matches_52 ?_
            refine zz_top (b := ↑(tn (lf rr))) (by rw [hz1]) ?_
            refine zz_icmp_ge (tgt := 187) hx hb qd_M_matches_53 (by decide) (by omega) (by omega) (fun h53 => ?_) (fun h53 => ?_)
            · skip
              refine lv_iconst (v := zI 1) hx hb qd_M_matches_187 rfl ?_
              exact W.zret (v := zI (bI true)) (ty := .boolean) hx hb hr (bI_n _) (fun t9 ht9 hW9 => ⟨⟨true, by_, rfl, ⟨fun _ => ⟨q, by rw [show tn (lf rr) = i by omega]; exact hM⟩, fun z => Bool.noConfusion z⟩, mwB_i (by rw [ht9]; exact hP) (va_K.moved hW9.alike hK) hD⟩, hS.F ht9⟩) hS.2.2 qd_M_matches_188
            · skip
              obtain ⟨g1, g2, g3⟩ := MR_lt hrow we hk hlm hlv (by omega) hM
              have hqh := hh q g3
              have hih := hh1 i (by omega)
              have hqw := we q g3
              have hcq := hco q g3
              have hci := hc1 i (by omega)
              refine lv_aload_n hx hb qd_M_matches_56 rfl (lv_at hl 3 rfl) ?_
              refine va_get (D := (dC, dI)) (ci := 6) (v := .ref mC) (C := "TermOrdersModel") (T := qT_M) (N := 17) hx hb hg qi_M hown hK hF 0 rfl rfl 5 (by decide) (hg _ wd_623) (fun _ h9 => h9) rfl qd_M_matches_57 ?_
              refine lv_iload hx hb qd_M_matches_60 (lv_at hl 2 rfl) ?_
              refine lv_iload hx hb qd_M_matches_62 (lv_at hl 0 rfl) ?_
              refine zz_iadd hx hb ((↑(16 * lf rr)) + (↑i)) rfl qd_M_matches_64 ?_
              refine zz_iald hx hb hK hF 2 0 rfl rfl (16 * lf rr + i) (by omega) (by omega) (by omega) qd_M_matches_65 ?_
              refine zz_top (b := TH (lf rr) i) hci ?_
              refine lv_istore (lv' := [(7, .int (zI (TH (lf rr) i))), (6, .int (zI (↑i))), (5, .int (zI (↑q))), (4, .int (zI (↑(16 * lf rr)))), (0, .ref o), (1, .int (zI (↑rr))), (2, .int (zI (↑(16 * x)))), (3, .int (zI (↑k)))]) hx hb qd_M_matches_66 hl (by decide) rfl (fun ls hl => ?_)
              refine lv_iload hx hb qd_M_matches_68 (lv_at hl 0 rfl) ?_
              refine zz_if_lt (tgt := 89) hx hb qd_M_matches_70 (by decide) (by omega) (fun h70 => ?_) (fun h70 => ?_)
              · skip
                have hm9 := m4 ((-1) - TH (lf rr) i).toNat
                have hbb : -1 ≤ by_ ((-1) - TH (lf rr) i).toNat ∧ by_ ((-1) - TH (lf rr) i).toNat < n := hm9.elim (fun z => by omega) (fun ⟨r, z1, z2, z3⟩ => by omega)
                refine lv_iload hx hb qd_M_matches_89 (lv_at hl 0 rfl) ?_
                refine zz_if_lt (tgt := 101) hx hb qd_M_matches_91 (by decide) (by omega) (fun h91 => ?_) (fun h91 => ?_)
                · skip
                  refine lv_aload_n hx hb qd_M_matches_101 rfl (lv_at hl 4 rfl) ?_
                  refine lv_iload_n hx hb qd_M_matches_102 rfl (lv_at hl 6 rfl) ?_
                  refine lv_iload hx hb qd_M_matches_103 (lv_at hl 2 rfl) ?_
                  refine rd_callI (W.runV (As := [.int (zI (↑(16 * x))), .int (zI (↑q))]) (rest := []) ⟨hx, hb, hml, hown, hg⟩ (c_M_end l dC dI cI cZ cT cJ o mA mR mW mC mS mL mT mH mY mE mG mB mO sy tc rc tw ar rk wt co sz lf rg hi hv ef gr bd ol (16 * x) n th tm te q har h16 (by omega) hco htm hh we g3) ⟨callB_of 2 hg (gw_ok (fun _ h => h) wd_713) rfl rfl rfl (hg _ wd_6) (hg _ wd_710) (by decide +kernel) ⟨Nat.le_of_ble_eq_true rfl, Nat.le_of_ble_eq_true rfl⟩, hg _ wd_712, hg _ se_M_end⟩ (rd_preV (va_recv (q0 := 0) hK hF rfl rfl) (pw_c (q := (o, .inr (6, [.int (zI (↑sy)), .ref mA, .ref mR, .ref mW, .int (zI (↑tc)), .ref mC, .ref mS, .int (zI (↑rc)), .ref mL, .ref mT, .ref mH, .ref mY, .ref mE, .ref mG, .ref mB, .ref mO, .int (zI (tw))]))) hF 0 rfl (pw_c (q := (mA, .inl (cI, 5, .inl (zA ar)))) hF 1 rfl (pw_c (q := (mC, .inl (cI, 2608, .inl (zA co)))) hF 2 rfl (pw_nil)))) hK hN) rfl rfl hl.1 rfl (lv_room (Nat.le_of_ble_eq_true rfl)) qd_M_matches_105 ⟨Nat.le_of_ble_eq_true rfl, Nat.le_of_ble_eq_true rfl⟩) (fun r105 hr105 => ?_)
                  have e105 : r105 = ↑(te q) := hr105
                  subst e105
                  refine lv_istore (lv' := [(8, .int (zI (↑(te q)))), (7, .int (zI (TH (lf rr) i))), (6, .int (zI (↑i))), (5, .int (zI (↑q))), (4, .int (zI (↑(16 * lf rr)))), (0, .ref o), (1, .int (zI (↑rr))), (2, .int (zI (↑(16 * x)))), (3, .int (zI (↑k)))]) hx hb qd_M_matches_108 hl (by decide) rfl (fun ls hl => ?_)
                  refine lv_iload hx hb qd_M_matches_110 (lv_at hl 1 rfl) ?_
                  refine zz_if_ge (tgt := 149) hx hb qd_M_matches_112 (by decide) (by omega) (fun h112 => ?_) (fun h112 => ?_)
                  · skip
                    exfalso
                    omega
                  · skip
                    refine lv_aload_n hx hb qd_M_matches_115 rfl (lv_at hl 5 rfl) ?_
                    refine va_get (D := (dC, dI)) (ci := 6) (v := .ref mB) (C := "TermOrdersModel") (T := qT_M) (N := 17) hx hb hg qi_M hown hK hF 0 rfl rfl 14 (by decide) (hg _ wd_632) (fun _ h9 => h9) rfl qd_M_matches_116 ?_
                    refine lv_iconst (v := zI (-1)) hx hb qd_M_matches_119 rfl ?_
                    refine lv_iload hx hb qd_M_matches_120 (lv_at hl 1 rfl) ?_
                    refine zz_isub hx hb (↑((-1) - TH (lf rr) i).toNat) (by omega) qd_M_matches_122 ?_
                    refine zz_iald hx hb hK hP 0 0 rfl rfl (((-1) - TH (lf rr) i).toNat) rfl (by omega) (by omega) qd_M_matches_123 ?_
                    refine zz_if_lt (tgt := 149) hx hb qd_M_matches_124 (by decide) (by clear hm9 m4; omega) (fun h124 => ?_) (fun h124 => ?_)
                    · skip
                      have hM2 : MR (TH (lf rr)) th te k (i + 1) (te q) (uz by_ ((-1) - TH (lf rr) i).toNat ↑q) := ⟨q, by_, hM, Or.inr (Or.inl ⟨by omega, h124, rfl, rfl⟩)⟩
                      refine lv_iload hx hb qd_M_matches_149 (lv_at hl 1 rfl) ?_
                      refine zz_if_ge (tgt := 177) hx hb qd_M_matches_151 (by decide) (by omega) (fun h151 => ?_) (fun h151 => ?_)
                      · skip
                        exfalso
                        omega
                      · skip
                        refine lv_aload_n hx hb qd_M_matches_154 rfl (lv_at hl 5 rfl) ?_
                        refine va_get (D := (dC, dI)) (ci := 6) (v := .ref mB) (C := "TermOrdersModel") (T := qT_M) (N := 17) hx hb hg qi_M hown hK hF 0 rfl rfl 14 (by decide) (hg _ wd_632) (fun _ h9 => h9) rfl qd_M_matches_155 ?_
                        refine lv_iconst (v := zI (-1)) hx hb qd_M_matches_158 rfl ?_
                        refine lv_iload hx hb qd_M_matches_159 (lv_at hl 1 rfl) ?_
                        refine zz_isub hx hb (↑((-1) - TH (lf rr) i).toNat) (by omega) qd_M_matches_161 ?_
                        refine zz_iald hx hb hK hP 0 0 rfl rfl (((-1) - TH (lf rr) i).toNat) rfl (by omega) (by omega) qd_M_matches_162 ?_
                        refine zz_if_ge (tgt := 177) hx hb qd_M_matches_163 (by decide) (by clear hm9 m4; omega) (fun h163 => ?_) (fun h163 => ?_)
                        · skip
                          exfalso
                          omega
                        · skip
                          refine lv_aload_n hx hb qd_M_matches_166 rfl (lv_at hl 5 rfl) ?_
                          refine va_get (D := (dC, dI)) (ci := 6) (v := .ref mB) (C := "TermOrdersModel") (T := qT_M) (N := 17) hx hb hg qi_M hown hK hF 0 rfl rfl 14 (by decide) (hg _ wd_632) (fun _ h9 => h9) rfl qd_M_matches_167 ?_
                          refine lv_iconst (v := zI (-1)) hx hb qd_M_matches_170 rfl ?_
                          refine lv_iload hx hb qd_M_matches_171 (lv_at hl 1 rfl) ?_
                          refine zz_isub hx hb (↑((-1) - TH (lf rr) i).toNat) (by omega) qd_M_matches_173 ?_
                          refine lv_iload hx hb qd_M_matches_174 (lv_at hl 3 rfl) ?_
                          refine zz_iast hx hb hK hP hD hS 0 0 rfl rfl (((-1) - TH (lf rr) i).toNat) rfl (by omega) (by omega) qd_M_matches_176 (fun H176_3 L176_3 hP hD hS => ?_)
                          have hP : va_P (dC, dI) qcl [(mB, .inl (cI, 4, .inl (zA (uz by_ (((-1) - TH (lf rr) i).toNat) (↑q)))))] H176_3 := hP
                          have hD : va_D A [(mB, .inl (cI, 4, .inl (zA (uz by_ (((-1) - TH (lf rr) i).toNat) (↑q)))))] := hD
                          have hF := fz_keep hF0 hFA hS
                          refine lv_iload hx hb qd_M_matches_177 (lv_at hl 0 rfl) ?_
                          refine lv_istore (lv' := [(5, .int (zI (↑(te q)))), (8, .int (zI (↑(te q)))), (7, .int (zI (TH (lf rr) i))), (6, .int (zI (↑i))), (4, .int (zI (↑(16 * lf rr)))), (0, .ref o), (1, .int (zI (↑rr))), (2, .int (zI (↑(16 * x)))), (3, .int (zI (↑k)))]) hx hb qd_M_matches_179 hl (by decide) rfl (fun ls hl => ?_)
                          refine lv_iinc (k := 3) (lv' := [(6, .int (zI (↑(i + 1)))), (5, .int (zI (↑(te q)))), (8, .int (zI (↑(te q)))), (7, .int (zI (TH (lf rr) i))), (4, .int (zI (↑(16 * lf rr)))), (0, .ref o), (1, .int (zI (↑rr))), (2, .int (zI (↑(16 * x)))), (3, .int (zI (↑k)))]) hx hb qd_M_matches_181 hl rfl (zI_inc (v := ↑(i + 1)) (by omega)) (by decide) rfl (fun ls hl => ?_)
                          refine lv_goto (tgt := 40) hx hb qd_M_matches_184 (by decide) ?_
                          have hl := lv_sub (l' := [(6, .int (zI (↑(i + 1)))), (5, .int (zI (↑(te q)))), (4, .int (zI (↑(16 * lf rr)))), (0, .ref o), (1, .int (zI (↑rr))), (2, .int (zI (↑(16 * x)))), (3, .int (zI (↑k)))]) hl [0, 1, 4, 5, 6, 7, 8] rfl
                          exact ih40 _ (by (try clear hm9); clear m4; omega) (i + 1) (te q) (uz by_ (((-1) - TH (lf rr) i).toNat) (↑q)) (by (try clear hm9); clear m4; omega) hM2 rfl H176_3 L176_3 hP hD hS ls hl
                    · skip
                      refine lv_aload_n hx hb qd_M_matches_127 rfl (lv_at hl 5 rfl) ?_
                      refine lv_iload_n hx hb qd_M_matches_128 rfl (lv_at hl 7 rfl) ?_
                      refine lv_aload_n hx hb qd_M_matches_129 rfl (lv_at hl 5 rfl) ?_
                      refine va_get (D := (dC, dI)) (ci := 6) (v := .ref mB) (C := "TermOrdersModel") (T := qT_M) (N := 17) hx hb hg qi_M hown hK hF 0 rfl rfl 14 (by decide) (hg _ wd_632) (fun _ h9 => h9) rfl qd_M_matches_130 ?_
                      refine lv_iconst (v := zI (-1)) hx hb qd_M_matches_133 rfl ?_
                      refine lv_iload hx hb qd_M_matches_134 (lv_at hl 1 rfl) ?_
                      refine zz_isub hx hb (↑((-1) - TH (lf rr) i).toNat) (by omega) qd_M_matches_136 ?_
                      refine zz_iald hx hb hK hP 0 0 rfl rfl (((-1) - TH (lf rr) i).toNat) rfl (by omega) (by omega) qd_M_matches_137 ?_
                      refine zz_top (b := ↑(by_ ((-1) - TH (lf rr) i).toNat).toNat) (by clear hm9 m4; omega) ?_
                      refine lv_iload_n hx hb qd_M_matches_138 rfl (lv_at hl 7 rfl) ?_
                      refine lv_iload hx hb qd_M_matches_139 (lv_at hl 3 rfl) ?_
                      refine rd_callB (W.runV (As := [.int (zI (↑(16 * x))), .int (zI (↑((by_ ((-1) - TH (lf rr) i).toNat).toNat))), .int (zI (↑(16 * x))), .int (zI (↑q))]) (rest := []) ⟨hx, hb, hml, hown, hg⟩ (c_M_alike l dC dI cI cZ cT cJ o mA mR mW mC mS mL mT mH mY mE mG mB mO sy tc rc tw ar rk wt co sz lf rg hi hv ef gr bd ol (16 * x) n th tm te (16 * x) n th tm te ((by_ ((-1) - TH (lf rr) i).toNat).toNat) q har h16 (by omega) hco htm hh we h16 (by omega) hco htm hh we (by clear hm9 m4; omega) g3) ⟨callB_of 4 hg (gw_ok (fun _ h => h) wd_749) rfl rfl rfl (hg _ wd_6) (hg _ wd_746) (by decide +kernel) ⟨Nat.le_of_ble_eq_true rfl, Nat.le_of_ble_eq_true rfl⟩, hg _ wd_748, hg _ se_M_alike⟩ (rd_preV (va_recv (q0 := 0) hK hF rfl rfl) (pw_c (q := (o, .inr (6, [.int (zI (↑sy)), .ref mA, .ref mR, .ref mW, .int (zI (↑tc)), .ref mC, .ref mS, .int (zI (↑rc)), .ref mL, .ref mT, .ref mH, .ref mY, .ref mE, .ref mG, .ref mB, .ref mO, .int (zI (tw))]))) hF 0 rfl (pw_c (q := (mA, .inl (cI, 5, .inl (zA ar)))) hF 1 rfl (pw_c (q := (mC, .inl (cI, 2608, .inl (zA co)))) hF 2 rfl (pw_nil)))) hK hN) rfl rfl hl.1 rfl (lv_room (Nat.le_of_ble_eq_true rfl)) qd_M_matches_141 ⟨Nat.le_of_ble_eq_true rfl, Nat.le_of_ble_eq_true rfl⟩) (fun r141 hr141 => ?_)
                      refine zz_ifneB (tgt := 149) hx hb qd_M_matches_144 (by decide) (fun h144 => ?_) (fun h144 => ?_)
                      · skip
                        have hM2 : MR (TH (lf rr)) th te k (i + 1) (te q) by_ := ⟨q, by_, hM, Or.inr (Or.inr ⟨by omega, by omega, hr141.mp h144, rfl, rfl⟩)⟩
                        refine lv_iload hx hb qd_M_matches_149 (lv_at hl 1 rfl) ?_
                        refine zz_if_ge (tgt := 177) hx hb qd_M_matches_151 (by decide) (by omega) (fun h151 => ?_) (fun h151 => ?_)
                        · skip
                          exfalso
                          omega
                        · skip
                          refine lv_aload_n hx hb qd_M_matches_154 rfl (lv_at hl 5 rfl) ?_
                          refine va_get (D := (dC, dI)) (ci := 6) (v := .ref mB) (C := "TermOrdersModel") (T := qT_M) (N := 17) hx hb hg qi_M hown hK hF 0 rfl rfl 14 (by decide) (hg _ wd_632) (fun _ h9 => h9) rfl qd_M_matches_155 ?_
                          refine lv_iconst (v := zI (-1)) hx hb qd_M_matches_158 rfl ?_
                          refine lv_iload hx hb qd_M_matches_159 (lv_at hl 1 rfl) ?_
                          refine zz_isub hx hb (↑((-1) - TH (lf rr) i).toNat) (by omega) qd_M_matches_161 ?_
                          refine zz_iald hx hb hK hP 0 0 rfl rfl (((-1) - TH (lf rr) i).toNat) rfl (by omega) (by omega) qd_M_matches_162 ?_
                          refine zz_if_ge (tgt := 177) hx hb qd_M_matches_163 (by decide) (by clear hm9 m4; omega) (fun h163 => ?_) (fun h163 => ?_)
                          · skip
                            refine lv_iload hx hb qd_M_matches_177 (lv_at hl 0 rfl) ?_
                            refine lv_istore (lv' := [(5, .int (zI (↑(te q)))), (8, .int (zI (↑(te q)))), (7, .int (zI (TH (lf rr) i))), (6, .int (zI (↑i))), (4, .int (zI (↑(16 * lf rr)))), (0, .ref o), (1, .int (zI (↑rr))), (2, .int (zI (↑(16 * x)))), (3, .int (zI (↑k)))]) hx hb qd_M_matches_179 hl (by decide) rfl (fun ls hl => ?_)
                            refine lv_iinc (k := 3) (lv' := [(6, .int (zI (↑(i + 1)))), (5, .int (zI (↑(te q)))), (8, .int (zI (↑(te q)))), (7, .int (zI (TH (lf rr) i))), (4, .int (zI (↑(16 * lf rr)))), (0, .ref o), (1, .int (zI (↑rr))), (2, .int (zI (↑(16 * x)))), (3, .int (zI (↑k)))]) hx hb qd_M_matches_181 hl rfl (zI_inc (v := ↑(i + 1)) (by omega)) (by decide) rfl (fun ls hl => ?_)
                            refine lv_goto (tgt := 40) hx hb qd_M_matches_184 (by decide) ?_
                            have hl := lv_sub (l' := [(6, .int (zI (↑(i + 1)))), (5, .int (zI (↑(te q)))), (4, .int (zI (↑(16 * lf rr)))), (0, .ref o), (1, .int (zI (↑rr))), (2, .int (zI (↑(16 * x)))), (3, .int (zI (↑k)))]) hl [0, 1, 4, 5, 6, 7, 8] rfl
                            exact ih40 _ (by (try clear hm9); clear m4; omega) (i + 1) (te q) by_ (by (try clear hm9); clear m4; omega) hM2 rfl H40_2 L40_2 hP hD hS ls hl
                          · skip
                            exfalso
                            omega
                      · skip
                        have hno : ¬ MA (TH (lf rr)) (tn (lf rr)) th te k := MA_not (by omega) hM (fun q9 b9 z => (show False from z.elim (fun y => absurd y.1 (by omega)) (fun z => z.elim (fun y => absurd y.2.1 (by omega)) (fun y => by rw [hr141.mpr y.2.2.1] at h144; exact Bool.noConfusion h144))))
                        refine lv_iconst (v := zI 0) hx hb qd_M_matches_147 rfl ?_
                        exact W.zret (v := zI (bI false)) (ty := .boolean) hx hb hr (bI_n _) (fun t9 ht9 hW9 => ⟨⟨false, by_, rfl, ⟨fun z => Bool.noConfusion z, fun _ => hno⟩, mwB_i (by rw [ht9]; exact hP) (va_K.moved hW9.alike hK) hD⟩, hS.F ht9⟩) hS.2.2 qd_M_matches_148
                · skip
                  exfalso
                  omega
              · skip
                refine lv_aload_n hx hb qd_M_matches_73 rfl (lv_at hl 4 rfl) ?_
                refine va_get (D := (dC, dI)) (ci := 6) (v := .ref mC) (C := "TermOrdersModel") (T := qT_M) (N := 17) hx hb hg qi_M hown hK hF 0 rfl rfl 5 (by decide) (hg _ wd_623) (fun _ h9 => h9) rfl qd_M_matches_74 ?_
                refine lv_iload_n hx hb qd_M_matches_77 rfl (lv_at hl 6 rfl) ?_
                refine lv_iload hx hb qd_M_matches_78 (lv_at hl 2 rfl) ?_
                refine zz_iadd hx hb ((↑(16 * x)) + (↑q)) rfl qd_M_matches_80 ?_
                refine zz_iald hx hb hK hF 2 0 rfl rfl (16 * x + q) (by omega) (by omega) (by omega) qd_M_matches_81 ?_
                refine zz_top (b := th q) hcq ?_
                refine lv_iload hx hb qd_M_matches_82 (lv_at hl 0 rfl) ?_
                refine zz_icmp_eq (tgt := 89) hx hb qd_M_matches_84 (by decide) (by omega) (by omega) (fun h84 => ?_) (fun h84 => ?_)
                · skip
                  have hM2 : MR (TH (lf rr)) th te k (i + 1) (q + 1) by_ := ⟨q, by_, hM, Or.inl ⟨by omega, h84.symm, rfl, rfl⟩⟩
                  refine lv_iload hx hb qd_M_matches_89 (lv_at hl 0 rfl) ?_
                  refine zz_if_lt (tgt := 101) hx hb qd_M_matches_91 (by decide) (by omega) (fun h91 => ?_) (fun h91 => ?_)
                  · skip
                    exfalso
                    omega
                  · skip
                    refine lv_iload hx hb qd_M_matches_94 (lv_at hl 2 rfl) ?_
                    refine lv_iconst (v := zI 1) hx hb qd_M_matches_96 rfl ?_
                    refine zz_iadd hx hb (↑(q + 1)) (by omega) qd_M_matches_97 ?_
                    refine lv_goto (tgt := 108) hx hb qd_M_matches_98 (by decide) ?_
                    refine lv_istore (lv' := [(8, .int (zI (↑(q + 1)))), (7, .int (zI (TH (lf rr) i))), (6, .int (zI (↑i))), (5, .int (zI (↑q))), (4, .int (zI (↑(16 * lf rr)))), (0, .ref o), (1, .int (zI (↑rr))), (2, .int (zI (↑(16 * x)))), (3, .int (zI (↑k)))]) hx hb qd_M_matches_108 hl (by decide) rfl (fun ls hl => ?_)
                    refine lv_iload hx hb qd_M_matches_110 (lv_at hl 1 rfl) ?_
                    refine zz_if_ge (tgt := 149) hx hb qd_M_matches_112 (by decide) (by omega) (fun h112 => ?_) (fun h112 => ?_)
                    · skip
                      refine lv_iload hx hb qd_M_matches_149 (lv_at hl 1 rfl) ?_
                      refine zz_if_ge (tgt := 177) hx hb qd_M_matches_151 (by decide) (by omega) (fun h151 => ?_) (fun h151 => ?_)
                      · skip
                        refine lv_iload hx hb qd_M_matches_177 (lv_at hl 0 rfl) ?_
                        refine lv_istore (lv' := [(5, .int (zI (↑(q + 1)))), (8, .int (zI (↑(q + 1)))), (7, .int (zI (TH (lf rr) i))), (6, .int (zI (↑i))), (4, .int (zI (↑(16 * lf rr)))), (0, .ref o), (1, .int (zI (↑rr))), (2, .int (zI (↑(16 * x)))), (3, .int (zI (↑k)))]) hx hb qd_M_matches_179 hl (by decide) rfl (fun ls hl => ?_)
                        refine lv_iinc (k := 3) (lv' := [(6, .int (zI (↑(i + 1)))), (5, .int (zI (↑(q + 1)))), (8, .int (zI (↑(q + 1)))), (7, .int (zI (TH (lf rr) i))), (4, .int (zI (↑(16 * lf rr)))), (0, .ref o), (1, .int (zI (↑rr))), (2, .int (zI (↑(16 * x)))), (3, .int (zI (↑k)))]) hx hb qd_M_matches_181 hl rfl (zI_inc (v := ↑(i + 1)) (by omega)) (by decide) rfl (fun ls hl => ?_)
                        refine lv_goto (tgt := 40) hx hb qd_M_matches_184 (by decide) ?_
                        have hl := lv_sub (l' := [(6, .int (zI (↑(i + 1)))), (5, .int (zI (↑(q + 1)))), (4, .int (zI (↑(16 * lf rr)))), (0, .ref o), (1, .int (zI (↑rr))), (2, .int (zI (↑(16 * x)))), (3, .int (zI (↑k)))]) hl [0, 1, 4, 5, 6, 7, 8] rfl
                        exact ih40 _ (by (try clear hm9); clear m4; omega) (i + 1) (q + 1) by_ (by (try clear hm9); clear m4; omega) hM2 rfl H40_2 L40_2 hP hD hS ls hl
                      · skip
                        exfalso
                        omega
                    · skip
                      exfalso
                      omega
                · skip
                  have hno : ¬ MA (TH (lf rr)) (tn (lf rr)) th te k := MA_not (by omega) hM (fun q9 b9 z => z.elim (fun y => h84 y.2.1.symm) (fun z => z.elim (fun y => absurd y.1 (by omega)) (fun y => absurd y.1 (by omega))))
                  refine lv_iconst (v := zI 0) hx hb qd_M_matches_87 rfl ?_
                  exact W.zret (v := zI (bI false)) (ty := .boolean) hx hb hr (bI_n _) (fun t9 ht9 hW9 => ⟨⟨false, by_, rfl, ⟨fun z => Bool.noConfusion z, fun _ => hno⟩, mwB_i (by rw [ht9]; exact hP) (va_K.moved hW9.alike hK) hD⟩, hS.F ht9⟩) hS.2.2 qd_M_matches_88
        have hP : va_P (dC, dI) qcl [(mB, .inl (cI, 4, .inl (zA ((fun _ => -1)))))] H17_1 := pw_ext (q0 := 0) (g := zA ((fun _ => -1))) hP rfl (fun j hj => by show zI (bz j) = zI (-1); rw [hz j (by omega)])
        have hD : va_D A [(mB, .inl (cI, 4, .inl (zA ((fun _ => -1)))))] := dw_ext (q0 := 0) hD rfl
        exact L40 _ 0 k (fun _ => -1) (by omega) (⟨rfl, rfl⟩) rfl H17_1 L17_1 hP hD hS ls hl
      · skip
        refine lv_aload_n hx hb qd_M_matches_23 rfl (lv_at hl 3 rfl) ?_
        refine va_get (D := (dC, dI)) (ci := 6) (v := .ref mB) (C := "TermOrdersModel") (T := qT_M) (N := 17) hx hb hg qi_M hown hK hF 0 rfl rfl 14 (by decide) (hg _ wd_632) (fun _ h9 => h9) rfl qd_M_matches_24 ?_
        refine lv_iload hx hb qd_M_matches_27 (lv_at hl 0 rfl) ?_
        refine lv_iconst (v := zI (-1)) hx hb qd_M_matches_29 rfl ?_
        refine zz_iast hx hb hK hP hD hS 0 0 rfl rfl v rfl (by omega) (by omega) qd_M_matches_30 (fun H30_4 L30_4 hP hD hS => ?_)
        have hP : va_P (dC, dI) qcl [(mB, .inl (cI, 4, .inl (zA (uz bz v ((-1))))))] H30_4 := hP
        have hD : va_D A [(mB, .inl (cI, 4, .inl (zA (uz bz v ((-1))))))] := hD
        have hF := fz_keep hF0 hFA hS
        refine lv_iinc (k := 0) (lv' := [(6, .int (zI (↑(v + 1)))), (5, .int (zI (↑k))), (4, .int (zI (↑(16 * lf rr)))), (0, .ref o), (1, .int (zI (↑rr))), (2, .int (zI (↑(16 * x)))), (3, .int (zI (↑k)))]) hx hb qd_M_matches_31 hl rfl (zI_inc (v := ↑(v + 1)) (by omega)) (by decide) rfl (fun ls hl => ?_)
        refine lv_goto (tgt := 17) hx hb qd_M_matches_34 (by decide) ?_
        exact ih17 _ (by omega) (v + 1) (uz bz v (-1)) (by omega) (fun j hj => if h8 : j = v then (by rw [h8, uz_s]) else (by rw [uz_n _ _ h8]; exact hz j (by omega))) rfl H30_4 L30_4 hP hD hS ls hl
  exact L17 _ 0 bd (by omega) (fun j hj => by omega) rfl sg.heap [] hP hD hS ls hl
set_option maxHeartbeats 4000000 in
set_option maxRecDepth 100000 in
theorem c_M_ruleAt (l : Launch) (dC : Nat → ClassId) (dI : Nat → Nat → Nat) (cI cZ cT cJ : ClassId) (o mA mR mW mC mS mL mT mH mY mE mG mB mO sy tc rc : Nat) (tw : Int) (ar rk wt co : Nat → Int) (sz lf rg : Nat → Nat) (hi hv : Nat → Int) (ef : Nat → Nat) (gr : Nat → Bool) (bd ol : Nat → Int) (tn : Nat → Nat) (TH TM : Nat → Nat → Int) (TE : Nat → Nat → Nat) (HT : Nat → Nat → Int) (x : Nat) (n : Nat) (th tm : Nat → Int) (te : Nat → Nat) (ht : Nat → Int) (k : Nat) (zh : Nat) (har : ∀ q, q < 5 → 0 ≤ ar q ∧ ar q ≤ 3) (hsy : sy ≤ 5) (htc : tc ≤ 160) (htp : ∀ t, t < tc → okT sy ar (tn t) (TH t) (TM t) (TE t) (HT t) ∧ sz t = tn t ∧ ∀ q, q < tn t → co (16 * t + q) = TH t q) (hrc : rc ≤ 8) (hlr : ∀ r, r < rc → lf r < tc ∧ rg r < tc ∧ ∀ q, q < tn (rg r) → TH (rg r) q < 0 → ∃ k, k < tn (lf r) ∧ TH (lf r) k = TH (rg r) q) (hx160 : x < tc) (hot : okT sy ar n th tm te ht) (hzx : sz x = n) (hco : ∀ q, q < n → co (16 * x + q) = th q) (hk : k < n) : Met l qy_M_ruleAt qw_M_ruleAt ({ frames := 4, cells := 0, slots := 0, locals := 99 }) (mwP (dC, dI) qcl (qty cI cZ cT cJ) nwL [(mB, .inl (cI, 4, .inl (zA bd)))] [(o, .inr (6, [.int (zI (↑sy)), .ref mA, .ref mR, .ref mW, .int (zI (↑tc)), .ref mC, .ref mS, .int (zI (↑rc)), .ref mL, .ref mT, .ref mH, .ref mY, .ref mE, .ref mG, .ref mB, .ref mO, .int (zI (tw))])), (mA, .inl (cI, 5, .inl (zA ar))), (mC, .inl (cI, 2608, .inl (zA co))), (mS, .inl (cI, 163, .inl (zA (eI sz)))), (mL, .inl (cI, 8, .inl (zA (eI lf))))] zh [.ref o, .int (zI (↑(16 * x))), .int (zI (↑k))]) (mwI (S := (Nat → Int)) (fun r uq => (∃ r0 : Nat, r = ↑r0 ∧ r0 < rc ∧ (∃ q, MR (TH (lf r0)) th te k (tn (lf r0)) q uq) ∧ ∀ s, s < r0 → ¬ MA (TH (lf s)) (tn (lf s)) th te k) ∨ (r = -1 ∧ ∀ s, s < rc → ¬ MA (TH (lf s)) (tn (lf s)) th te k)) (fun uq tq => mwB (dC, dI) qcl (qty cI cZ cT cJ) (va_A [(mB, .inl (cI, 4, .inl (zA bd)))] zh) [(mB, .inl (cI, 4, .inl (zA uq)))] tq) (va_A [(mB, .inl (cI, 4, .inl (zA bd)))] zh)) 0 0 (va_A [(mB, .inl (cI, 4, .inl (zA bd)))] zh) := by
  refine Met.ofW (cc := qc_M_ruleAt) (maxL := 4) (ret := (Option.some Jvm.ClassFile.FieldType.int)) (by decide) rfl ?_
  intro pg eg sg mg args below meth cg s₁ B hml hv
  obtain ⟨rfl, hsz, hP, hF0, hK, hN, hD0, hap⟩ := hv
  have hx := B.exec
  have hb := B.bytes
  have hr := B.returns
  have hts := atoms_spec (ws := qw_M_ruleAt) B.pre
  have hg : ∀ w ∈ gw, w.before _ sg = true := fun w h => hts w (List.mem_cons_of_mem _ h)
  have hown : sg.vm.findClass "TermOrdersModel" = some mg.cls := findClass_of_methodNamed B.named
  have hlocks := B.notSynchronized
  have hl := lv_entry ([.ref o, .int (zI (↑(16 * x))), .int (zI (↑k))]) (n := 4) (Nat.le_of_ble_eq_true rfl)
  rw [lg_entry_eq]
  generalize (lg_sl ([.ref o, .int (zI (↑(16 * x))), .int (zI (↑k))]) ++ List.replicate (4 - (lg_sl ([.ref o, .int (zI (↑(16 * x))), .int (zI (↑k))])).length) Slot.unset).toArray = ls at hl ⊢
  subst hsz
  have hD := hD0.self (sz := sg.heap.size)
  have hFA := apw_A hap (fun k q hk => (hF0 k q hk).lt)
  generalize hAe : va_A [(mB, .inl (cI, 4, .inl (zA bd)))] sg.heap.size = A at hD hFA ⊢
  have hA : ∀ q : Nat, sg.heap.size ≤ q → A q := fun q h => by rw [← hAe]; exact Or.inr h
  have hS : va_S A sg.heap sg.heap [] := va_S.rf
  have hF := hF0
  have hl : lv_has ls 4 [(0, .ref o), (1, .int (zI (↑(16 * x)))), (2, .int (zI (↑k)))] := hl
  refine lv_iconst (v := zI 0) hx hb qd_M_ruleAt_0 rfl ?_
  refine lv_istore_n (lv' := [(3, .int (zI (0))), (0, .ref o), (1, .int (zI (↑(16 * x)))), (2, .int (zI (↑k)))]) hx hb qd_M_ruleAt_1 rfl hl (by decide) rfl (fun ls hl => ?_)
  have L2 : ∀ (mu2 : Nat) (i : Nat) (bz : Nat → Int), (i ≤ rc) → (∀ s, s < i → ¬ MA (TH (lf s)) (tn (lf s)) th te k) → rc - i = mu2 → ∀ (H2_1 : Heap) (L2_1 : List Loc), va_P (dC, dI) qcl [(mB, .inl (cI, 4, .inl (zA bz)))] H2_1 → va_D A [(mB, .inl (cI, 4, .inl (zA bz)))] → va_S A sg.heap H2_1 L2_1 → ∀ ls : Array Slot, lv_has ls 4 [(3, .int (zI (↑i))), (0, .ref o), (1, .int (zI (↑(16 * x)))), (2, .int (zI (↑k)))] → W pg l eg (headSpec qw_M_ruleAt ({ frames := 4, cells := 0, slots := 0, locals := 99 })).room sg mg ([.ref o, .int (zI (↑(16 * x))), .int (zI (↑k))] : List Value).toArray below meth cg H2_1 L2_1 0 0 (MQ below (mwI (S := (Nat → Int)) (fun r uq => (∃ r0 : Nat, r = ↑r0 ∧ r0 < rc ∧ (∃ q, MR (TH (lf r0)) th te k (tn (lf r0)) q uq) ∧ ∀ s, s < r0 → ¬ MA (TH (lf s)) (tn (lf s)) th te k) ∨ (r = -1 ∧ ∀ s, s < rc → ¬ MA (TH (lf s)) (tn (lf s)) th te k)) (fun uq tq => mwB (dC, dI) qcl (qty cI cZ cT cJ) A [(mB, .inl (cI, 4, .inl (zA uq)))] tq) A) ([.ref o, .int (zI (↑(16 * x))), .int (zI (↑k))] : List Value).toArray sg 0 0 A) (F0 mg 2 ls []) := by
    intro mu2
    induction mu2 using Nat.strongRecOn with
    | _ mu2 ih2 =>
      intro i bz hi8 hz hmu2 H2_1 L2_1 hP hD hS ls hl
      have hF := fz_keep hF0 hFA hS
      refine lv_iload_n hx hb qd_M_ruleAt_2 rfl (lv_at hl 0 rfl) ?_
      refine lv_aload_n hx hb qd_M_ruleAt_3 rfl (lv_at hl 1 rfl) ?_
      refine va_get (D := (dC, dI)) (ci := 6) (v := .int (zI (↑rc))) (C := "TermOrdersModel") (T := qT_M) (N := 17) hx hb hg qi_M hown hK hF 0 rfl rfl 7 (by decide) (hg _ wd_625) (fun _ h9 => h9) rfl qd_M_ruleAt_4 ?_
      refine zz_icmp_ge (tgt := 28) hx hb qd_M_ruleAt_7 (by decide) (by omega) (by omega) (fun h7 => ?_) (fun h7 => ?_)
      · skip
        refine lv_iconst (v := zI (-1)) hx hb qd_M_ruleAt_28 rfl ?_
        exact W.iret (v := zI ((-1))) hx hb hr (fun t9 ht9 hW9 => ⟨⟨(-1), bz, rfl, (Or.inr ⟨rfl, fun s hs => hz s (by omega)⟩), mwB_i (by rw [ht9]; exact hP) (va_K.moved hW9.alike hK) hD⟩, hS.F ht9⟩) hS.2.2 qd_M_ruleAt_29
      · skip
        refine lv_aload_n hx hb qd_M_ruleAt_10 rfl (lv_at hl 1 rfl) ?_
        refine lv_iload_n hx hb qd_M_ruleAt_11 rfl (lv_at hl 0 rfl) ?_
        refine lv_iload_n hx hb qd_M_ruleAt_12 rfl (lv_at hl 2 rfl) ?_
        refine lv_iload_n hx hb qd_M_ruleAt_13 rfl (lv_at hl 3 rfl) ?_
        have hPc := hP.sub (ws' := [(mB, .inl (cI, 4, .inl (zA bz)))]) [0] rfl
        have hDc := hD.sub (ws' := [(mB, .inl (cI, 4, .inl (zA bz)))]) [0] (by decide) rfl
        have hFr := va_free (wc := [(mB, .inl (cI, 4, .inl (zA bz)))]) hD hS hA [0] rfl
        refine mw_callO (va_runV (As := [.int (zI (↑i)), .int (zI (↑(16 * x))), .int (zI (↑k))]) (rest := []) ⟨hx, hb, hml, hown, hg⟩ (c_M_matches l dC dI cI cZ cT cJ o mA mR mW mC mS mL mT mH mY mE mG mB mO sy tc rc tw ar rk wt co sz lf rg hi hv ef gr bz ol tn TH TM TE HT x n th tm te ht i k H2_1.size har hsy htc htp hrc hlr hx160 hot hzx hco (by omega) hk) ⟨callB_of 3 hg (gw_ok (fun _ h => h) wd_805) rfl rfl rfl (hg _ wd_6) (hg _ wd_802) (by decide +kernel) ⟨Nat.le_of_ble_eq_true rfl, Nat.le_of_ble_eq_true rfl⟩, hg _ wd_804, hg _ se_M_matches⟩ (mw_preV (va_recv (q0 := 0) hK hF rfl rfl) hPc (pw_c (q := (o, .inr (6, [.int (zI (↑sy)), .ref mA, .ref mR, .ref mW, .int (zI (↑tc)), .ref mC, .ref mS, .int (zI (↑rc)), .ref mL, .ref mT, .ref mH, .ref mY, .ref mE, .ref mG, .ref mB, .ref mO, .int (zI (tw))]))) hF 0 rfl (pw_c (q := (mA, .inl (cI, 5, .inl (zA ar)))) hF 1 rfl (pw_c (q := (mC, .inl (cI, 2608, .inl (zA co)))) hF 2 rfl (pw_c (q := (mS, .inl (cI, 163, .inl (zA (eI sz))))) hF 3 rfl (pw_c (q := (mL, .inl (cI, 8, .inl (zA (eI lf))))) hF 4 rfl (pw_nil)))))) hK hN hDc (apw_c (q := (o, .inr (6, [.int (zI (↑sy)), .ref mA, .ref mR, .ref mW, .int (zI (↑tc)), .ref mC, .ref mS, .int (zI (↑rc)), .ref mL, .ref mT, .ref mH, .ref mY, .ref mE, .ref mG, .ref mB, .ref mO, .int (zI (tw))]))) (apw_f hD [0] rfl (hFA 0 _ rfl)) (apw_c (q := (mA, .inl (cI, 5, .inl (zA ar)))) (apw_f hD [0] rfl (hFA 1 _ rfl)) (apw_c (q := (mC, .inl (cI, 2608, .inl (zA co)))) (apw_f hD [0] rfl (hFA 2 _ rfl)) (apw_c (q := (mS, .inl (cI, 163, .inl (zA (eI sz))))) (apw_f hD [0] rfl (hFA 3 _ rfl)) (apw_c (q := (mL, .inl (cI, 8, .inl (zA (eI lf))))) (apw_f hD [0] rfl (hFA 4 _ rfl)) (apw_nil))))))) rfl rfl hl.1 rfl (lv_room (Nat.le_of_ble_eq_true rfl)) qd_M_ruleAt_14 ⟨Nat.le_of_ble_eq_true rfl, Nat.le_of_ble_eq_true rfl⟩) hS (fun q _ h => hFr q h) hFr (fun r14 b3 t9 H14_2 L14_2 ht9 hv9 hr14 hB9 hz9 hk9 hS => ?_)
        try dsimp only at hr14 hB9
        obtain ⟨hP, hD⟩ := mw_join (wr := []) (w1 := [(mB, .inl (cI, 4, .inl (zA b3)))]) hP hD [0] [] rfl rfl (by decide) (by decide) hk9 hFr ht9 hB9
        have hP := hP.sub (ws' := [(mB, .inl (cI, 4, .inl (zA b3)))]) [0] rfl
        have hD := hD.sub (ws' := [(mB, .inl (cI, 4, .inl (zA b3)))]) [0] (by decide) rfl
        have hF := fz_keep hF0 hFA hS
        refine zz_ifeqB (tgt := 22) hx hb qd_M_ruleAt_17 (by decide) (fun h17 => ?_) (fun h17 => ?_)
        · skip
          refine lv_iinc (k := 0) (lv' := [(3, .int (zI (↑(i + 1)))), (0, .ref o), (1, .int (zI (↑(16 * x)))), (2, .int (zI (↑k)))]) hx hb qd_M_ruleAt_22 hl rfl (zI_inc (v := ↑(i + 1)) (by omega)) (by decide) rfl (fun ls hl => ?_)
          refine lv_goto (tgt := 2) hx hb qd_M_ruleAt_25 (by decide) ?_
          exact ih2 _ (by omega) (i + 1) b3 (by omega) (fun s hs => if h8 : s < i then hz s h8 else (by rw [show s = i by omega]; exact hr14.2 h17)) rfl H14_2 L14_2 hP hD hS ls hl
        · skip
          refine lv_iload_n hx hb qd_M_ruleAt_20 rfl (lv_at hl 0 rfl) ?_
          exact W.iret (v := zI (↑i)) hx hb hr (fun t9 ht9 hW9 => ⟨⟨↑i, b3, rfl, (Or.inl ⟨i, rfl, by omega, hr14.1 h17, hz⟩), mwB_i (by rw [ht9]; exact hP) (va_K.moved hW9.alike hK) hD⟩, hS.F ht9⟩) hS.2.2 qd_M_ruleAt_21
  exact L2 _ 0 bd (by omega) (fun s hs => by omega) rfl sg.heap [] hP hD hS ls hl
set_option maxHeartbeats 4000000 in
set_option maxRecDepth 100000 in
theorem c_M_placeOf (l : Launch) (dC : Nat → ClassId) (dI : Nat → Nat → Nat) (cI cZ cT cJ : ClassId) (o mA mR mW mC mS mL mT mH mY mE mG mB mO sy tc rc : Nat) (tw : Int) (ar rk wt co : Nat → Int) (sz lf rg : Nat → Nat) (hi hv : Nat → Int) (ef : Nat → Nat) (gr : Nat → Bool) (bd ol : Nat → Int) (tn : Nat → Nat) (TH TM : Nat → Nat → Int) (TE : Nat → Nat → Nat) (HT : Nat → Nat → Int) (x : Nat) (n : Nat) (th tm : Nat → Int) (te : Nat → Nat) (ht : Nat → Int) (zh : Nat) (har : ∀ q, q < 5 → 0 ≤ ar q ∧ ar q ≤ 3) (hsy : sy ≤ 5) (htc : tc ≤ 160) (htp : ∀ t, t < tc → okT sy ar (tn t) (TH t) (TM t) (TE t) (HT t) ∧ sz t = tn t ∧ ∀ q, q < tn t → co (16 * t + q) = TH t q) (hrc : rc ≤ 8) (hlr : ∀ r, r < rc → lf r < tc ∧ rg r < tc ∧ ∀ q, q < tn (rg r) → TH (rg r) q < 0 → ∃ k, k < tn (lf r) ∧ TH (lf r) k = TH (rg r) q) (hx160 : x < tc) (hot : okT sy ar n th tm te ht) (hzx : sz x = n) (hco : ∀ q, q < n → co (16 * x + q) = th q) : Met l qy_M_placeOf qw_M_placeOf ({ frames := 5, cells := 0, slots := 0, locals := 122 }) (mwP (dC, dI) qcl (qty cI cZ cT cJ) nwL [(mB, .inl (cI, 4, .inl (zA bd)))] [(o, .inr (6, [.int (zI (↑sy)), .ref mA, .ref mR, .ref mW, .int (zI (↑tc)), .ref mC, .ref mS, .int (zI (↑rc)), .ref mL, .ref mT, .ref mH, .ref mY, .ref mE, .ref mG, .ref mB, .ref mO, .int (zI (tw))])), (mA, .inl (cI, 5, .inl (zA ar))), (mC, .inl (cI, 2608, .inl (zA co))), (mS, .inl (cI, 163, .inl (zA (eI sz)))), (mL, .inl (cI, 8, .inl (zA (eI lf))))] zh [.ref o, .int (zI (↑x))]) (mwI (S := (Nat → Int)) (fun r uq => (∃ k : Nat, r = ↑k ∧ inF (fun p => ∃ r, r < rc ∧ MA (TH (lf r)) (tn (lf r)) th te p) te n k) ∨ (r = -1 ∧ ∀ k, k < n → ¬ (fun p => ∃ r, r < rc ∧ MA (TH (lf r)) (tn (lf r)) th te p) k)) (fun uq tq => mwB (dC, dI) qcl (qty cI cZ cT cJ) (va_A [(mB, .inl (cI, 4, .inl (zA bd)))] zh) [(mB, .inl (cI, 4, .inl (zA uq)))] tq) (va_A [(mB, .inl (cI, 4, .inl (zA bd)))] zh)) 0 0 (va_A [(mB, .inl (cI, 4, .inl (zA bd)))] zh) := by
  refine Met.ofW (cc := qc_M_placeOf) (maxL := 7) (ret := (Option.some Jvm.ClassFile.FieldType.int)) (by decide) rfl ?_
  intro pg eg sg mg args below meth cg s₁ B hml hv
  obtain ⟨rfl, hsz, hP, hF0, hK, hN, hD0, hap⟩ := hv
  have hx := B.exec
  have hb := B.bytes
  have hr := B.returns
  have hts := atoms_spec (ws := qw_M_placeOf) B.pre
  have hg : ∀ w ∈ gw, w.before _ sg = true := fun w h => hts w (List.mem_cons_of_mem _ h)
  have hown : sg.vm.findClass "TermOrdersModel" = some mg.cls := findClass_of_methodNamed B.named
  have hlocks := B.notSynchronized
  have hl := lv_entry ([.ref o, .int (zI (↑x))]) (n := 7) (Nat.le_of_ble_eq_true rfl)
  rw [lg_entry_eq]
  generalize (lg_sl ([.ref o, .int (zI (↑x))]) ++ List.replicate (7 - (lg_sl ([.ref o, .int (zI (↑x))])).length) Slot.unset).toArray = ls at hl ⊢
  subst hsz
  have hD := hD0.self (sz := sg.heap.size)
  have hFA := apw_A hap (fun k q hk => (hF0 k q hk).lt)
  generalize hAe : va_A [(mB, .inl (cI, 4, .inl (zA bd)))] sg.heap.size = A at hD hFA ⊢
  have hA : ∀ q : Nat, sg.heap.size ≤ q → A q := fun q h => by rw [← hAe]; exact Or.inr h
  have hS : va_S A sg.heap sg.heap [] := va_S.rf
  have hF := hF0
  have hl : lv_has ls 7 [(0, .ref o), (1, .int (zI (↑x)))] := hl
  have h16 := hot.2.1
  have hh := okT_hh hsy hot
  have we := hot.2.2.2.2.1
  have htm := hot.2.2.2.1
  refine lv_bipush (v := zI 16) hx hb qd_M_placeOf_0 (by decide) ?_
  refine lv_iload_n hx hb qd_M_placeOf_2 rfl (lv_at hl 1 rfl) ?_
  refine zz_imul hx hb (↑(16 * x)) (by omega) qd_M_placeOf_3 ?_
  refine lv_istore_n (lv' := [(2, .int (zI (↑(16 * x)))), (0, .ref o), (1, .int (zI (↑x)))]) hx hb qd_M_placeOf_4 rfl hl (by decide) rfl (fun ls hl => ?_)
  refine lv_iconst (v := zI 0) hx hb qd_M_placeOf_5 rfl ?_
  refine lv_istore_n (lv' := [(3, .int (zI (0))), (2, .int (zI (↑(16 * x)))), (0, .ref o), (1, .int (zI (↑x)))]) hx hb qd_M_placeOf_6 rfl hl (by decide) rfl (fun ls hl => ?_)
  have L7 : ∀ (mu7 : Nat) (k : Nat) (bz : Nat → Int), (k ≤ n) → (∀ j, j < k → ¬ inn (fun p => ∃ r, r < rc ∧ MA (TH (lf r)) (tn (lf r)) th te p) te j) → n - k = mu7 → ∀ (H7_1 : Heap) (L7_1 : List Loc), va_P (dC, dI) qcl [(mB, .inl (cI, 4, .inl (zA bz)))] H7_1 → va_D A [(mB, .inl (cI, 4, .inl (zA bz)))] → va_S A sg.heap H7_1 L7_1 → ∀ ls : Array Slot, lv_has ls 7 [(3, .int (zI (↑k))), (2, .int (zI (↑(16 * x)))), (0, .ref o), (1, .int (zI (↑x)))] → W pg l eg (headSpec qw_M_placeOf ({ frames := 5, cells := 0, slots := 0, locals := 122 })).room sg mg ([.ref o, .int (zI (↑x))] : List Value).toArray below meth cg H7_1 L7_1 0 0 (MQ below (mwI (S := (Nat → Int)) (fun r uq => (∃ k : Nat, r = ↑k ∧ inF (fun p => ∃ r, r < rc ∧ MA (TH (lf r)) (tn (lf r)) th te p) te n k) ∨ (r = -1 ∧ ∀ k, k < n → ¬ (fun p => ∃ r, r < rc ∧ MA (TH (lf r)) (tn (lf r)) th te p) k)) (fun uq tq => mwB (dC, dI) qcl (qty cI cZ cT cJ) A [(mB, .inl (cI, 4, .inl (zA uq)))] tq) A) ([.ref o, .int (zI (↑x))] : List Value).toArray sg 0 0 A) (F0 mg 7 ls []) := by
    intro mu7
    induction mu7 using Nat.strongRecOn with
    | _ mu7 ih7 =>
      intro k bz hk8 hz hmu7 H7_1 L7_1 hP hD hS ls hl
      have hF := fz_keep hF0 hFA hS
      refine lv_iload_n hx hb qd_M_placeOf_7 rfl (lv_at hl 0 rfl) ?_
      refine lv_aload_n hx hb qd_M_placeOf_8 rfl (lv_at hl 2 rfl) ?_
      refine va_get (D := (dC, dI)) (ci := 6) (v := .ref mS) (C := "TermOrdersModel") (T := qT_M) (N := 17) hx hb hg qi_M hown hK hF 0 rfl rfl 6 (by decide) (hg _ wd_624) (fun _ h9 => h9) rfl qd_M_placeOf_9 ?_
      refine lv_iload_n hx hb qd_M_placeOf_12 rfl (lv_at hl 3 rfl) ?_
      refine zz_eald hx hb hK hF 3 0 rfl rfl x rfl (by omega) (by omega) qd_M_placeOf_13 ?_
      refine zz_top (b := ↑n) (by rw [hzx]) ?_
      refine zz_icmp_ge (tgt := 94) hx hb qd_M_placeOf_14 (by decide) (by omega) (by omega) (fun h14 => ?_) (fun h14 => ?_)
      · skip
        refine lv_iconst (v := zI (-1)) hx hb qd_M_placeOf_94 rfl ?_
        exact W.iret (v := zI ((-1))) hx hb hr (fun t9 ht9 hW9 => ⟨⟨(-1), bz, rfl, (Or.inr ⟨rfl, inn_no (fun j hj => (we j hj).2.1) (fun j hj => hz j (by omega))⟩), mwB_i (by rw [ht9]; exact hP) (va_K.moved hW9.alike hK) hD⟩, hS.F ht9⟩) hS.2.2 qd_M_placeOf_95
      · skip
        have hkn : k < n := by omega
        obtain ⟨w1, w2, w3, w4⟩ := we k hkn
        refine lv_aload_n hx hb qd_M_placeOf_17 rfl (lv_at hl 2 rfl) ?_
        refine lv_iload_n hx hb qd_M_placeOf_18 rfl (lv_at hl 1 rfl) ?_
        refine lv_iload_n hx hb qd_M_placeOf_19 rfl (lv_at hl 0 rfl) ?_
        have hPc := hP.sub (ws' := [(mB, .inl (cI, 4, .inl (zA bz)))]) [0] rfl
        have hDc := hD.sub (ws' := [(mB, .inl (cI, 4, .inl (zA bz)))]) [0] (by decide) rfl
        have hFr := va_free (wc := [(mB, .inl (cI, 4, .inl (zA bz)))]) hD hS hA [0] rfl
        refine mw_callI (va_runV (As := [.int (zI (↑(16 * x))), .int (zI (↑k))]) (rest := []) ⟨hx, hb, hml, hown, hg⟩ (c_M_ruleAt l dC dI cI cZ cT cJ o mA mR mW mC mS mL mT mH mY mE mG mB mO sy tc rc tw ar rk wt co sz lf rg hi hv ef gr bz ol tn TH TM TE HT x n th tm te ht k H7_1.size har hsy htc htp hrc hlr hx160 hot hzx hco (by omega)) ⟨callB_of 2 hg (gw_ok (fun _ h => h) wd_801) rfl rfl rfl (hg _ wd_6) (hg _ wd_798) (by decide +kernel) ⟨Nat.le_of_ble_eq_true rfl, Nat.le_of_ble_eq_true rfl⟩, hg _ wd_800, hg _ se_M_ruleAt⟩ (mw_preV (va_recv (q0 := 0) hK hF rfl rfl) hPc (pw_c (q := (o, .inr (6, [.int (zI (↑sy)), .ref mA, .ref mR, .ref mW, .int (zI (↑tc)), .ref mC, .ref mS, .int (zI (↑rc)), .ref mL, .ref mT, .ref mH, .ref mY, .ref mE, .ref mG, .ref mB, .ref mO, .int (zI (tw))]))) hF 0 rfl (pw_c (q := (mA, .inl (cI, 5, .inl (zA ar)))) hF 1 rfl (pw_c (q := (mC, .inl (cI, 2608, .inl (zA co)))) hF 2 rfl (pw_c (q := (mS, .inl (cI, 163, .inl (zA (eI sz))))) hF 3 rfl (pw_c (q := (mL, .inl (cI, 8, .inl (zA (eI lf))))) hF 4 rfl (pw_nil)))))) hK hN hDc (apw_c (q := (o, .inr (6, [.int (zI (↑sy)), .ref mA, .ref mR, .ref mW, .int (zI (↑tc)), .ref mC, .ref mS, .int (zI (↑rc)), .ref mL, .ref mT, .ref mH, .ref mY, .ref mE, .ref mG, .ref mB, .ref mO, .int (zI (tw))]))) (apw_f hD [0] rfl (hFA 0 _ rfl)) (apw_c (q := (mA, .inl (cI, 5, .inl (zA ar)))) (apw_f hD [0] rfl (hFA 1 _ rfl)) (apw_c (q := (mC, .inl (cI, 2608, .inl (zA co)))) (apw_f hD [0] rfl (hFA 2 _ rfl)) (apw_c (q := (mS, .inl (cI, 163, .inl (zA (eI sz))))) (apw_f hD [0] rfl (hFA 3 _ rfl)) (apw_c (q := (mL, .inl (cI, 8, .inl (zA (eI lf))))) (apw_f hD [0] rfl (hFA 4 _ rfl)) (apw_nil))))))) rfl rfl hl.1 rfl (lv_room (Nat.le_of_ble_eq_true rfl)) qd_M_placeOf_20 ⟨Nat.le_of_ble_eq_true rfl, Nat.le_of_ble_eq_true rfl⟩) hS (fun q _ h => hFr q h) hFr (fun r20 b3 t9 H20_2 L20_2 ht9 hv9 hr20 hB9 hz9 hk9 hS => ?_)
        try dsimp only at hr20 hB9
        obtain ⟨hP, hD⟩ := mw_join (wr := []) (w1 := [(mB, .inl (cI, 4, .inl (zA b3)))]) hP hD [0] [] rfl rfl (by decide) (by decide) hk9 hFr ht9 hB9
        have hP := hP.sub (ws' := [(mB, .inl (cI, 4, .inl (zA b3)))]) [0] rfl
        have hD := hD.sub (ws' := [(mB, .inl (cI, 4, .inl (zA b3)))]) [0] (by decide) rfl
        have hF := fz_keep hF0 hFA hS
        refine zz_if_lt (tgt := 30) hx hb qd_M_placeOf_23 (by decide) (by rcases hr20 with ⟨z0, z1, z2, _⟩ | ⟨z1, _⟩ <;> omega) (fun h23 => ?_) (fun h23 => ?_)
        · skip
          have hin0 : (false = true ↔ ((fun p => ∃ r, r < rc ∧ MA (TH (lf r)) (tn (lf r)) th te p) k ∧ ∀ q, k < q → q < k + 1 → ¬ (fun p => ∃ r, r < rc ∧ MA (TH (lf r)) (tn (lf r)) th te p) q)) := bF (fun ⟨⟨r0, z1, z2⟩, _⟩ => (hr20.elim (fun ⟨k9, z3, _⟩ => by omega) (fun z => z.2)) r0 z1 z2)
          refine lv_iconst (v := zI 0) hx hb qd_M_placeOf_30 rfl ?_
          refine lv_istore (lv' := [(4, .int (zI (bI (false)))), (3, .int (zI (↑k))), (2, .int (zI (↑(16 * x)))), (0, .ref o), (1, .int (zI (↑x)))]) hx hb qd_M_placeOf_31 hl (by decide) rfl (fun ls hl => ?_)
          refine lv_aload_n hx hb qd_M_placeOf_33 rfl (lv_at hl 3 rfl) ?_
          refine lv_iload_n hx hb qd_M_placeOf_34 rfl (lv_at hl 2 rfl) ?_
          refine lv_iload_n hx hb qd_M_placeOf_35 rfl (lv_at hl 1 rfl) ?_
          refine rd_callI (W.runV (As := [.int (zI (↑(16 * x))), .int (zI (↑k))]) (rest := []) ⟨hx, hb, hml, hown, hg⟩ (c_M_end l dC dI cI cZ cT cJ o mA mR mW mC mS mL mT mH mY mE mG mB mO sy tc rc tw ar rk wt co sz lf rg hi hv ef gr bd ol (16 * x) n th tm te k har h16 (by omega) hco htm hh we (by omega)) ⟨callB_of 2 hg (gw_ok (fun _ h => h) wd_713) rfl rfl rfl (hg _ wd_6) (hg _ wd_710) (by decide +kernel) ⟨Nat.le_of_ble_eq_true rfl, Nat.le_of_ble_eq_true rfl⟩, hg _ wd_712, hg _ se_M_end⟩ (rd_preV (va_recv (q0 := 0) hK hF rfl rfl) (pw_c (q := (o, .inr (6, [.int (zI (↑sy)), .ref mA, .ref mR, .ref mW, .int (zI (↑tc)), .ref mC, .ref mS, .int (zI (↑rc)), .ref mL, .ref mT, .ref mH, .ref mY, .ref mE, .ref mG, .ref mB, .ref mO, .int (zI (tw))]))) hF 0 rfl (pw_c (q := (mA, .inl (cI, 5, .inl (zA ar)))) hF 1 rfl (pw_c (q := (mC, .inl (cI, 2608, .inl (zA co)))) hF 2 rfl (pw_nil)))) hK hN) rfl rfl hl.1 rfl (lv_room (Nat.le_of_ble_eq_true rfl)) qd_M_placeOf_36 ⟨Nat.le_of_ble_eq_true rfl, Nat.le_of_ble_eq_true rfl⟩) (fun r36 hr36 => ?_)
          have e36 : r36 = ↑(te k) := hr36
          subst e36
          refine lv_istore (lv' := [(5, .int (zI (↑(te k)))), (4, .int (zI (bI (false)))), (3, .int (zI (↑k))), (2, .int (zI (↑(16 * x)))), (0, .ref o), (1, .int (zI (↑x)))]) hx hb qd_M_placeOf_39 hl (by decide) rfl (fun ls hl => ?_)
          refine lv_iload_n hx hb qd_M_placeOf_41 rfl (lv_at hl 2 rfl) ?_
          refine lv_iconst (v := zI 1) hx hb qd_M_placeOf_42 rfl ?_
          refine zz_iadd hx hb (↑(k + 1)) (by omega) qd_M_placeOf_43 ?_
          refine lv_istore (lv' := [(6, .int (zI (↑(k + 1)))), (5, .int (zI (↑(te k)))), (4, .int (zI (bI (false)))), (3, .int (zI (↑k))), (2, .int (zI (↑(16 * x)))), (0, .ref o), (1, .int (zI (↑x)))]) hx hb qd_M_placeOf_44 hl (by decide) rfl (fun ls hl => ?_)
          have L46 : ∀ (mu46 : Nat) (q : Nat) (ib : Bool) (by_ : Nat → Int), (k + 1 ≤ q ∧ q ≤ te k) → (ib = true ↔ ((fun p => ∃ r, r < rc ∧ MA (TH (lf r)) (tn (lf r)) th te p) k ∧ ∀ u, k < u → u < q → ¬ (fun p => ∃ r, r < rc ∧ MA (TH (lf r)) (tn (lf r)) th te p) u)) → te k - q = mu46 → ∀ (H46_3 : Heap) (L46_3 : List Loc), va_P (dC, dI) qcl [(mB, .inl (cI, 4, .inl (zA by_)))] H46_3 → va_D A [(mB, .inl (cI, 4, .inl (zA by_)))] → va_S A sg.heap H46_3 L46_3 → ∀ ls : Array Slot, lv_has ls 7 [(6, .int (zI (↑q))), (5, .int (zI (↑(te k)))), (4, .int (zI (bI (ib)))), (3, .int (zI (↑k))), (2, .int (zI (↑(16 * x)))), (0, .ref o), (1, .int (zI (↑x)))] → W pg l eg (headSpec qw_M_placeOf ({ frames := 5, cells := 0, slots := 0, locals := 122 })).room sg mg ([.ref o, .int (zI (↑x))] : List Value).toArray below meth cg H46_3 L46_3 0 0 (MQ below (mwI (S := (Nat → Int)) (fun r uq => (∃ k : Nat, r = ↑k ∧ inF (fun p => ∃ r, r < rc ∧ MA (TH (lf r)) (tn (lf r)) th te p) te n k) ∨ (r = -1 ∧ ∀ k, k < n → ¬ (fun p => ∃ r, r < rc ∧ MA (TH (lf r)) (tn (lf r)) th te p) k)) (fun uq tq => mwB (dC, dI) qcl (qty cI cZ cT cJ) A [(mB, .inl (cI, 4, .inl (zA uq)))] tq) A) ([.ref o, .int (zI (↑x))] : List Value).toArray sg 0 0 A) (F0 mg 46 ls []) := by
            intro mu46
            induction mu46 using Nat.strongRecOn with
            | _ mu46 ih46 =>
              intro q ib by_ hq8 hin hmu46 H46_3 L46_3 hP hD hS ls hl
              have hF := fz_keep hF0 hFA hS
              refine lv_iload hx hb qd_M_placeOf_46 (lv_at hl 0 rfl) ?_
              refine lv_iload hx hb qd_M_placeOf_48 (lv_at hl 1 rfl) ?_
              refine zz_icmp_ge (tgt := 81) hx hb qd_M_placeOf_50 (by decide) (by omega) (by omega) (fun h50 => ?_) (fun h50 => ?_)
              · skip
                have hfin : ib = true ↔ inn (fun p => ∃ r, r < rc ∧ MA (TH (lf r)) (tn (lf r)) th te p) te k := hin.trans (by rw [show q = te k by omega]; exact Iff.rfl)
                refine lv_iload hx hb qd_M_placeOf_81 (lv_at hl 2 rfl) ?_
                refine zz_ifeqB (tgt := 88) hx hb qd_M_placeOf_83 (by decide) (fun h83 => ?_) (fun h83 => ?_)
                · skip
                  have hnx : ¬ inn (fun p => ∃ r, r < rc ∧ MA (TH (lf r)) (tn (lf r)) th te p) te k := fun z => by rw [hfin.mpr z] at h83; exact Bool.noConfusion h83
                  refine lv_iinc (k := 3) (lv' := [(3, .int (zI (↑(k + 1)))), (6, .int (zI (↑q))), (5, .int (zI (↑(te k)))), (4, .int (zI (bI (ib)))), (2, .int (zI (↑(16 * x)))), (0, .ref o), (1, .int (zI (↑x)))]) hx hb qd_M_placeOf_88 hl rfl (zI_inc (v := ↑(k + 1)) (by omega)) (by decide) rfl (fun ls hl => ?_)
                  refine lv_goto (tgt := 7) hx hb qd_M_placeOf_91 (by decide) ?_
                  have hl := lv_sub (l' := [(3, .int (zI (↑(k + 1)))), (2, .int (zI (↑(16 * x)))), (0, .ref o), (1, .int (zI (↑x)))]) hl [0, 4, 5, 6] rfl
                  exact ih7 _ (mu_s hmu7 hkn) (k + 1) by_ hkn (fun j hj => if h8 : j < k then hz j h8 else (by rw [show j = k by omega]; exact hnx)) rfl H46_3 L46_3 hP hD hS ls hl
                · skip
                  have hyes := hfin.mp h83
                  refine lv_iload_n hx hb qd_M_placeOf_86 rfl (lv_at hl 3 rfl) ?_
                  exact W.iret (v := zI (↑k)) hx hb hr (fun t9 ht9 hW9 => ⟨⟨↑k, by_, rfl, (Or.inl ⟨k, rfl, by omega, hyes, hz⟩), mwB_i (by rw [ht9]; exact hP) (va_K.moved hW9.alike hK) hD⟩, hS.F ht9⟩) hS.2.2 qd_M_placeOf_87
              · skip
                refine lv_iload hx hb qd_M_placeOf_53 (lv_at hl 2 rfl) ?_
                refine zz_ifeqB (tgt := 81) hx hb qd_M_placeOf_55 (by decide) (fun h55 => ?_) (fun h55 => ?_)
                · skip
                  have hfin : ib = true ↔ inn (fun p => ∃ r, r < rc ∧ MA (TH (lf r)) (tn (lf r)) th te p) te k := ⟨fun z => by rw [z] at h55; exact Bool.noConfusion h55, fun z => absurd (hin.mpr ⟨z.1, fun u a1 a2 => z.2 u a1 (by omega)⟩) (by rw [h55]; exact Bool.noConfusion)⟩
                  refine lv_iload hx hb qd_M_placeOf_81 (lv_at hl 2 rfl) ?_
                  refine zz_ifeqB (tgt := 88) hx hb qd_M_placeOf_83 (by decide) (fun h83 => ?_) (fun h83 => ?_)
                  · skip
                    have hnx : ¬ inn (fun p => ∃ r, r < rc ∧ MA (TH (lf r)) (tn (lf r)) th te p) te k := fun z => by rw [hfin.mpr z] at h83; exact Bool.noConfusion h83
                    refine lv_iinc (k := 3) (lv' := [(3, .int (zI (↑(k + 1)))), (6, .int (zI (↑q))), (5, .int (zI (↑(te k)))), (4, .int (zI (bI (ib)))), (2, .int (zI (↑(16 * x)))), (0, .ref o), (1, .int (zI (↑x)))]) hx hb qd_M_placeOf_88 hl rfl (zI_inc (v := ↑(k + 1)) (by omega)) (by decide) rfl (fun ls hl => ?_)
                    refine lv_goto (tgt := 7) hx hb qd_M_placeOf_91 (by decide) ?_
                    have hl := lv_sub (l' := [(3, .int (zI (↑(k + 1)))), (2, .int (zI (↑(16 * x)))), (0, .ref o), (1, .int (zI (↑x)))]) hl [0, 4, 5, 6] rfl
                    exact ih7 _ (mu_s hmu7 hkn) (k + 1) by_ hkn (fun j hj => if h8 : j < k then hz j h8 else (by rw [show j = k by omega]; exact hnx)) rfl H46_3 L46_3 hP hD hS ls hl
                  · skip
                    have hyes := hfin.mp h83
                    refine lv_iload_n hx hb qd_M_placeOf_86 rfl (lv_at hl 3 rfl) ?_
                    exact W.iret (v := zI (↑k)) hx hb hr (fun t9 ht9 hW9 => ⟨⟨↑k, by_, rfl, (Or.inl ⟨k, rfl, by omega, hyes, hz⟩), mwB_i (by rw [ht9]; exact hP) (va_K.moved hW9.alike hK) hD⟩, hS.F ht9⟩) hS.2.2 qd_M_placeOf_87
                · skip
                  refine lv_aload_n hx hb qd_M_placeOf_58 rfl (lv_at hl 5 rfl) ?_
                  refine lv_iload_n hx hb qd_M_placeOf_59 rfl (lv_at hl 4 rfl) ?_
                  refine lv_iload hx hb qd_M_placeOf_60 (lv_at hl 0 rfl) ?_
                  have hPc := hP.sub (ws' := [(mB, .inl (cI, 4, .inl (zA by_)))]) [0] rfl
                  have hDc := hD.sub (ws' := [(mB, .inl (cI, 4, .inl (zA by_)))]) [0] (by decide) rfl
                  have hFr := va_free (wc := [(mB, .inl (cI, 4, .inl (zA by_)))]) hD hS hA [0] rfl
                  refine mw_callI (va_runV (As := [.int (zI (↑(16 * x))), .int (zI (↑q))]) (rest := []) ⟨hx, hb, hml, hown, hg⟩ (c_M_ruleAt l dC dI cI cZ cT cJ o mA mR mW mC mS mL mT mH mY mE mG mB mO sy tc rc tw ar rk wt co sz lf rg hi hv ef gr by_ ol tn TH TM TE HT x n th tm te ht q H46_3.size har hsy htc htp hrc hlr hx160 hot hzx hco (by omega)) ⟨callB_of 2 hg (gw_ok (fun _ h => h) wd_801) rfl rfl rfl (hg _ wd_6) (hg _ wd_798) (by decide +kernel) ⟨Nat.le_of_ble_eq_true rfl, Nat.le_of_ble_eq_true rfl⟩, hg _ wd_800, hg _ se_M_ruleAt⟩ (mw_preV (va_recv (q0 := 0) hK hF rfl rfl) hPc (pw_c (q := (o, .inr (6, [.int (zI (↑sy)), .ref mA, .ref mR, .ref mW, .int (zI (↑tc)), .ref mC, .ref mS, .int (zI (↑rc)), .ref mL, .ref mT, .ref mH, .ref mY, .ref mE, .ref mG, .ref mB, .ref mO, .int (zI (tw))]))) hF 0 rfl (pw_c (q := (mA, .inl (cI, 5, .inl (zA ar)))) hF 1 rfl (pw_c (q := (mC, .inl (cI, 2608, .inl (zA co)))) hF 2 rfl (pw_c (q := (mS, .inl (cI, 163, .inl (zA (eI sz))))) hF 3 rfl (pw_c (q := (mL, .inl (cI, 8, .inl (zA (eI lf))))) hF 4 rfl (pw_nil)))))) hK hN hDc (apw_c (q := (o, .inr (6, [.int (zI (↑sy)), .ref mA, .ref mR, .ref mW, .int (zI (↑tc)), .ref mC, .ref mS, .int (zI (↑rc)), .ref mL, .ref mT, .ref mH, .ref mY, .ref mE, .ref mG, .ref mB, .ref mO, .int (zI (tw))]))) (apw_f hD [0] rfl (hFA 0 _ rfl)) (apw_c (q := (mA, .inl (cI, 5, .inl (zA ar)))) (apw_f hD [0] rfl (hFA 1 _ rfl)) (apw_c (q := (mC, .inl (cI, 2608, .inl (zA co)))) (apw_f hD [0] rfl (hFA 2 _ rfl)) (apw_c (q := (mS, .inl (cI, 163, .inl (zA (eI sz))))) (apw_f hD [0] rfl (hFA 3 _ rfl)) (apw_c (q := (mL, .inl (cI, 8, .inl (zA (eI lf))))) (apw_f hD [0] rfl (hFA 4 _ rfl)) (apw_nil))))))) rfl rfl hl.1 rfl (lv_room (Nat.le_of_ble_eq_true rfl)) qd_M_placeOf_62 ⟨Nat.le_of_ble_eq_true rfl, Nat.le_of_ble_eq_true rfl⟩) hS (fun q _ h => hFr q h) hFr (fun r62 b4 t9 H62_4 L62_4 ht9 hv9 hr62 hB9 hz9 hk9 hS => ?_)
                  try dsimp only at hr62 hB9
                  obtain ⟨hP, hD⟩ := mw_join (wr := []) (w1 := [(mB, .inl (cI, 4, .inl (zA b4)))]) hP hD [0] [] rfl rfl (by decide) (by decide) hk9 hFr ht9 hB9
                  have hP := hP.sub (ws' := [(mB, .inl (cI, 4, .inl (zA b4)))]) [0] rfl
                  have hD := hD.sub (ws' := [(mB, .inl (cI, 4, .inl (zA b4)))]) [0] (by decide) rfl
                  have hF := fz_keep hF0 hFA hS
                  refine zz_if_ge (tgt := 72) hx hb qd_M_placeOf_65 (by decide) (by rcases hr62 with ⟨z0, z1, z2, _⟩ | ⟨z1, _⟩ <;> omega) (fun h65 => ?_) (fun h65 => ?_)
                  · skip
                    have hin2 : (false = true ↔ ((fun p => ∃ r, r < rc ∧ MA (TH (lf r)) (tn (lf r)) th te p) k ∧ ∀ u, k < u → u < q + 1 → ¬ (fun p => ∃ r, r < rc ∧ MA (TH (lf r)) (tn (lf r)) th te p) u)) := bF (fun z => z.2 q (by omega) (by omega) (hr62.elim (fun ⟨r0, z1, z2, ⟨q9, z3⟩, _⟩ => ⟨r0, z2, q9, b4, z3⟩) (fun z => absurd z.1 (by omega))))
                    refine lv_iconst (v := zI 0) hx hb qd_M_placeOf_72 rfl ?_
                    refine lv_istore (lv' := [(4, .int (zI (bI (false)))), (6, .int (zI (↑q))), (5, .int (zI (↑(te k)))), (3, .int (zI (↑k))), (2, .int (zI (↑(16 * x)))), (0, .ref o), (1, .int (zI (↑x)))]) hx hb qd_M_placeOf_73 hl (by decide) rfl (fun ls hl => ?_)
                    refine lv_iinc (k := 1) (lv' := [(6, .int (zI (↑(q + 1)))), (4, .int (zI (bI (false)))), (5, .int (zI (↑(te k)))), (3, .int (zI (↑k))), (2, .int (zI (↑(16 * x)))), (0, .ref o), (1, .int (zI (↑x)))]) hx hb qd_M_placeOf_75 hl rfl (zI_inc (v := ↑(q + 1)) (by omega)) (by decide) rfl (fun ls hl => ?_)
                    refine lv_goto (tgt := 46) hx hb qd_M_placeOf_78 (by decide) ?_
                    have hl := lv_sub (l' := [(6, .int (zI (↑(q + 1)))), (5, .int (zI (↑(te k)))), (4, .int (zI (bI (false)))), (3, .int (zI (↑k))), (2, .int (zI (↑(16 * x)))), (0, .ref o), (1, .int (zI (↑x)))]) hl [0, 2, 1, 3, 4, 5, 6] rfl
                    exact ih46 _ (by clear hr62; omega) (q + 1) false b4 (by clear hr62; omega) hin2 rfl H62_4 L62_4 hP hD hS ls hl
                  · skip
                    have hin2 : (true = true ↔ ((fun p => ∃ r, r < rc ∧ MA (TH (lf r)) (tn (lf r)) th te p) k ∧ ∀ u, k < u → u < q + 1 → ¬ (fun p => ∃ r, r < rc ∧ MA (TH (lf r)) (tn (lf r)) th te p) u)) := bT ⟨(hin.mp h55).1, fun u a1 a2 => if h8 : u < q then (hin.mp h55).2 u a1 h8 else (by rw [show u = q by omega]; exact fun ⟨r0, z1, z2⟩ => (hr62.elim (fun ⟨k9, z3, _⟩ => by omega) (fun z => z.2)) r0 z1 z2)⟩
                    refine lv_iconst (v := zI 1) hx hb qd_M_placeOf_68 rfl ?_
                    refine lv_goto (tgt := 73) hx hb qd_M_placeOf_69 (by decide) ?_
                    refine lv_istore (lv' := [(4, .int (zI (bI (true)))), (6, .int (zI (↑q))), (5, .int (zI (↑(te k)))), (3, .int (zI (↑k))), (2, .int (zI (↑(16 * x)))), (0, .ref o), (1, .int (zI (↑x)))]) hx hb qd_M_placeOf_73 hl (by decide) rfl (fun ls hl => ?_)
                    refine lv_iinc (k := 1) (lv' := [(6, .int (zI (↑(q + 1)))), (4, .int (zI (bI (true)))), (5, .int (zI (↑(te k)))), (3, .int (zI (↑k))), (2, .int (zI (↑(16 * x)))), (0, .ref o), (1, .int (zI (↑x)))]) hx hb qd_M_placeOf_75 hl rfl (zI_inc (v := ↑(q + 1)) (by omega)) (by decide) rfl (fun ls hl => ?_)
                    refine lv_goto (tgt := 46) hx hb qd_M_placeOf_78 (by decide) ?_
                    have hl := lv_sub (l' := [(6, .int (zI (↑(q + 1)))), (5, .int (zI (↑(te k)))), (4, .int (zI (bI (true)))), (3, .int (zI (↑k))), (2, .int (zI (↑(16 * x)))), (0, .ref o), (1, .int (zI (↑x)))]) hl [0, 2, 1, 3, 4, 5, 6] rfl
                    exact ih46 _ (by clear hr62; omega) (q + 1) true b4 (by clear hr62; omega) hin2 rfl H62_4 L62_4 hP hD hS ls hl
          exact L46 _ (k + 1) false b3 (by omega) hin0 rfl H20_2 L20_2 hP hD hS ls hl
        · skip
          have hin0 : (true = true ↔ ((fun p => ∃ r, r < rc ∧ MA (TH (lf r)) (tn (lf r)) th te p) k ∧ ∀ q, k < q → q < k + 1 → ¬ (fun p => ∃ r, r < rc ∧ MA (TH (lf r)) (tn (lf r)) th te p) q)) := bT ⟨hr20.elim (fun ⟨r0, z1, z2, ⟨q, z3⟩, _⟩ => ⟨r0, z2, q, b3, z3⟩) (fun z => absurd z.1 (by omega)), fun q a1 a2 => by omega⟩
          refine lv_iconst (v := zI 1) hx hb qd_M_placeOf_26 rfl ?_
          refine lv_goto (tgt := 31) hx hb qd_M_placeOf_27 (by decide) ?_
          refine lv_istore (lv' := [(4, .int (zI (bI (true)))), (3, .int (zI (↑k))), (2, .int (zI (↑(16 * x)))), (0, .ref o), (1, .int (zI (↑x)))]) hx hb qd_M_placeOf_31 hl (by decide) rfl (fun ls hl => ?_)
          refine lv_aload_n hx hb qd_M_placeOf_33 rfl (lv_at hl 3 rfl) ?_
          refine lv_iload_n hx hb qd_M_placeOf_34 rfl (lv_at hl 2 rfl) ?_
          refine lv_iload_n hx hb qd_M_placeOf_35 rfl (lv_at hl 1 rfl) ?_
          refine rd_callI (W.runV (As := [.int (zI (↑(16 * x))), .int (zI (↑k))]) (rest := []) ⟨hx, hb, hml, hown, hg⟩ (c_M_end l dC dI cI cZ cT cJ o mA mR mW mC mS mL mT mH mY mE mG mB mO sy tc rc tw ar rk wt co sz lf rg hi hv ef gr bd ol (16 * x) n th tm te k har h16 (by omega) hco htm hh we (by omega)) ⟨callB_of 2 hg (gw_ok (fun _ h => h) wd_713) rfl rfl rfl (hg _ wd_6) (hg _ wd_710) (by decide +kernel) ⟨Nat.le_of_ble_eq_true rfl, Nat.le_of_ble_eq_true rfl⟩, hg _ wd_712, hg _ se_M_end⟩ (rd_preV (va_recv (q0 := 0) hK hF rfl rfl) (pw_c (q := (o, .inr (6, [.int (zI (↑sy)), .ref mA, .ref mR, .ref mW, .int (zI (↑tc)), .ref mC, .ref mS, .int (zI (↑rc)), .ref mL, .ref mT, .ref mH, .ref mY, .ref mE, .ref mG, .ref mB, .ref mO, .int (zI (tw))]))) hF 0 rfl (pw_c (q := (mA, .inl (cI, 5, .inl (zA ar)))) hF 1 rfl (pw_c (q := (mC, .inl (cI, 2608, .inl (zA co)))) hF 2 rfl (pw_nil)))) hK hN) rfl rfl hl.1 rfl (lv_room (Nat.le_of_ble_eq_true rfl)) qd_M_placeOf_36 ⟨Nat.le_of_ble_eq_true rfl, Nat.le_of_ble_eq_true rfl⟩) (fun r36 hr36 => ?_)
          have e36 : r36 = ↑(te k) := hr36
          subst e36
          refine lv_istore (lv' := [(5, .int (zI (↑(te k)))), (4, .int (zI (bI (true)))), (3, .int (zI (↑k))), (2, .int (zI (↑(16 * x)))), (0, .ref o), (1, .int (zI (↑x)))]) hx hb qd_M_placeOf_39 hl (by decide) rfl (fun ls hl => ?_)
          refine lv_iload_n hx hb qd_M_placeOf_41 rfl (lv_at hl 2 rfl) ?_
          refine lv_iconst (v := zI 1) hx hb qd_M_placeOf_42 rfl ?_
          refine zz_iadd hx hb (↑(k + 1)) (by omega) qd_M_placeOf_43 ?_
          refine lv_istore (lv' := [(6, .int (zI (↑(k + 1)))), (5, .int (zI (↑(te k)))), (4, .int (zI (bI (true)))), (3, .int (zI (↑k))), (2, .int (zI (↑(16 * x)))), (0, .ref o), (1, .int (zI (↑x)))]) hx hb qd_M_placeOf_44 hl (by decide) rfl (fun ls hl => ?_)
          have L46 : ∀ (mu46 : Nat) (q : Nat) (ib : Bool) (by_ : Nat → Int), (k + 1 ≤ q ∧ q ≤ te k) → (ib = true ↔ ((fun p => ∃ r, r < rc ∧ MA (TH (lf r)) (tn (lf r)) th te p) k ∧ ∀ u, k < u → u < q → ¬ (fun p => ∃ r, r < rc ∧ MA (TH (lf r)) (tn (lf r)) th te p) u)) → te k - q = mu46 → ∀ (H46_5 : Heap) (L46_5 : List Loc), va_P (dC, dI) qcl [(mB, .inl (cI, 4, .inl (zA by_)))] H46_5 → va_D A [(mB, .inl (cI, 4, .inl (zA by_)))] → va_S A sg.heap H46_5 L46_5 → ∀ ls : Array Slot, lv_has ls 7 [(6, .int (zI (↑q))), (5, .int (zI (↑(te k)))), (4, .int (zI (bI (ib)))), (3, .int (zI (↑k))), (2, .int (zI (↑(16 * x)))), (0, .ref o), (1, .int (zI (↑x)))] → W pg l eg (headSpec qw_M_placeOf ({ frames := 5, cells := 0, slots := 0, locals := 122 })).room sg mg ([.ref o, .int (zI (↑x))] : List Value).toArray below meth cg H46_5 L46_5 0 0 (MQ below (mwI (S := (Nat → Int)) (fun r uq => (∃ k : Nat, r = ↑k ∧ inF (fun p => ∃ r, r < rc ∧ MA (TH (lf r)) (tn (lf r)) th te p) te n k) ∨ (r = -1 ∧ ∀ k, k < n → ¬ (fun p => ∃ r, r < rc ∧ MA (TH (lf r)) (tn (lf r)) th te p) k)) (fun uq tq => mwB (dC, dI) qcl (qty cI cZ cT cJ) A [(mB, .inl (cI, 4, .inl (zA uq)))] tq) A) ([.ref o, .int (zI (↑x))] : List Value).toArray sg 0 0 A) (F0 mg 46 ls []) := by
            intro mu46
            induction mu46 using Nat.strongRecOn with
            | _ mu46 ih46 =>
              intro q ib by_ hq8 hin hmu46 H46_5 L46_5 hP hD hS ls hl
              have hF := fz_keep hF0 hFA hS
              refine lv_iload hx hb qd_M_placeOf_46 (lv_at hl 0 rfl) ?_
              refine lv_iload hx hb qd_M_placeOf_48 (lv_at hl 1 rfl) ?_
              refine zz_icmp_ge (tgt := 81) hx hb qd_M_placeOf_50 (by decide) (by omega) (by omega) (fun h50 => ?_) (fun h50 => ?_)
              · skip
                have hfin : ib = true ↔ inn (fun p => ∃ r, r < rc ∧ MA (TH (lf r)) (tn (lf r)) th te p) te k := hin.trans (by rw [show q = te k by omega]; exact Iff.rfl)
                refine lv_iload hx hb qd_M_placeOf_81 (lv_at hl 2 rfl) ?_
                refine zz_ifeqB (tgt := 88) hx hb qd_M_placeOf_83 (by decide) (fun h83 => ?_) (fun h83 => ?_)
                · skip
                  have hnx : ¬ inn (fun p => ∃ r, r < rc ∧ MA (TH (lf r)) (tn (lf r)) th te p) te k := fun z => by rw [hfin.mpr z] at h83; exact Bool.noConfusion h83
                  refine lv_iinc (k := 3) (lv' := [(3, .int (zI (↑(k + 1)))), (6, .int (zI (↑q))), (5, .int (zI (↑(te k)))), (4, .int (zI (bI (ib)))), (2, .int (zI (↑(16 * x)))), (0, .ref o), (1, .int (zI (↑x)))]) hx hb qd_M_placeOf_88 hl rfl (zI_inc (v := ↑(k + 1)) (by omega)) (by decide) rfl (fun ls hl => ?_)
                  refine lv_goto (tgt := 7) hx hb qd_M_placeOf_91 (by decide) ?_
                  have hl := lv_sub (l' := [(3, .int (zI (↑(k + 1)))), (2, .int (zI (↑(16 * x)))), (0, .ref o), (1, .int (zI (↑x)))]) hl [0, 4, 5, 6] rfl
                  exact ih7 _ (mu_s hmu7 hkn) (k + 1) by_ hkn (fun j hj => if h8 : j < k then hz j h8 else (by rw [show j = k by omega]; exact hnx)) rfl H46_5 L46_5 hP hD hS ls hl
                · skip
                  have hyes := hfin.mp h83
                  refine lv_iload_n hx hb qd_M_placeOf_86 rfl (lv_at hl 3 rfl) ?_
                  exact W.iret (v := zI (↑k)) hx hb hr (fun t9 ht9 hW9 => ⟨⟨↑k, by_, rfl, (Or.inl ⟨k, rfl, by omega, hyes, hz⟩), mwB_i (by rw [ht9]; exact hP) (va_K.moved hW9.alike hK) hD⟩, hS.F ht9⟩) hS.2.2 qd_M_placeOf_87
              · skip
                refine lv_iload hx hb qd_M_placeOf_53 (lv_at hl 2 rfl) ?_
                refine zz_ifeqB (tgt := 81) hx hb qd_M_placeOf_55 (by decide) (fun h55 => ?_) (fun h55 => ?_)
                · skip
                  have hfin : ib = true ↔ inn (fun p => ∃ r, r < rc ∧ MA (TH (lf r)) (tn (lf r)) th te p) te k := ⟨fun z => by rw [z] at h55; exact Bool.noConfusion h55, fun z => absurd (hin.mpr ⟨z.1, fun u a1 a2 => z.2 u a1 (by omega)⟩) (by rw [h55]; exact Bool.noConfusion)⟩
                  refine lv_iload hx hb qd_M_placeOf_81 (lv_at hl 2 rfl) ?_
                  refine zz_ifeqB (tgt := 88) hx hb qd_M_placeOf_83 (by decide) (fun h83 => ?_) (fun h83 => ?_)
                  · skip
                    have hnx : ¬ inn (fun p => ∃ r, r < rc ∧ MA (TH (lf r)) (tn (lf r)) th te p) te k := fun z => by rw [hfin.mpr z] at h83; exact Bool.noConfusion h83
                    refine lv_iinc (k := 3) (lv' := [(3, .int (zI (↑(k + 1)))), (6, .int (zI (↑q))), (5, .int (zI (↑(te k)))), (4, .int (zI (bI (ib)))), (2, .int (zI (↑(16 * x)))), (0, .ref o), (1, .int (zI (↑x)))]) hx hb qd_M_placeOf_88 hl rfl (zI_inc (v := ↑(k + 1)) (by omega)) (by decide) rfl (fun ls hl => ?_)
                    refine lv_goto (tgt := 7) hx hb qd_M_placeOf_91 (by decide) ?_
                    have hl := lv_sub (l' := [(3, .int (zI (↑(k + 1)))), (2, .int (zI (↑(16 * x)))), (0, .ref o), (1, .int (zI (↑x)))]) hl [0, 4, 5, 6] rfl
                    exact ih7 _ (mu_s hmu7 hkn) (k + 1) by_ hkn (fun j hj => if h8 : j < k then hz j h8 else (by rw [show j = k by omega]; exact hnx)) rfl H46_5 L46_5 hP hD hS ls hl
                  · skip
                    have hyes := hfin.mp h83
                    refine lv_iload_n hx hb qd_M_placeOf_86 rfl (lv_at hl 3 rfl) ?_
                    exact W.iret (v := zI (↑k)) hx hb hr (fun t9 ht9 hW9 => ⟨⟨↑k, by_, rfl, (Or.inl ⟨k, rfl, by omega, hyes, hz⟩), mwB_i (by rw [ht9]; exact hP) (va_K.moved hW9.alike hK) hD⟩, hS.F ht9⟩) hS.2.2 qd_M_placeOf_87
                · skip
                  refine lv_aload_n hx hb qd_M_placeOf_58 rfl (lv_at hl 5 rfl) ?_
                  refine lv_iload_n hx hb qd_M_placeOf_59 rfl (lv_at hl 4 rfl) ?_
                  refine lv_iload hx hb qd_M_placeOf_60 (lv_at hl 0 rfl) ?_
                  have hPc := hP.sub (ws' := [(mB, .inl (cI, 4, .inl (zA by_)))]) [0] rfl
                  have hDc := hD.sub (ws' := [(mB, .inl (cI, 4, .inl (zA by_)))]) [0] (by decide) rfl
                  have hFr := va_free (wc := [(mB, .inl (cI, 4, .inl (zA by_)))]) hD hS hA [0] rfl
                  refine mw_callI (va_runV (As := [.int (zI (↑(16 * x))), .int (zI (↑q))]) (rest := []) ⟨hx, hb, hml, hown, hg⟩ (c_M_ruleAt l dC dI cI cZ cT cJ o mA mR mW mC mS mL mT mH mY mE mG mB mO sy tc rc tw ar rk wt co sz lf rg hi hv ef gr by_ ol tn TH TM TE HT x n th tm te ht q H46_5.size har hsy htc htp hrc hlr hx160 hot hzx hco (by omega)) ⟨callB_of 2 hg (gw_ok (fun _ h => h) wd_801) rfl rfl rfl (hg _ wd_6) (hg _ wd_798) (by decide +kernel) ⟨Nat.le_of_ble_eq_true rfl, Nat.le_of_ble_eq_true rfl⟩, hg _ wd_800, hg _ se_M_ruleAt⟩ (mw_preV (va_recv (q0 := 0) hK hF rfl rfl) hPc (pw_c (q := (o, .inr (6, [.int (zI (↑sy)), .ref mA, .ref mR, .ref mW, .int (zI (↑tc)), .ref mC, .ref mS, .int (zI (↑rc)), .ref mL, .ref mT, .ref mH, .ref mY, .ref mE, .ref mG, .ref mB, .ref mO, .int (zI (tw))]))) hF 0 rfl (pw_c (q := (mA, .inl (cI, 5, .inl (zA ar)))) hF 1 rfl (pw_c (q := (mC, .inl (cI, 2608, .inl (zA co)))) hF 2 rfl (pw_c (q := (mS, .inl (cI, 163, .inl (zA (eI sz))))) hF 3 rfl (pw_c (q := (mL, .inl (cI, 8, .inl (zA (eI lf))))) hF 4 rfl (pw_nil)))))) hK hN hDc (apw_c (q := (o, .inr (6, [.int (zI (↑sy)), .ref mA, .ref mR, .ref mW, .int (zI (↑tc)), .ref mC, .ref mS, .int (zI (↑rc)), .ref mL, .ref mT, .ref mH, .ref mY, .ref mE, .ref mG, .ref mB, .ref mO, .int (zI (tw))]))) (apw_f hD [0] rfl (hFA 0 _ rfl)) (apw_c (q := (mA, .inl (cI, 5, .inl (zA ar)))) (apw_f hD [0] rfl (hFA 1 _ rfl)) (apw_c (q := (mC, .inl (cI, 2608, .inl (zA co)))) (apw_f hD [0] rfl (hFA 2 _ rfl)) (apw_c (q := (mS, .inl (cI, 163, .inl (zA (eI sz))))) (apw_f hD [0] rfl (hFA 3 _ rfl)) (apw_c (q := (mL, .inl (cI, 8, .inl (zA (eI lf))))) (apw_f hD [0] rfl (hFA 4 _ rfl)) (apw_nil))))))) rfl rfl hl.1 rfl (lv_room (Nat.le_of_ble_eq_true rfl)) qd_M_placeOf_62 ⟨Nat.le_of_ble_eq_true rfl, Nat.le_of_ble_eq_true rfl⟩) hS (fun q _ h => hFr q h) hFr (fun r62 b4 t9 H62_6 L62_6 ht9 hv9 hr62 hB9 hz9 hk9 hS => ?_)
                  try dsimp only at hr62 hB9
                  obtain ⟨hP, hD⟩ := mw_join (wr := []) (w1 := [(mB, .inl (cI, 4, .inl (zA b4)))]) hP hD [0] [] rfl rfl (by decide) (by decide) hk9 hFr ht9 hB9
                  have hP := hP.sub (ws' := [(mB, .inl (cI, 4, .inl (zA b4)))]) [0] rfl
                  have hD := hD.sub (ws' := [(mB, .inl (cI, 4, .inl (zA b4)))]) [0] (by decide) rfl
                  have hF := fz_keep hF0 hFA hS
                  refine zz_if_ge (tgt := 72) hx hb qd_M_placeOf_65 (by decide) (by rcases hr62 with ⟨z0, z1, z2, _⟩ | ⟨z1, _⟩ <;> omega) (fun h65 => ?_) (fun h65 => ?_)
                  · skip
                    have hin2 : (false = true ↔ ((fun p => ∃ r, r < rc ∧ MA (TH (lf r)) (tn (lf r)) th te p) k ∧ ∀ u, k < u → u < q + 1 → ¬ (fun p => ∃ r, r < rc ∧ MA (TH (lf r)) (tn (lf r)) th te p) u)) := bF (fun z => z.2 q (by omega) (by omega) (hr62.elim (fun ⟨r0, z1, z2, ⟨q9, z3⟩, _⟩ => ⟨r0, z2, q9, b4, z3⟩) (fun z => absurd z.1 (by omega))))
                    refine lv_iconst (v := zI 0) hx hb qd_M_placeOf_72 rfl ?_
                    refine lv_istore (lv' := [(4, .int (zI (bI (false)))), (6, .int (zI (↑q))), (5, .int (zI (↑(te k)))), (3, .int (zI (↑k))), (2, .int (zI (↑(16 * x)))), (0, .ref o), (1, .int (zI (↑x)))]) hx hb qd_M_placeOf_73 hl (by decide) rfl (fun ls hl => ?_)
                    refine lv_iinc (k := 1) (lv' := [(6, .int (zI (↑(q + 1)))), (4, .int (zI (bI (false)))), (5, .int (zI (↑(te k)))), (3, .int (zI (↑k))), (2, .int (zI (↑(16 * x)))), (0, .ref o), (1, .int (zI (↑x)))]) hx hb qd_M_placeOf_75 hl rfl (zI_inc (v := ↑(q + 1)) (by omega)) (by decide) rfl (fun ls hl => ?_)
                    refine lv_goto (tgt := 46) hx hb qd_M_placeOf_78 (by decide) ?_
                    have hl := lv_sub (l' := [(6, .int (zI (↑(q + 1)))), (5, .int (zI (↑(te k)))), (4, .int (zI (bI (false)))), (3, .int (zI (↑k))), (2, .int (zI (↑(16 * x)))), (0, .ref o), (1, .int (zI (↑x)))]) hl [0, 2, 1, 3, 4, 5, 6] rfl
                    exact ih46 _ (by clear hr62; omega) (q + 1) false b4 (by clear hr62; omega) hin2 rfl H62_6 L62_6 hP hD hS ls hl
                  · skip
                    have hin2 : (true = true ↔ ((fun p => ∃ r, r < rc ∧ MA (TH (lf r)) (tn (lf r)) th te p) k ∧ ∀ u, k < u → u < q + 1 → ¬ (fun p => ∃ r, r < rc ∧ MA (TH (lf r)) (tn (lf r)) th te p) u)) := bT ⟨(hin.mp h55).1, fun u a1 a2 => if h8 : u < q then (hin.mp h55).2 u a1 h8 else (by rw [show u = q by omega]; exact fun ⟨r0, z1, z2⟩ => (hr62.elim (fun ⟨k9, z3, _⟩ => by omega) (fun z => z.2)) r0 z1 z2)⟩
                    refine lv_iconst (v := zI 1) hx hb qd_M_placeOf_68 rfl ?_
                    refine lv_goto (tgt := 73) hx hb qd_M_placeOf_69 (by decide) ?_
                    refine lv_istore (lv' := [(4, .int (zI (bI (true)))), (6, .int (zI (↑q))), (5, .int (zI (↑(te k)))), (3, .int (zI (↑k))), (2, .int (zI (↑(16 * x)))), (0, .ref o), (1, .int (zI (↑x)))]) hx hb qd_M_placeOf_73 hl (by decide) rfl (fun ls hl => ?_)
                    refine lv_iinc (k := 1) (lv' := [(6, .int (zI (↑(q + 1)))), (4, .int (zI (bI (true)))), (5, .int (zI (↑(te k)))), (3, .int (zI (↑k))), (2, .int (zI (↑(16 * x)))), (0, .ref o), (1, .int (zI (↑x)))]) hx hb qd_M_placeOf_75 hl rfl (zI_inc (v := ↑(q + 1)) (by omega)) (by decide) rfl (fun ls hl => ?_)
                    refine lv_goto (tgt := 46) hx hb qd_M_placeOf_78 (by decide) ?_
                    have hl := lv_sub (l' := [(6, .int (zI (↑(q + 1)))), (5, .int (zI (↑(te k)))), (4, .int (zI (bI (true)))), (3, .int (zI (↑k))), (2, .int (zI (↑(16 * x)))), (0, .ref o), (1, .int (zI (↑x)))]) hl [0, 2, 1, 3, 4, 5, 6] rfl
                    exact ih46 _ (by clear hr62; omega) (q + 1) true b4 (by clear hr62; omega) hin2 rfl H62_6 L62_6 hP hD hS ls hl
          exact L46 _ (k + 1) true b3 (by omega) hin0 rfl H20_2 L20_2 hP hD hS ls hl
  exact L7 _ 0 bd (by omega) (fun j hj => by omega) rfl sg.heap [] hP hD hS ls hl
