theorem bo_cg {ord : Int} {rk wt : Nat → Int} {h1 : Nat → Int} {e1 : Nat → Nat} {m1 : Nat → Int} {n1 : Nat} {h2 : Nat → Int} {e2 : Nat → Nat} {m2 : Nat → Int} {n2 : Nat} (w1 : wfE m1 n1 e1) (w2 : wfE m2 n2 e2) (hm : ∀ i j, i < n1 → j < n2 → h1 i = h2 j → m1 i = m2 j) : cgB n1 n2 (fun G i j => (ord = 0 → paP G rk h1 e1 m1 i h2 e2 m2 j) ∧ (ord ≠ 0 → weP G rk wt h1 e1 m1 i h2 e2 j)) := by
  intro i j G G' hi hj h
  have a := paP_cg (rk := rk) w1 w2 hm i j G G' hi hj h
  have b := weP_cg (rk := rk) (wt := wt) w1 w2 hm i j G G' hi hj h
  exact ⟨fun z => ⟨fun q => a.mp (z.1 q), fun q => b.mp (z.2 q)⟩, fun z => ⟨fun q => a.mpr (z.1 q), fun q => b.mpr (z.2 q)⟩⟩
theorem bo_gt {ord : Int} {rk wt : Nat → Int} {h1 : Nat → Int} {e1 : Nat → Nat} {m1 : Nat → Int} {n1 : Nat} {h2 : Nat → Int} {e2 : Nat → Nat} {m2 : Nat → Int} {n2 : Nat} (w1 : wfE m1 n1 e1) (w2 : wfE m2 n2 e2) (hm : ∀ i j, i < n1 → j < n2 → h1 i = h2 j → m1 i = m2 j) (z1 : 0 < n1) (z2 : 0 < n2) {G : Nat → Nat → Prop} (h : rcB n1 n2 (fun G i j => (ord = 0 → paP G rk h1 e1 m1 i h2 e2 m2 j) ∧ (ord ≠ 0 → weP G rk wt h1 e1 m1 i h2 e2 j)) G) : gtO ord rk wt h1 e1 m1 n1 h2 e2 m2 n2 ↔ G 0 0 := by
  by_cases ho : ord = 0
  · have h' : rcB n1 n2 (fun G i j => paP G rk h1 e1 m1 i h2 e2 m2 j) G := fun i j hi hj => (h i j hi hj).trans ⟨fun z => z.1 ho, fun z => ⟨fun _ => z, fun q => absurd ho q⟩⟩
    exact Iff.trans ⟨fun z => z.1 ho, fun z => ⟨fun _ => z, fun q => absurd ho q⟩⟩ (gtP_of w1 w2 hm z1 z2 h')
  · have h' : rcB n1 n2 (fun G i j => weP G rk wt h1 e1 m1 i h2 e2 j) G := fun i j hi hj => (h i j hi hj).trans ⟨fun z => z.2 ho, fun z => ⟨fun q => absurd q ho, fun _ => z⟩⟩
    exact Iff.trans ⟨fun z => z.2 ho, fun z => ⟨fun q => absurd q ho, fun _ => z⟩⟩ (gtW_of w1 w2 hm z1 z2 h')
theorem ds_iff {n w : Nat} : ds n w = true ↔ ∀ u, u < n → ∀ v, v < u → dg n w v ≠ dg n w u := by
  unfold ds
  rw [List.all_eq_true]
  constructor
  · intro h u hu v hv
    have h1 := h u (List.mem_range.mpr hu)
    rw [List.all_eq_true] at h1
    have h2 := h1 v (List.mem_range.mpr hv)
    simpa using h2
  · intro h u hu
    rw [List.all_eq_true]
    intro v hv
    have := h u (List.mem_range.mp hu) v (List.mem_range.mp hv)
    simpa using this
set_option maxHeartbeats 4000000 in
set_option maxRecDepth 100000 in
theorem c_M_isGreater (l : Launch) (dC : Nat → ClassId) (dI : Nat → Nat → Nat) (cI cZ cT cJ : ClassId) (o mA mR mW mC mS mL mT mH mY mE mG mB mO sy tc rc : Nat) (tw : Int) (ar rk wt co : Nat → Int) (sz lf rg : Nat → Nat) (hi hv : Nat → Int) (ef : Nat → Nat) (gr : Nat → Bool) (bd ol : Nat → Int) (x y : Nat) (n : Nat) (th tm : Nat → Int) (te : Nat → Nat) (n2 : Nat) (th2 tm2 : Nat → Int) (te2 : Nat → Nat) (ord : Int) (zh : Nat) (har : ∀ q, q < 5 → 0 ≤ ar q ∧ ar q ≤ 3) (hrk : ∀ q, q < 5 → 0 ≤ rk q ∧ rk q ≤ 4) (hwt : ∀ q, q < 5 → 0 ≤ wt q ∧ wt q ≤ 9) (hx160 : x < 160) (hy160 : y < 160) (h16 : n ≤ 16) (hz0 : sz x = n) (hco : ∀ q, q < n → co (16 * x + q) = th q) (htm : ∀ q, q < n → tm q = mny ar (th q)) (hh : ∀ q, q < n → -4 ≤ th q ∧ th q ≤ 4) (we : wfE tm n te) (hn0 : 0 < n) (h162 : n2 ≤ 16) (hz02 : sz y = n2) (hco2 : ∀ q, q < n2 → co (16 * y + q) = th2 q) (htm2 : ∀ q, q < n2 → tm2 q = mny ar (th2 q)) (hh2 : ∀ q, q < n2 → -4 ≤ th2 q ∧ th2 q ≤ 4) (we2 : wfE tm2 n2 te2) (hn02 : 0 < n2) (hor : ord = 0 ∨ ord = 1) : Met l qy_M_isGreater qw_M_isGreater ({ frames := 5, cells := 0, slots := 0, locals := 127 }) (mwP (dC, dI) qcl (qty cI cZ cT cJ) nwL [(mE, .inl (cI, 32, .inl (zA (eI ef)))), (mY, .inl (cI, 32, .inl (zA hv))), (mG, .inl (cZ, 256, .inl (zB gr)))] [(o, .inr (6, [.int (zI (↑sy)), .ref mA, .ref mR, .ref mW, .int (zI (↑tc)), .ref mC, .ref mS, .int (zI (↑rc)), .ref mL, .ref mT, .ref mH, .ref mY, .ref mE, .ref mG, .ref mB, .ref mO, .int (zI (tw))])), (mA, .inl (cI, 5, .inl (zA ar))), (mR, .inl (cI, 5, .inl (zA rk))), (mW, .inl (cI, 5, .inl (zA wt))), (mC, .inl (cI, 2608, .inl (zA co))), (mS, .inl (cI, 163, .inl (zA (eI sz))))] zh [.ref o, .int (zI (ord)), .int (zI (↑x)), .int (zI (↑y))]) (mwO (S := (Nat → Nat) × (Nat → Int) × (Nat → Bool)) (fun r uq => r = true ↔ gtO ord rk wt th te tm n th2 te2 tm2 n2) (fun uq tq => mwB (dC, dI) qcl (qty cI cZ cT cJ) (va_A [(mE, .inl (cI, 32, .inl (zA (eI ef)))), (mY, .inl (cI, 32, .inl (zA hv))), (mG, .inl (cZ, 256, .inl (zB gr)))] zh) [(mE, .inl (cI, 32, .inl (zA (eI uq.1)))), (mY, .inl (cI, 32, .inl (zA uq.2.1))), (mG, .inl (cZ, 256, .inl (zB uq.2.2)))] tq) (va_A [(mE, .inl (cI, 32, .inl (zA (eI ef)))), (mY, .inl (cI, 32, .inl (zA hv))), (mG, .inl (cZ, 256, .inl (zB gr)))] zh)) 0 0 (va_A [(mE, .inl (cI, 32, .inl (zA (eI ef)))), (mY, .inl (cI, 32, .inl (zA hv))), (mG, .inl (cZ, 256, .inl (zB gr)))] zh) := by
  refine Met.ofW (cc := qc_M_isGreater) (maxL := 8) (ret := (Option.some Jvm.ClassFile.FieldType.boolean)) (by decide) rfl ?_
  intro pg eg sg mg args below meth cg s₁ B hml hv
  obtain ⟨rfl, hsz, hP, hF0, hK, hN, hD0, hap⟩ := hv
  have hx := B.exec
  have hb := B.bytes
  have hr := B.returns
  have hts := atoms_spec (ws := qw_M_isGreater) B.pre
  have hg : ∀ w ∈ gw, w.before _ sg = true := fun w h => hts w (List.mem_cons_of_mem _ h)
  have hown : sg.vm.findClass "TermOrdersModel" = some mg.cls := findClass_of_methodNamed B.named
  have hlocks := B.notSynchronized
  have hl := lv_entry ([.ref o, .int (zI (ord)), .int (zI (↑x)), .int (zI (↑y))]) (n := 8) (Nat.le_of_ble_eq_true rfl)
  rw [lg_entry_eq]
  generalize (lg_sl ([.ref o, .int (zI (ord)), .int (zI (↑x)), .int (zI (↑y))]) ++ List.replicate (8 - (lg_sl ([.ref o, .int (zI (ord)), .int (zI (↑x)), .int (zI (↑y))])).length) Slot.unset).toArray = ls at hl ⊢
  subst hsz
  have hD := hD0.self (sz := sg.heap.size)
  have hFA := apw_A hap (fun k q hk => (hF0 k q hk).lt)
  generalize hAe : va_A [(mE, .inl (cI, 32, .inl (zA (eI ef)))), (mY, .inl (cI, 32, .inl (zA hv))), (mG, .inl (cZ, 256, .inl (zB gr)))] sg.heap.size = A at hD hFA ⊢
  have hA : ∀ q : Nat, sg.heap.size ≤ q → A q := fun q h => by rw [← hAe]; exact Or.inr h
  have hS : va_S A sg.heap sg.heap [] := va_S.rf
  have hF := hF0
  have hl : lv_has ls 8 [(0, .ref o), (1, .int (zI (ord))), (2, .int (zI (↑x))), (3, .int (zI (↑y)))] := hl
  have hmm : ∀ i j, i < n → j < n2 → th i = th2 j → tm i = tm2 j := fun i j hi hj he => by rw [htm i hi, htm2 j hj, he]
  have hcg : cgB n n2 (fun G i j => (ord = 0 → paP G rk th te tm i th2 te2 tm2 j) ∧ (ord ≠ 0 → weP G rk wt th te tm i th2 te2 j)) := bo_cg we we2 hmm
  refine lv_bipush (v := zI 16) hx hb qd_M_isGreater_0 (by decide) ?_
  refine lv_iload_n hx hb qd_M_isGreater_2 rfl (lv_at hl 2 rfl) ?_
  refine zz_imul hx hb (↑(16 * x)) (by omega) qd_M_isGreater_3 ?_
  refine lv_istore (lv' := [(4, .int (zI (↑(16 * x)))), (0, .ref o), (1, .int (zI (ord))), (2, .int (zI (↑x))), (3, .int (zI (↑y)))]) hx hb qd_M_isGreater_4 hl (by decide) rfl (fun ls hl => ?_)
  refine lv_bipush (v := zI 16) hx hb qd_M_isGreater_6 (by decide) ?_
  refine lv_iload_n hx hb qd_M_isGreater_8 rfl (lv_at hl 4 rfl) ?_
  refine zz_imul hx hb (↑(16 * y)) (by omega) qd_M_isGreater_9 ?_
  refine lv_istore (lv' := [(5, .int (zI (↑(16 * y)))), (4, .int (zI (↑(16 * x)))), (0, .ref o), (1, .int (zI (ord))), (2, .int (zI (↑x))), (3, .int (zI (↑y)))]) hx hb qd_M_isGreater_10 hl (by decide) rfl (fun ls hl => ?_)
  refine lv_iconst (v := zI 0) hx hb qd_M_isGreater_12 rfl ?_
  refine lv_istore (lv' := [(6, .int (zI (0))), (5, .int (zI (↑(16 * y)))), (4, .int (zI (↑(16 * x)))), (0, .ref o), (1, .int (zI (ord))), (2, .int (zI (↑x))), (3, .int (zI (↑y)))]) hx hb qd_M_isGreater_13 hl (by decide) rfl (fun ls hl => ?_)
  have L15 : ∀ (d9 : Nat) (i : Nat) (ez : Nat → Nat) (hz : Nat → Int), (i ≤ n) → (∀ q, q < i → ez q = te q ∧ hz q = wsum th wt q (te q - q)) → n - i = d9 → ∀ (H15_1 : Heap) (L15_1 : List Loc), va_P (dC, dI) qcl [(mE, .inl (cI, 32, .inl (zA (eI ez)))), (mY, .inl (cI, 32, .inl (zA hz))), (mG, .inl (cZ, 256, .inl (zB gr)))] H15_1 → va_D A [(mE, .inl (cI, 32, .inl (zA (eI ez)))), (mY, .inl (cI, 32, .inl (zA hz))), (mG, .inl (cZ, 256, .inl (zB gr)))] → va_S A sg.heap H15_1 L15_1 → ∀ ls : Array Slot, lv_has ls 8 [(6, .int (zI (↑i))), (5, .int (zI (↑(16 * y)))), (4, .int (zI (↑(16 * x)))), (0, .ref o), (1, .int (zI (ord))), (2, .int (zI (↑x))), (3, .int (zI (↑y)))] → W pg l eg (headSpec qw_M_isGreater ({ frames := 5, cells := 0, slots := 0, locals := 127 })).room sg mg ([.ref o, .int (zI (ord)), .int (zI (↑x)), .int (zI (↑y))] : List Value).toArray below meth cg H15_1 L15_1 0 0 (MQ below (mwO (S := (Nat → Nat) × (Nat → Int) × (Nat → Bool)) (fun r uq => r = true ↔ gtO ord rk wt th te tm n th2 te2 tm2 n2) (fun uq tq => mwB (dC, dI) qcl (qty cI cZ cT cJ) A [(mE, .inl (cI, 32, .inl (zA (eI uq.1)))), (mY, .inl (cI, 32, .inl (zA uq.2.1))), (mG, .inl (cZ, 256, .inl (zB uq.2.2)))] tq) A) ([.ref o, .int (zI (ord)), .int (zI (↑x)), .int (zI (↑y))] : List Value).toArray sg 0 0 A) (F0 mg 15 ls []) := by
    intro d9
    induction d9 using Nat.strongRecOn with
    | _ d9 ih15 =>
      intro i ez hz hi8 hE hd9 H15_1 L15_1 hP hD hS ls hl
      have hF := fz_keep hF0 hFA hS
      refine lv_iload hx hb qd_M_isGreater_15 (lv_at hl 0 rfl) ?_
      refine lv_aload_n hx hb qd_M_isGreater_17 rfl (lv_at hl 3 rfl) ?_
      refine va_get (D := (dC, dI)) (ci := 6) (v := .ref mS) (C := "TermOrdersModel") (T := qT_M) (N := 17) hx hb hg qi_M hown hK hF 0 rfl rfl 6 (by decide) (hg _ wd_624) (fun _ h9 => h9) rfl qd_M_isGreater_18 ?_
      refine lv_iload_n hx hb qd_M_isGreater_21 rfl (lv_at hl 5 rfl) ?_
      refine zz_eald hx hb hK hF 5 0 rfl rfl x rfl (by omega) (by omega) qd_M_isGreater_22 ?_
      refine zz_top (b := ↑n) (by omega) ?_
      refine zz_icmp_ge (tgt := 69) hx hb qd_M_isGreater_23 (by decide) (by omega) (by omega) (fun h23 => ?_) (fun h23 => ?_)
      · skip
        have hE1 : ∀ q, q < n → ez q = te q ∧ hz q = wsum th wt q (te q - q) := fun q hq => hE q (by omega)
        refine lv_iconst (v := zI 0) hx hb qd_M_isGreater_69 rfl ?_
        refine lv_istore (lv' := [(6, .int (zI (0))), (5, .int (zI (↑(16 * y)))), (4, .int (zI (↑(16 * x)))), (0, .ref o), (1, .int (zI (ord))), (2, .int (zI (↑x))), (3, .int (zI (↑y)))]) hx hb qd_M_isGreater_70 hl (by decide) rfl (fun ls hl => ?_)
        have L72 : ∀ (d9 : Nat) (i : Nat) (ez : Nat → Nat) (hz : Nat → Int), (i ≤ n2) → (∀ q, q < n → ez q = te q ∧ hz q = wsum th wt q (te q - q)) → (∀ q, q < i → ez (16 + q) = te2 q ∧ hz (16 + q) = wsum th2 wt q (te2 q - q)) → n2 - i = d9 → ∀ (H72_2 : Heap) (L72_2 : List Loc), va_P (dC, dI) qcl [(mE, .inl (cI, 32, .inl (zA (eI ez)))), (mY, .inl (cI, 32, .inl (zA hz))), (mG, .inl (cZ, 256, .inl (zB gr)))] H72_2 → va_D A [(mE, .inl (cI, 32, .inl (zA (eI ez)))), (mY, .inl (cI, 32, .inl (zA hz))), (mG, .inl (cZ, 256, .inl (zB gr)))] → va_S A sg.heap H72_2 L72_2 → ∀ ls : Array Slot, lv_has ls 8 [(6, .int (zI (↑i))), (5, .int (zI (↑(16 * y)))), (4, .int (zI (↑(16 * x)))), (0, .ref o), (1, .int (zI (ord))), (2, .int (zI (↑x))), (3, .int (zI (↑y)))] → W pg l eg (headSpec qw_M_isGreater ({ frames := 5, cells := 0, slots := 0, locals := 127 })).room sg mg ([.ref o, .int (zI (ord)), .int (zI (↑x)), .int (zI (↑y))] : List Value).toArray below meth cg H72_2 L72_2 0 0 (MQ below (mwO (S := (Nat → Nat) × (Nat → Int) × (Nat → Bool)) (fun r uq => r = true ↔ gtO ord rk wt th te tm n th2 te2 tm2 n2) (fun uq tq => mwB (dC, dI) qcl (qty cI cZ cT cJ) A [(mE, .inl (cI, 32, .inl (zA (eI uq.1)))), (mY, .inl (cI, 32, .inl (zA uq.2.1))), (mG, .inl (cZ, 256, .inl (zB uq.2.2)))] tq) A) ([.ref o, .int (zI (ord)), .int (zI (↑x)), .int (zI (↑y))] : List Value).toArray sg 0 0 A) (F0 mg 72 ls []) := by
          intro d9
          induction d9 using Nat.strongRecOn with
          | _ d9 ih72 =>
            intro i ez hz hi8 hE1 hE hd9 H72_2 L72_2 hP hD hS ls hl
            have hF := fz_keep hF0 hFA hS
            refine lv_iload hx hb qd_M_isGreater_72 (lv_at hl 0 rfl) ?_
            refine lv_aload_n hx hb qd_M_isGreater_74 rfl (lv_at hl 3 rfl) ?_
            refine va_get (D := (dC, dI)) (ci := 6) (v := .ref mS) (C := "TermOrdersModel") (T := qT_M) (N := 17) hx hb hg qi_M hown hK hF 0 rfl rfl 6 (by decide) (hg _ wd_624) (fun _ h9 => h9) rfl qd_M_isGreater_75 ?_
            refine lv_iload_n hx hb qd_M_isGreater_78 rfl (lv_at hl 6 rfl) ?_
            refine zz_eald hx hb hK hF 5 0 rfl rfl y rfl (by omega) (by omega) qd_M_isGreater_79 ?_
            refine zz_top (b := ↑n2) (by omega) ?_
            refine zz_icmp_ge (tgt := 135) hx hb qd_M_isGreater_80 (by decide) (by omega) (by omega) (fun h80 => ?_) (fun h80 => ?_)
            · skip
              have hE2 : ∀ q, q < n2 → ez (16 + q) = te2 q ∧ hz (16 + q) = wsum th2 wt q (te2 q - q) := fun q hq => hE q (by omega)
              refine lv_aload_n hx hb qd_M_isGreater_135 rfl (lv_at hl 3 rfl) ?_
              refine va_get (D := (dC, dI)) (ci := 6) (v := .ref mS) (C := "TermOrdersModel") (T := qT_M) (N := 17) hx hb hg qi_M hown hK hF 0 rfl rfl 6 (by decide) (hg _ wd_624) (fun _ h9 => h9) rfl qd_M_isGreater_136 ?_
              refine lv_iload_n hx hb qd_M_isGreater_139 rfl (lv_at hl 5 rfl) ?_
              refine zz_eald hx hb hK hF 5 0 rfl rfl x rfl (by omega) (by omega) qd_M_isGreater_140 ?_
              refine zz_top (b := ↑n) (by omega) ?_
              refine lv_iconst (v := zI 1) hx hb qd_M_isGreater_141 rfl ?_
              refine zz_isub hx hb ((↑n) - 1) rfl qd_M_isGreater_142 ?_
              refine lv_istore (lv' := [(6, .int (zI ((↑n) - 1))), (5, .int (zI (↑(16 * y)))), (4, .int (zI (↑(16 * x)))), (0, .ref o), (1, .int (zI (ord))), (2, .int (zI (↑x))), (3, .int (zI (↑y)))]) hx hb qd_M_isGreater_143 hl (by decide) rfl (fun ls hl => ?_)
              have L145 : ∀ (d9 : Nat) (j : Int) (gz : Nat → Bool), (-1 ≤ j ∧ j < n) → (fld n n2 (fun G i j => (ord = 0 → paP G rk th te tm i th2 te2 tm2 j) ∧ (ord ≠ 0 → weP G rk wt th te tm i th2 te2 j)) (j + 1).toNat 0 gz) → (j + 1).toNat = d9 → ∀ (H145_3 : Heap) (L145_3 : List Loc), va_P (dC, dI) qcl [(mE, .inl (cI, 32, .inl (zA (eI ez)))), (mY, .inl (cI, 32, .inl (zA hz))), (mG, .inl (cZ, 256, .inl (zB gz)))] H145_3 → va_D A [(mE, .inl (cI, 32, .inl (zA (eI ez)))), (mY, .inl (cI, 32, .inl (zA hz))), (mG, .inl (cZ, 256, .inl (zB gz)))] → va_S A sg.heap H145_3 L145_3 → ∀ ls : Array Slot, lv_has ls 8 [(6, .int (zI (j))), (5, .int (zI (↑(16 * y)))), (4, .int (zI (↑(16 * x)))), (0, .ref o), (1, .int (zI (ord))), (2, .int (zI (↑x))), (3, .int (zI (↑y)))] → W pg l eg (headSpec qw_M_isGreater ({ frames := 5, cells := 0, slots := 0, locals := 127 })).room sg mg ([.ref o, .int (zI (ord)), .int (zI (↑x)), .int (zI (↑y))] : List Value).toArray below meth cg H145_3 L145_3 0 0 (MQ below (mwO (S := (Nat → Nat) × (Nat → Int) × (Nat → Bool)) (fun r uq => r = true ↔ gtO ord rk wt th te tm n th2 te2 tm2 n2) (fun uq tq => mwB (dC, dI) qcl (qty cI cZ cT cJ) A [(mE, .inl (cI, 32, .inl (zA (eI uq.1)))), (mY, .inl (cI, 32, .inl (zA uq.2.1))), (mG, .inl (cZ, 256, .inl (zB uq.2.2)))] tq) A) ([.ref o, .int (zI (ord)), .int (zI (↑x)), .int (zI (↑y))] : List Value).toArray sg 0 0 A) (F0 mg 145 ls []) := by
                intro d9
                induction d9 using Nat.strongRecOn with
                | _ d9 ih145 =>
                  intro j gz hj hfl hd9 H145_3 L145_3 hP hD hS ls hl
                  have hF := fz_keep hF0 hFA hS
                  refine lv_iload hx hb qd_M_isGreater_145 (lv_at hl 0 rfl) ?_
                  refine zz_if_lt (tgt := 221) hx hb qd_M_isGreater_147 (by decide) (by omega) (fun h147 => ?_) (fun h147 => ?_)
                  · skip
                    have hrc := fld_rc (show fld n n2 (fun G i j => (ord = 0 → paP G rk th te tm i th2 te2 tm2 j) ∧ (ord ≠ 0 → weP G rk wt th te tm i th2 te2 j)) 0 0 gz by rw [show (j + 1).toNat = 0 by omega] at hfl; exact hfl)
                    refine lv_aload_n hx hb qd_M_isGreater_221 rfl (lv_at hl 3 rfl) ?_
                    refine va_get (D := (dC, dI)) (ci := 6) (v := .ref mG) (C := "TermOrdersModel") (T := qT_M) (N := 17) hx hb hg qi_M hown hK hF 0 rfl rfl 13 (by decide) (hg _ wd_631) (fun _ h9 => h9) rfl qd_M_isGreater_222 ?_
                    refine lv_iconst (v := zI 0) hx hb qd_M_isGreater_225 rfl ?_
                    refine zz_zald hx hb hK hP 2 1 rfl rfl 0 (by omega) (by omega) (by omega) qd_M_isGreater_226 ?_
                    exact W.zret (v := zI (bI (gz 0))) (ty := .boolean) hx hb hr (bI_n _) (fun t9 ht9 hW9 => ⟨⟨gz 0, (ez, hz, gz), rfl, (bo_gt we we2 hmm hn0 hn02 hrc).symm, mwB_i (by rw [ht9]; exact hP) (va_K.moved hW9.alike hK) hD⟩, hS.F ht9⟩) hS.2.2 qd_M_isGreater_227
                  · skip
                    obtain ⟨p, rfl⟩ : ∃ p : Nat, j = ↑p := ⟨j.toNat, by omega⟩
                    have hfr := fld_row (show fld n n2 (fun G i j => (ord = 0 → paP G rk th te tm i th2 te2 tm2 j) ∧ (ord ≠ 0 → weP G rk wt th te tm i th2 te2 j)) (p + 1) 0 gz by rw [show (((p : Nat) : Int) + 1).toNat = p + 1 by omega] at hfl; exact hfl)
                    refine lv_aload_n hx hb qd_M_isGreater_150 rfl (lv_at hl 3 rfl) ?_
                    refine va_get (D := (dC, dI)) (ci := 6) (v := .ref mS) (C := "TermOrdersModel") (T := qT_M) (N := 17) hx hb hg qi_M hown hK hF 0 rfl rfl 6 (by decide) (hg _ wd_624) (fun _ h9 => h9) rfl qd_M_isGreater_151 ?_
                    refine lv_iload_n hx hb qd_M_isGreater_154 rfl (lv_at hl 6 rfl) ?_
                    refine zz_eald hx hb hK hF 5 0 rfl rfl y rfl (by omega) (by omega) qd_M_isGreater_155 ?_
                    refine zz_top (b := ↑n2) (by omega) ?_
                    refine lv_iconst (v := zI 1) hx hb qd_M_isGreater_156 rfl ?_
                    refine zz_isub hx hb ((↑n2) - 1) rfl qd_M_isGreater_157 ?_
                    refine lv_istore (lv' := [(7, .int (zI ((↑n2) - 1))), (6, .int (zI ((↑p)))), (5, .int (zI (↑(16 * y)))), (4, .int (zI (↑(16 * x)))), (0, .ref o), (1, .int (zI (ord))), (2, .int (zI (↑x))), (3, .int (zI (↑y)))]) hx hb qd_M_isGreater_158 hl (by decide) rfl (fun ls hl => ?_)
                    have L160 : ∀ (d9 : Nat) (k : Int) (gy : Nat → Bool), (-1 ≤ k ∧ k < n2) → (fld n n2 (fun G i j => (ord = 0 → paP G rk th te tm i th2 te2 tm2 j) ∧ (ord ≠ 0 → weP G rk wt th te tm i th2 te2 j)) p (k + 1).toNat gy) → (k + 1).toNat = d9 → ∀ (H160_4 : Heap) (L160_4 : List Loc), va_P (dC, dI) qcl [(mE, .inl (cI, 32, .inl (zA (eI ez)))), (mY, .inl (cI, 32, .inl (zA hz))), (mG, .inl (cZ, 256, .inl (zB gy)))] H160_4 → va_D A [(mE, .inl (cI, 32, .inl (zA (eI ez)))), (mY, .inl (cI, 32, .inl (zA hz))), (mG, .inl (cZ, 256, .inl (zB gy)))] → va_S A sg.heap H160_4 L160_4 → ∀ ls : Array Slot, lv_has ls 8 [(7, .int (zI (k))), (6, .int (zI ((↑p)))), (5, .int (zI (↑(16 * y)))), (4, .int (zI (↑(16 * x)))), (0, .ref o), (1, .int (zI (ord))), (2, .int (zI (↑x))), (3, .int (zI (↑y)))] → W pg l eg (headSpec qw_M_isGreater ({ frames := 5, cells := 0, slots := 0, locals := 127 })).room sg mg ([.ref o, .int (zI (ord)), .int (zI (↑x)), .int (zI (↑y))] : List Value).toArray below meth cg H160_4 L160_4 0 0 (MQ below (mwO (S := (Nat → Nat) × (Nat → Int) × (Nat → Bool)) (fun r uq => r = true ↔ gtO ord rk wt th te tm n th2 te2 tm2 n2) (fun uq tq => mwB (dC, dI) qcl (qty cI cZ cT cJ) A [(mE, .inl (cI, 32, .inl (zA (eI uq.1)))), (mY, .inl (cI, 32, .inl (zA uq.2.1))), (mG, .inl (cZ, 256, .inl (zB uq.2.2)))] tq) A) ([.ref o, .int (zI (ord)), .int (zI (↑x)), .int (zI (↑y))] : List Value).toArray sg 0 0 A) (F0 mg 160 ls []) := by
                      intro d9
                      induction d9 using Nat.strongRecOn with
                      | _ d9 ih160 =>
                        intro k gy hk hfk hd9 H160_4 L160_4 hP hD hS ls hl
                        have hF := fz_keep hF0 hFA hS
                        refine lv_iload hx hb qd_M_isGreater_160 (lv_at hl 0 rfl) ?_
                        refine zz_if_lt (tgt := 215) hx hb qd_M_isGreater_162 (by decide) (by omega) (fun g162 => ?_) (fun g162 => ?_)
                        · skip
                          refine lv_iinc (k := 1) (lv' := [(6, .int (zI (↑p - 1))), (7, .int (zI (k))), (5, .int (zI (↑(16 * y)))), (4, .int (zI (↑(16 * x)))), (0, .ref o), (1, .int (zI (ord))), (2, .int (zI (↑x))), (3, .int (zI (↑y)))]) hx hb qd_M_isGreater_215 hl rfl (zI_inc (v := ↑p - 1) (by omega)) (by decide) rfl (fun ls hl => ?_)
                          refine lv_goto (tgt := 145) hx hb qd_M_isGreater_218 (by decide) ?_
                          have hl := lv_sub (l' := [(6, .int (zI (↑p - 1))), (5, .int (zI (↑(16 * y)))), (4, .int (zI (↑(16 * x)))), (0, .ref o), (1, .int (zI (ord))), (2, .int (zI (↑x))), (3, .int (zI (↑y)))]) hl [0, 2, 3, 4, 5, 6, 7] rfl
                          exact ih145 _ (by omega) (↑p - 1) gy (by omega) (by rw [show (((p : Nat) : Int) - 1 + 1).toNat = p by omega]; rw [show (k + 1).toNat = 0 by omega] at hfk; exact hfk) rfl H160_4 L160_4 hP hD hS ls hl
                        · skip
                          obtain ⟨q, rfl⟩ : ∃ q : Nat, k = ↑q := ⟨k.toNat, by omega⟩
                          refine lv_aload_n hx hb qd_M_isGreater_165 rfl (lv_at hl 4 rfl) ?_
                          refine va_get (D := (dC, dI)) (ci := 6) (v := .ref mG) (C := "TermOrdersModel") (T := qT_M) (N := 17) hx hb hg qi_M hown hK hF 0 rfl rfl 13 (by decide) (hg _ wd_631) (fun _ h9 => h9) rfl qd_M_isGreater_166 ?_
                          refine lv_bipush (v := zI 16) hx hb qd_M_isGreater_169 (by decide) ?_
                          refine lv_iload hx hb qd_M_isGreater_171 (lv_at hl 1 rfl) ?_
                          refine zz_imul hx hb (16 * ((↑p))) rfl qd_M_isGreater_173 ?_
                          refine lv_iload hx hb qd_M_isGreater_174 (lv_at hl 0 rfl) ?_
                          refine zz_iadd hx hb ((16 * ((↑p))) + ((↑q))) rfl qd_M_isGreater_176 ?_
                          refine lv_iload_n hx hb qd_M_isGreater_177 rfl (lv_at hl 5 rfl) ?_
                          refine zz_if_ne (tgt := 196) hx hb qd_M_isGreater_178 (by decide) (by omega) (fun h178 => ?_) (fun h178 => ?_)
                          · skip
                            refine lv_aload_n hx hb qd_M_isGreater_196 rfl (lv_at hl 4 rfl) ?_
                            refine lv_iload hx hb qd_M_isGreater_197 (lv_at hl 3 rfl) ?_
                            refine lv_iload hx hb qd_M_isGreater_199 (lv_at hl 1 rfl) ?_
                            refine lv_iload hx hb qd_M_isGreater_201 (lv_at hl 2 rfl) ?_
                            refine lv_iload hx hb qd_M_isGreater_203 (lv_at hl 0 rfl) ?_
                            refine rd_callB (W.runV (As := [.int (zI (↑(16 * x))), .int (zI (↑p)), .int (zI (↑(16 * y))), .int (zI (↑q))]) (rest := [.int (zI ((16 * ((↑p))) + ((↑q)))), .ref mG]) ⟨hx, hb, hml, hown, hg⟩ (c_M_weighs l dC dI cI cZ cT cJ o mA mR mW mC mS mL mT mH mY mE mG mB mO sy tc rc tw ar rk wt co sz lf rg hi hz ez gy bd ol (16 * x) n th tm te (16 * y) n2 th2 tm2 te2 p q hrk hwt har h16 (by omega) hco htm hh we h162 (by omega) hco2 htm2 hh2 we2 (by omega) (by omega) (fun q hq => (hE1 q hq).1) (fun q hq => (hE2 q hq).1) (fun q hq => (hE1 q hq).2) (fun q hq => (hE2 q hq).2)) ⟨callB_of 4 hg (gw_ok (fun _ h => h) wd_757) rfl rfl rfl (hg _ wd_6) (hg _ wd_754) (by decide +kernel) ⟨Nat.le_of_ble_eq_true rfl, Nat.le_of_ble_eq_true rfl⟩, hg _ wd_756, hg _ se_M_weighs⟩ (rd_preV (va_recv (q0 := 0) hK hF rfl rfl) (pw_c (q := (o, .inr (6, [.int (zI (↑sy)), .ref mA, .ref mR, .ref mW, .int (zI (↑tc)), .ref mC, .ref mS, .int (zI (↑rc)), .ref mL, .ref mT, .ref mH, .ref mY, .ref mE, .ref mG, .ref mB, .ref mO, .int (zI (tw))]))) hF 0 rfl (pw_c (q := (mA, .inl (cI, 5, .inl (zA ar)))) hF 1 rfl (pw_c (q := (mR, .inl (cI, 5, .inl (zA rk)))) hF 2 rfl (pw_c (q := (mW, .inl (cI, 5, .inl (zA wt)))) hF 3 rfl (pw_c (q := (mC, .inl (cI, 2608, .inl (zA co)))) hF 4 rfl (pw_c (q := (mY, .inl (cI, 32, .inl (zA hz)))) hP 1 rfl (pw_c (q := (mE, .inl (cI, 32, .inl (zA (eI ez))))) hP 0 rfl (pw_c (q := (mG, .inl (cZ, 256, .inl (zB gy)))) hP 2 rfl (pw_nil))))))))) hK hN) rfl rfl hl.1 rfl (lv_room (Nat.le_of_ble_eq_true rfl)) qd_M_isGreater_205 ⟨Nat.le_of_ble_eq_true rfl, Nat.le_of_ble_eq_true rfl⟩) (fun r205 hr205 => ?_)
                            have hbb := hr205.trans (show weP (tb gy) rk wt th te tm p th2 te2 q ↔ (fun G i j => (ord = 0 → paP G rk th te tm i th2 te2 tm2 j) ∧ (ord ≠ 0 → weP G rk wt th te tm i th2 te2 j)) (tb gy) p q from ⟨fun z => ⟨fun z9 => absurd z9 h178, fun _ => z⟩, fun z => z.2 h178⟩)
                            refine zz_zast hx hb hK hP hD hS 2 1 rfl rfl (16 * p + q) (by omega) (by omega) (by omega) qd_M_isGreater_208 (fun H208_5 L208_5 hP hD hS => ?_)
                            have hP : va_P (dC, dI) qcl [(mE, .inl (cI, 32, .inl (zA (eI ez)))), (mY, .inl (cI, 32, .inl (zA hz))), (mG, .inl (cZ, 256, .inl (zB (ub gy (16 * p + q) r205))))] H208_5 := hP
                            have hD : va_D A [(mE, .inl (cI, 32, .inl (zA (eI ez)))), (mY, .inl (cI, 32, .inl (zA hz))), (mG, .inl (cZ, 256, .inl (zB (ub gy (16 * p + q) r205))))] := hD
                            have hF := fz_keep hF0 hFA hS
                            refine lv_iinc (k := 0) (lv' := [(7, .int (zI (↑q - 1))), (6, .int (zI ((↑p)))), (5, .int (zI (↑(16 * y)))), (4, .int (zI (↑(16 * x)))), (0, .ref o), (1, .int (zI (ord))), (2, .int (zI (↑x))), (3, .int (zI (↑y)))]) hx hb qd_M_isGreater_209 hl rfl (zI_inc (v := ↑q - 1) (by omega)) (by decide) rfl (fun ls hl => ?_)
                            refine lv_goto (tgt := 160) hx hb qd_M_isGreater_212 (by decide) ?_
                            exact ih160 _ (by omega) (↑q - 1) (ub gy (16 * p + q) r205) (by omega) (by rw [show (((q : Nat) : Int) - 1 + 1).toNat = q by omega]; exact fld_1 h162 hcg (by omega) (by omega) (by rw [show (((q : Nat) : Int) + 1).toNat = q + 1 by omega] at hfk; exact hfk) hbb) rfl H208_5 L208_5 hP hD hS ls hl
                          · skip
                            refine lv_aload_n hx hb qd_M_isGreater_181 rfl (lv_at hl 4 rfl) ?_
                            refine lv_iload hx hb qd_M_isGreater_182 (lv_at hl 3 rfl) ?_
                            refine lv_iload hx hb qd_M_isGreater_184 (lv_at hl 1 rfl) ?_
                            refine lv_iload hx hb qd_M_isGreater_186 (lv_at hl 2 rfl) ?_
                            refine lv_iload hx hb qd_M_isGreater_188 (lv_at hl 0 rfl) ?_
                            refine rd_callB (W.runV (As := [.int (zI (↑(16 * x))), .int (zI (↑p)), .int (zI (↑(16 * y))), .int (zI (↑q))]) (rest := [.int (zI ((16 * ((↑p))) + ((↑q)))), .ref mG]) ⟨hx, hb, hml, hown, hg⟩ (c_M_path l dC dI cI cZ cT cJ o mA mR mW mC mS mL mT mH mY mE mG mB mO sy tc rc tw ar rk wt co sz lf rg hi hz ez gy bd ol (16 * x) n th tm te (16 * y) n2 th2 tm2 te2 p q hrk har h16 (by omega) hco htm hh we h162 (by omega) hco2 htm2 hh2 we2 (by omega) (by omega) (fun q hq => (hE1 q hq).1) (fun q hq => (hE2 q hq).1)) ⟨callB_of 4 hg (gw_ok (fun _ h => h) wd_745) rfl rfl rfl (hg _ wd_6) (hg _ wd_742) (by decide +kernel) ⟨Nat.le_of_ble_eq_true rfl, Nat.le_of_ble_eq_true rfl⟩, hg _ wd_744, hg _ se_M_path⟩ (rd_preV (va_recv (q0 := 0) hK hF rfl rfl) (pw_c (q := (o, .inr (6, [.int (zI (↑sy)), .ref mA, .ref mR, .ref mW, .int (zI (↑tc)), .ref mC, .ref mS, .int (zI (↑rc)), .ref mL, .ref mT, .ref mH, .ref mY, .ref mE, .ref mG, .ref mB, .ref mO, .int (zI (tw))]))) hF 0 rfl (pw_c (q := (mA, .inl (cI, 5, .inl (zA ar)))) hF 1 rfl (pw_c (q := (mR, .inl (cI, 5, .inl (zA rk)))) hF 2 rfl (pw_c (q := (mC, .inl (cI, 2608, .inl (zA co)))) hF 4 rfl (pw_c (q := (mE, .inl (cI, 32, .inl (zA (eI ez))))) hP 0 rfl (pw_c (q := (mG, .inl (cZ, 256, .inl (zB gy)))) hP 2 rfl (pw_nil))))))) hK hN) rfl rfl hl.1 rfl (lv_room (Nat.le_of_ble_eq_true rfl)) qd_M_isGreater_190 ⟨Nat.le_of_ble_eq_true rfl, Nat.le_of_ble_eq_true rfl⟩) (fun r190 hr190 => ?_)
                            refine lv_goto (tgt := 208) hx hb qd_M_isGreater_193 (by decide) ?_
                            have hbb := hr190.trans (show paP (tb gy) rk th te tm p th2 te2 tm2 q ↔ (fun G i j => (ord = 0 → paP G rk th te tm i th2 te2 tm2 j) ∧ (ord ≠ 0 → weP G rk wt th te tm i th2 te2 j)) (tb gy) p q from ⟨fun z => ⟨fun _ => z, fun z9 => absurd h178 z9⟩, fun z => z.1 h178⟩)
                            refine zz_zast hx hb hK hP hD hS 2 1 rfl rfl (16 * p + q) (by omega) (by omega) (by omega) qd_M_isGreater_208 (fun H208_6 L208_6 hP hD hS => ?_)
                            have hP : va_P (dC, dI) qcl [(mE, .inl (cI, 32, .inl (zA (eI ez)))), (mY, .inl (cI, 32, .inl (zA hz))), (mG, .inl (cZ, 256, .inl (zB (ub gy (16 * p + q) r190))))] H208_6 := hP
                            have hD : va_D A [(mE, .inl (cI, 32, .inl (zA (eI ez)))), (mY, .inl (cI, 32, .inl (zA hz))), (mG, .inl (cZ, 256, .inl (zB (ub gy (16 * p + q) r190))))] := hD
                            have hF := fz_keep hF0 hFA hS
                            refine lv_iinc (k := 0) (lv' := [(7, .int (zI (↑q - 1))), (6, .int (zI ((↑p)))), (5, .int (zI (↑(16 * y)))), (4, .int (zI (↑(16 * x)))), (0, .ref o), (1, .int (zI (ord))), (2, .int (zI (↑x))), (3, .int (zI (↑y)))]) hx hb qd_M_isGreater_209 hl rfl (zI_inc (v := ↑q - 1) (by omega)) (by decide) rfl (fun ls hl => ?_)
                            refine lv_goto (tgt := 160) hx hb qd_M_isGreater_212 (by decide) ?_
                            exact ih160 _ (by omega) (↑q - 1) (ub gy (16 * p + q) r190) (by omega) (by rw [show (((q : Nat) : Int) - 1 + 1).toNat = q by omega]; exact fld_1 h162 hcg (by omega) (by omega) (by rw [show (((q : Nat) : Int) + 1).toNat = q + 1 by omega] at hfk; exact hfk) hbb) rfl H208_6 L208_6 hP hD hS ls hl
                    exact L160 _ (↑n2 - 1) gz (by omega) (by rw [show (((n2 : Nat) : Int) - 1 + 1).toNat = n2 by omega]; exact hfr) rfl H145_3 L145_3 hP hD hS ls hl
              exact L145 _ (↑n - 1) gr (by omega) (by rw [show (((n : Nat) : Int) - 1 + 1).toNat = n by omega]; exact fld_0) rfl H72_2 L72_2 hP hD hS ls hl
            · skip
              have hwi := we2 i (by omega)
              refine lv_aload_n hx hb qd_M_isGreater_83 rfl (lv_at hl 3 rfl) ?_
              refine va_get (D := (dC, dI)) (ci := 6) (v := .ref mE) (C := "TermOrdersModel") (T := qT_M) (N := 17) hx hb hg qi_M hown hK hF 0 rfl rfl 12 (by decide) (hg _ wd_630) (fun _ h9 => h9) rfl qd_M_isGreater_84 ?_
              refine lv_bipush (v := zI 16) hx hb qd_M_isGreater_87 (by decide) ?_
              refine lv_iload hx hb qd_M_isGreater_89 (lv_at hl 0 rfl) ?_
              refine zz_iadd hx hb (16 + (↑i)) rfl qd_M_isGreater_91 ?_
              refine lv_aload_n hx hb qd_M_isGreater_92 rfl (lv_at hl 3 rfl) ?_
              refine lv_iload hx hb qd_M_isGreater_93 (lv_at hl 1 rfl) ?_
              refine lv_iload hx hb qd_M_isGreater_95 (lv_at hl 0 rfl) ?_
              refine rd_callI (W.runV (As := [.int (zI (↑(16 * y))), .int (zI (↑i))]) (rest := [.int (zI (16 + (↑i))), .ref mE]) ⟨hx, hb, hml, hown, hg⟩ (c_M_end l dC dI cI cZ cT cJ o mA mR mW mC mS mL mT mH mY mE mG mB mO sy tc rc tw ar rk wt co sz lf rg hi hv ef gr bd ol (16 * y) n2 th2 tm2 te2 i har h162 (by omega) hco2 htm2 hh2 we2 (by omega)) ⟨callB_of 2 hg (gw_ok (fun _ h => h) wd_713) rfl rfl rfl (hg _ wd_6) (hg _ wd_710) (by decide +kernel) ⟨Nat.le_of_ble_eq_true rfl, Nat.le_of_ble_eq_true rfl⟩, hg _ wd_712, hg _ se_M_end⟩ (rd_preV (va_recv (q0 := 0) hK hF rfl rfl) (pw_c (q := (o, .inr (6, [.int (zI (↑sy)), .ref mA, .ref mR, .ref mW, .int (zI (↑tc)), .ref mC, .ref mS, .int (zI (↑rc)), .ref mL, .ref mT, .ref mH, .ref mY, .ref mE, .ref mG, .ref mB, .ref mO, .int (zI (tw))]))) hF 0 rfl (pw_c (q := (mA, .inl (cI, 5, .inl (zA ar)))) hF 1 rfl (pw_c (q := (mC, .inl (cI, 2608, .inl (zA co)))) hF 4 rfl (pw_nil)))) hK hN) rfl rfl hl.1 rfl (lv_room (Nat.le_of_ble_eq_true rfl)) qd_M_isGreater_97 ⟨Nat.le_of_ble_eq_true rfl, Nat.le_of_ble_eq_true rfl⟩) (fun r97 hr97 => ?_)
              have e97 : r97 = ↑(te2 i) := hr97
              subst e97
              refine zz_east hx hb hK hP hD hS 0 0 rfl rfl (16 + i) (by omega) (by omega) (by omega) (te2 i) rfl qd_M_isGreater_100 (fun H100_7 L100_7 hP hD hS => ?_)
              have hP : va_P (dC, dI) qcl [(mE, .inl (cI, 32, .inl (zA (eI (un ez (16 + i) (te2 i)))))), (mY, .inl (cI, 32, .inl (zA hz))), (mG, .inl (cZ, 256, .inl (zB gr)))] H100_7 := hP
              have hD : va_D A [(mE, .inl (cI, 32, .inl (zA (eI (un ez (16 + i) (te2 i)))))), (mY, .inl (cI, 32, .inl (zA hz))), (mG, .inl (cZ, 256, .inl (zB gr)))] := hD
              have hF := fz_keep hF0 hFA hS
              refine lv_aload_n hx hb qd_M_isGreater_101 rfl (lv_at hl 3 rfl) ?_
              refine va_get (D := (dC, dI)) (ci := 6) (v := .ref mY) (C := "TermOrdersModel") (T := qT_M) (N := 17) hx hb hg qi_M hown hK hF 0 rfl rfl 11 (by decide) (hg _ wd_629) (fun _ h9 => h9) rfl qd_M_isGreater_102 ?_
              refine lv_bipush (v := zI 16) hx hb qd_M_isGreater_105 (by decide) ?_
              refine lv_iload hx hb qd_M_isGreater_107 (lv_at hl 0 rfl) ?_
              refine zz_iadd hx hb (16 + (↑i)) rfl qd_M_isGreater_109 ?_
              refine lv_aload_n hx hb qd_M_isGreater_110 rfl (lv_at hl 3 rfl) ?_
              refine lv_iload hx hb qd_M_isGreater_111 (lv_at hl 1 rfl) ?_
              refine lv_iload hx hb qd_M_isGreater_113 (lv_at hl 0 rfl) ?_
              refine lv_aload_n hx hb qd_M_isGreater_115 rfl (lv_at hl 3 rfl) ?_
              refine va_get (D := (dC, dI)) (ci := 6) (v := .ref mE) (C := "TermOrdersModel") (T := qT_M) (N := 17) hx hb hg qi_M hown hK hF 0 rfl rfl 12 (by decide) (hg _ wd_630) (fun _ h9 => h9) rfl qd_M_isGreater_116 ?_
              refine lv_bipush (v := zI 16) hx hb qd_M_isGreater_119 (by decide) ?_
              refine lv_iload hx hb qd_M_isGreater_121 (lv_at hl 0 rfl) ?_
              refine zz_iadd hx hb (16 + (↑i)) rfl qd_M_isGreater_123 ?_
              refine zz_eald hx hb hK hP 0 0 rfl rfl (16 + i) (by omega) (by omega) (by omega) qd_M_isGreater_124 ?_
              refine zz_top (b := ↑(te2 i)) (by rw [un_s]) ?_
              refine rd_callI (W.runV (As := [.int (zI (↑(16 * y))), .int (zI (↑i)), .int (zI (↑(te2 i)))]) (rest := [.int (zI (16 + (↑i))), .ref mY]) ⟨hx, hb, hml, hown, hg⟩ (c_M_weighed l dC dI cI cZ cT cJ o mA mR mW mC mS mL mT mH mY mE mG mB mO sy tc rc tw ar rk wt co sz lf rg hi hv ef gr bd ol (16 * y) n2 th2 tm2 te2 i (te2 i) hwt h162 (by omega) hco2 hh2 (Nat.le_of_lt hwi.1) hwi.2.1) ⟨callB_of 3 hg (gw_ok (fun _ h => h) wd_741) rfl rfl rfl (hg _ wd_6) (hg _ wd_738) (by decide +kernel) ⟨Nat.le_of_ble_eq_true rfl, Nat.le_of_ble_eq_true rfl⟩, hg _ wd_740, hg _ se_M_weighed⟩ (rd_preV (va_recv (q0 := 0) hK hF rfl rfl) (pw_c (q := (o, .inr (6, [.int (zI (↑sy)), .ref mA, .ref mR, .ref mW, .int (zI (↑tc)), .ref mC, .ref mS, .int (zI (↑rc)), .ref mL, .ref mT, .ref mH, .ref mY, .ref mE, .ref mG, .ref mB, .ref mO, .int (zI (tw))]))) hF 0 rfl (pw_c (q := (mW, .inl (cI, 5, .inl (zA wt)))) hF 3 rfl (pw_c (q := (mC, .inl (cI, 2608, .inl (zA co)))) hF 4 rfl (pw_nil)))) hK hN) rfl rfl hl.1 rfl (lv_room (Nat.le_of_ble_eq_true rfl)) qd_M_isGreater_125 ⟨Nat.le_of_ble_eq_true rfl, Nat.le_of_ble_eq_true rfl⟩) (fun r125 hr125 => ?_)
              have e125 : r125 = wsum th2 wt i (te2 i - i) := hr125
              subst e125
              refine zz_iast hx hb hK hP hD hS 1 0 rfl rfl (16 + i) (by omega) (by omega) (by omega) qd_M_isGreater_128 (fun H128_8 L128_8 hP hD hS => ?_)
              have hP : va_P (dC, dI) qcl [(mE, .inl (cI, 32, .inl (zA (eI (un ez (16 + i) (te2 i)))))), (mY, .inl (cI, 32, .inl (zA (uz hz (16 + i) (wsum th2 wt i (te2 i - i)))))), (mG, .inl (cZ, 256, .inl (zB gr)))] H128_8 := hP
              have hD : va_D A [(mE, .inl (cI, 32, .inl (zA (eI (un ez (16 + i) (te2 i)))))), (mY, .inl (cI, 32, .inl (zA (uz hz (16 + i) (wsum th2 wt i (te2 i - i)))))), (mG, .inl (cZ, 256, .inl (zB gr)))] := hD
              have hF := fz_keep hF0 hFA hS
              refine lv_iinc (k := 0) (lv' := [(6, .int (zI (↑(i + 1)))), (5, .int (zI (↑(16 * y)))), (4, .int (zI (↑(16 * x)))), (0, .ref o), (1, .int (zI (ord))), (2, .int (zI (↑x))), (3, .int (zI (↑y)))]) hx hb qd_M_isGreater_129 hl rfl (zI_inc (v := ↑(i + 1)) (by omega)) (by decide) rfl (fun ls hl => ?_)
              refine lv_goto (tgt := 72) hx hb qd_M_isGreater_132 (by decide) ?_
              exact ih72 _ (by omega) (i + 1) (un ez (16 + i) (te2 i)) (uz hz (16 + i) (wsum th2 wt i (te2 i - i))) (by omega) (fun q hq => by rw [un_n _ _ (by omega), uz_n _ _ (by omega)]; exact hE1 q hq) (fun q hq => if h8 : q = i then (by rw [h8, un_s, uz_s]; exact ⟨rfl, rfl⟩) else (by rw [un_n _ _ (by omega), uz_n _ _ (by omega)]; exact hE q (by omega))) rfl H128_8 L128_8 hP hD hS ls hl
        exact L72 _ 0 ez hz (by omega) hE1 (fun q hq => by omega) rfl H15_1 L15_1 hP hD hS ls hl
      · skip
        have hwi := we i (by omega)
        refine lv_aload_n hx hb qd_M_isGreater_26 rfl (lv_at hl 3 rfl) ?_
        refine va_get (D := (dC, dI)) (ci := 6) (v := .ref mE) (C := "TermOrdersModel") (T := qT_M) (N := 17) hx hb hg qi_M hown hK hF 0 rfl rfl 12 (by decide) (hg _ wd_630) (fun _ h9 => h9) rfl qd_M_isGreater_27 ?_
        refine lv_iload hx hb qd_M_isGreater_30 (lv_at hl 0 rfl) ?_
        refine lv_aload_n hx hb qd_M_isGreater_32 rfl (lv_at hl 3 rfl) ?_
        refine lv_iload hx hb qd_M_isGreater_33 (lv_at hl 2 rfl) ?_
        refine lv_iload hx hb qd_M_isGreater_35 (lv_at hl 0 rfl) ?_
        refine rd_callI (W.runV (As := [.int (zI (↑(16 * x))), .int (zI (↑i))]) (rest := [.int (zI (↑i)), .ref mE]) ⟨hx, hb, hml, hown, hg⟩ (c_M_end l dC dI cI cZ cT cJ o mA mR mW mC mS mL mT mH mY mE mG mB mO sy tc rc tw ar rk wt co sz lf rg hi hv ef gr bd ol (16 * x) n th tm te i har h16 (by omega) hco htm hh we (by omega)) ⟨callB_of 2 hg (gw_ok (fun _ h => h) wd_713) rfl rfl rfl (hg _ wd_6) (hg _ wd_710) (by decide +kernel) ⟨Nat.le_of_ble_eq_true rfl, Nat.le_of_ble_eq_true rfl⟩, hg _ wd_712, hg _ se_M_end⟩ (rd_preV (va_recv (q0 := 0) hK hF rfl rfl) (pw_c (q := (o, .inr (6, [.int (zI (↑sy)), .ref mA, .ref mR, .ref mW, .int (zI (↑tc)), .ref mC, .ref mS, .int (zI (↑rc)), .ref mL, .ref mT, .ref mH, .ref mY, .ref mE, .ref mG, .ref mB, .ref mO, .int (zI (tw))]))) hF 0 rfl (pw_c (q := (mA, .inl (cI, 5, .inl (zA ar)))) hF 1 rfl (pw_c (q := (mC, .inl (cI, 2608, .inl (zA co)))) hF 4 rfl (pw_nil)))) hK hN) rfl rfl hl.1 rfl (lv_room (Nat.le_of_ble_eq_true rfl)) qd_M_isGreater_37 ⟨Nat.le_of_ble_eq_true rfl, Nat.le_of_ble_eq_true rfl⟩) (fun r37 hr37 => ?_)
        have e37 : r37 = ↑(te i) := hr37
        subst e37
        refine zz_east hx hb hK hP hD hS 0 0 rfl rfl i rfl (by omega) (by omega) (te i) rfl qd_M_isGreater_40 (fun H40_9 L40_9 hP hD hS => ?_)
        have hP : va_P (dC, dI) qcl [(mE, .inl (cI, 32, .inl (zA (eI (un ez i (te i)))))), (mY, .inl (cI, 32, .inl (zA hz))), (mG, .inl (cZ, 256, .inl (zB gr)))] H40_9 := hP
        have hD : va_D A [(mE, .inl (cI, 32, .inl (zA (eI (un ez i (te i)))))), (mY, .inl (cI, 32, .inl (zA hz))), (mG, .inl (cZ, 256, .inl (zB gr)))] := hD
        have hF := fz_keep hF0 hFA hS
        refine lv_aload_n hx hb qd_M_isGreater_41 rfl (lv_at hl 3 rfl) ?_
        refine va_get (D := (dC, dI)) (ci := 6) (v := .ref mY) (C := "TermOrdersModel") (T := qT_M) (N := 17) hx hb hg qi_M hown hK hF 0 rfl rfl 11 (by decide) (hg _ wd_629) (fun _ h9 => h9) rfl qd_M_isGreater_42 ?_
        refine lv_iload hx hb qd_M_isGreater_45 (lv_at hl 0 rfl) ?_
        refine lv_aload_n hx hb qd_M_isGreater_47 rfl (lv_at hl 3 rfl) ?_
        refine lv_iload hx hb qd_M_isGreater_48 (lv_at hl 2 rfl) ?_
        refine lv_iload hx hb qd_M_isGreater_50 (lv_at hl 0 rfl) ?_
        refine lv_aload_n hx hb qd_M_isGreater_52 rfl (lv_at hl 3 rfl) ?_
        refine va_get (D := (dC, dI)) (ci := 6) (v := .ref mE) (C := "TermOrdersModel") (T := qT_M) (N := 17) hx hb hg qi_M hown hK hF 0 rfl rfl 12 (by decide) (hg _ wd_630) (fun _ h9 => h9) rfl qd_M_isGreater_53 ?_
        refine lv_iload hx hb qd_M_isGreater_56 (lv_at hl 0 rfl) ?_
        refine zz_eald hx hb hK hP 0 0 rfl rfl i rfl (by omega) (by omega) qd_M_isGreater_58 ?_
        refine zz_top (b := ↑(te i)) (by rw [un_s]) ?_
        refine rd_callI (W.runV (As := [.int (zI (↑(16 * x))), .int (zI (↑i)), .int (zI (↑(te i)))]) (rest := [.int (zI (↑i)), .ref mY]) ⟨hx, hb, hml, hown, hg⟩ (c_M_weighed l dC dI cI cZ cT cJ o mA mR mW mC mS mL mT mH mY mE mG mB mO sy tc rc tw ar rk wt co sz lf rg hi hv ef gr bd ol (16 * x) n th tm te i (te i) hwt h16 (by omega) hco hh (Nat.le_of_lt hwi.1) hwi.2.1) ⟨callB_of 3 hg (gw_ok (fun _ h => h) wd_741) rfl rfl rfl (hg _ wd_6) (hg _ wd_738) (by decide +kernel) ⟨Nat.le_of_ble_eq_true rfl, Nat.le_of_ble_eq_true rfl⟩, hg _ wd_740, hg _ se_M_weighed⟩ (rd_preV (va_recv (q0 := 0) hK hF rfl rfl) (pw_c (q := (o, .inr (6, [.int (zI (↑sy)), .ref mA, .ref mR, .ref mW, .int (zI (↑tc)), .ref mC, .ref mS, .int (zI (↑rc)), .ref mL, .ref mT, .ref mH, .ref mY, .ref mE, .ref mG, .ref mB, .ref mO, .int (zI (tw))]))) hF 0 rfl (pw_c (q := (mW, .inl (cI, 5, .inl (zA wt)))) hF 3 rfl (pw_c (q := (mC, .inl (cI, 2608, .inl (zA co)))) hF 4 rfl (pw_nil)))) hK hN) rfl rfl hl.1 rfl (lv_room (Nat.le_of_ble_eq_true rfl)) qd_M_isGreater_59 ⟨Nat.le_of_ble_eq_true rfl, Nat.le_of_ble_eq_true rfl⟩) (fun r59 hr59 => ?_)
        have e59 : r59 = wsum th wt i (te i - i) := hr59
        subst e59
        refine zz_iast hx hb hK hP hD hS 1 0 rfl rfl i rfl (by omega) (by omega) qd_M_isGreater_62 (fun H62_10 L62_10 hP hD hS => ?_)
        have hP : va_P (dC, dI) qcl [(mE, .inl (cI, 32, .inl (zA (eI (un ez i (te i)))))), (mY, .inl (cI, 32, .inl (zA (uz hz i (wsum th wt i (te i - i)))))), (mG, .inl (cZ, 256, .inl (zB gr)))] H62_10 := hP
        have hD : va_D A [(mE, .inl (cI, 32, .inl (zA (eI (un ez i (te i)))))), (mY, .inl (cI, 32, .inl (zA (uz hz i (wsum th wt i (te i - i)))))), (mG, .inl (cZ, 256, .inl (zB gr)))] := hD
        have hF := fz_keep hF0 hFA hS
        refine lv_iinc (k := 0) (lv' := [(6, .int (zI (↑(i + 1)))), (5, .int (zI (↑(16 * y)))), (4, .int (zI (↑(16 * x)))), (0, .ref o), (1, .int (zI (ord))), (2, .int (zI (↑x))), (3, .int (zI (↑y)))]) hx hb qd_M_isGreater_63 hl rfl (zI_inc (v := ↑(i + 1)) (by omega)) (by decide) rfl (fun ls hl => ?_)
        refine lv_goto (tgt := 15) hx hb qd_M_isGreater_66 (by decide) ?_
        exact ih15 _ (by omega) (i + 1) (un ez i (te i)) (uz hz i (wsum th wt i (te i - i))) (by omega) (fun q hq => if h8 : q = i then (by rw [h8, un_s, uz_s]; exact ⟨rfl, rfl⟩) else (by rw [un_n _ _ h8, uz_n _ _ h8]; exact hE q (by omega))) rfl H62_10 L62_10 hP hD hS ls hl
  exact L15 _ 0 ef hv (by omega) (fun q hq => by omega) rfl sg.heap [] hP hD hS ls hl
set_option maxHeartbeats 4000000 in
set_option maxRecDepth 100000 in
theorem c_M_orients (l : Launch) (dC : Nat → ClassId) (dI : Nat → Nat → Nat) (cI cZ cT cJ : ClassId) (o mA mR mW mC mS mL mT mH mY mE mG mB mO sy tc rc : Nat) (tw : Int) (ar rk wt co : Nat → Int) (sz lf rg : Nat → Nat) (hi hv : Nat → Int) (ef : Nat → Nat) (gr : Nat → Bool) (bd ol : Nat → Int) (tn : Nat → Nat) (TH TM : Nat → Nat → Int) (TE : Nat → Nat → Nat) (HT : Nat → Nat → Int) (ord : Int) (zh : Nat) (har : ∀ q, q < 5 → 0 ≤ ar q ∧ ar q ≤ 3) (hrk : ∀ q, q < 5 → 0 ≤ rk q ∧ rk q ≤ 4) (hwt : ∀ q, q < 5 → 0 ≤ wt q ∧ wt q ≤ 9) (hsy : sy ≤ 5) (htc : tc ≤ 160) (htp : ∀ t, t < tc → okT sy ar (tn t) (TH t) (TM t) (TE t) (HT t) ∧ sz t = tn t ∧ ∀ q, q < tn t → co (16 * t + q) = TH t q) (hrc : rc ≤ 8) (hlr : ∀ r, r < rc → lf r < tc ∧ rg r < tc ∧ ∀ q, q < tn (rg r) → TH (rg r) q < 0 → ∃ k, k < tn (lf r) ∧ TH (lf r) k = TH (rg r) q) (hor : ord = 0 ∨ ord = 1) : Met l qy_M_orients qw_M_orients ({ frames := 6, cells := 0, slots := 0, locals := 154 }) (mwP (dC, dI) qcl (qty cI cZ cT cJ) nwL [(mE, .inl (cI, 32, .inl (zA (eI ef)))), (mY, .inl (cI, 32, .inl (zA hv))), (mG, .inl (cZ, 256, .inl (zB gr)))] [(o, .inr (6, [.int (zI (↑sy)), .ref mA, .ref mR, .ref mW, .int (zI (↑tc)), .ref mC, .ref mS, .int (zI (↑rc)), .ref mL, .ref mT, .ref mH, .ref mY, .ref mE, .ref mG, .ref mB, .ref mO, .int (zI (tw))])), (mA, .inl (cI, 5, .inl (zA ar))), (mR, .inl (cI, 5, .inl (zA rk))), (mW, .inl (cI, 5, .inl (zA wt))), (mC, .inl (cI, 2608, .inl (zA co))), (mS, .inl (cI, 163, .inl (zA (eI sz)))), (mL, .inl (cI, 8, .inl (zA (eI lf)))), (mT, .inl (cI, 8, .inl (zA (eI rg))))] zh [.ref o, .int (zI (ord))]) (va_Qi (S := (Nat → Nat) × (Nat → Int) × (Nat → Bool)) (fun r uq => r = obI (fun r => gtO ord rk wt (TH (lf r)) (TE (lf r)) (TM (lf r)) (tn (lf r)) (TH (rg r)) (TE (rg r)) (TM (rg r)) (tn (rg r))) rc) (fun uq tq => mwB (dC, dI) qcl (qty cI cZ cT cJ) (va_A [(mE, .inl (cI, 32, .inl (zA (eI ef)))), (mY, .inl (cI, 32, .inl (zA hv))), (mG, .inl (cZ, 256, .inl (zB gr)))] zh) [(mE, .inl (cI, 32, .inl (zA (eI uq.1)))), (mY, .inl (cI, 32, .inl (zA uq.2.1))), (mG, .inl (cZ, 256, .inl (zB uq.2.2)))] tq) (va_A [(mE, .inl (cI, 32, .inl (zA (eI ef)))), (mY, .inl (cI, 32, .inl (zA hv))), (mG, .inl (cZ, 256, .inl (zB gr)))] zh)) 0 0 (va_A [(mE, .inl (cI, 32, .inl (zA (eI ef)))), (mY, .inl (cI, 32, .inl (zA hv))), (mG, .inl (cZ, 256, .inl (zB gr)))] zh) := by
  refine Met.ofW (cc := qc_M_orients) (maxL := 4) (ret := (Option.some Jvm.ClassFile.FieldType.int)) (by decide) rfl ?_
  intro pg eg sg mg args below meth cg s₁ B hml hv
  obtain ⟨rfl, hsz, hP, hF0, hK, hN, hD0, hap⟩ := hv
  have hx := B.exec
  have hb := B.bytes
  have hr := B.returns
  have hts := atoms_spec (ws := qw_M_orients) B.pre
  have hg : ∀ w ∈ gw, w.before _ sg = true := fun w h => hts w (List.mem_cons_of_mem _ h)
  have hown : sg.vm.findClass "TermOrdersModel" = some mg.cls := findClass_of_methodNamed B.named
  have hlocks := B.notSynchronized
  have hl := lv_entry ([.ref o, .int (zI (ord))]) (n := 4) (Nat.le_of_ble_eq_true rfl)
  rw [lg_entry_eq]
  generalize (lg_sl ([.ref o, .int (zI (ord))]) ++ List.replicate (4 - (lg_sl ([.ref o, .int (zI (ord))])).length) Slot.unset).toArray = ls at hl ⊢
  subst hsz
  have hD := hD0.self (sz := sg.heap.size)
  have hFA := apw_A hap (fun k q hk => (hF0 k q hk).lt)
  generalize hAe : va_A [(mE, .inl (cI, 32, .inl (zA (eI ef)))), (mY, .inl (cI, 32, .inl (zA hv))), (mG, .inl (cZ, 256, .inl (zB gr)))] sg.heap.size = A at hD hFA ⊢
  have hA : ∀ q : Nat, sg.heap.size ≤ q → A q := fun q h => by rw [← hAe]; exact Or.inr h
  have hS : va_S A sg.heap sg.heap [] := va_S.rf
  have hF := hF0
  have hl : lv_has ls 4 [(0, .ref o), (1, .int (zI (ord)))] := hl
  refine lv_iconst (v := zI 0) hx hb qd_M_orients_0 rfl ?_
  refine lv_istore_n (lv' := [(2, .int (zI 0)), (0, .ref o), (1, .int (zI (ord)))]) hx hb qd_M_orients_1 rfl hl (by decide) rfl (fun ls hl => ?_)
  refine lv_iconst (v := zI 0) hx hb qd_M_orients_2 rfl ?_
  refine lv_istore_n (lv' := [(3, .int (zI (0))), (2, .int (zI 0)), (0, .ref o), (1, .int (zI (ord)))]) hx hb qd_M_orients_3 rfl hl (by decide) rfl (fun ls hl => ?_)
  have L4 : ∀ (d9 : Nat) (i : Nat) (ez : Nat → Nat) (hz : Nat → Int) (gz : Nat → Bool), (i ≤ rc) → rc - i = d9 → ∀ (H4_1 : Heap) (L4_1 : List Loc), va_P (dC, dI) qcl [(mE, .inl (cI, 32, .inl (zA (eI ez)))), (mY, .inl (cI, 32, .inl (zA hz))), (mG, .inl (cZ, 256, .inl (zB gz)))] H4_1 → va_D A [(mE, .inl (cI, 32, .inl (zA (eI ez)))), (mY, .inl (cI, 32, .inl (zA hz))), (mG, .inl (cZ, 256, .inl (zB gz)))] → va_S A sg.heap H4_1 L4_1 → ∀ ls : Array Slot, lv_has ls 4 [(3, .int (zI (↑i))), (2, .int (obI (fun r => gtO ord rk wt (TH (lf r)) (TE (lf r)) (TM (lf r)) (tn (lf r)) (TH (rg r)) (TE (rg r)) (TM (rg r)) (tn (rg r))) i)), (0, .ref o), (1, .int (zI (ord)))] → W pg l eg (headSpec qw_M_orients ({ frames := 6, cells := 0, slots := 0, locals := 154 })).room sg mg ([.ref o, .int (zI (ord))] : List Value).toArray below meth cg H4_1 L4_1 0 0 (MQ below (va_Qi (S := (Nat → Nat) × (Nat → Int) × (Nat → Bool)) (fun r uq => r = obI (fun r => gtO ord rk wt (TH (lf r)) (TE (lf r)) (TM (lf r)) (tn (lf r)) (TH (rg r)) (TE (rg r)) (TM (rg r)) (tn (rg r))) rc) (fun uq tq => mwB (dC, dI) qcl (qty cI cZ cT cJ) A [(mE, .inl (cI, 32, .inl (zA (eI uq.1)))), (mY, .inl (cI, 32, .inl (zA uq.2.1))), (mG, .inl (cZ, 256, .inl (zB uq.2.2)))] tq) A) ([.ref o, .int (zI (ord))] : List Value).toArray sg 0 0 A) (F0 mg 4 ls []) := by
    intro d9
    induction d9 using Nat.strongRecOn with
    | _ d9 ih4 =>
      intro i ez hz gz hi8 hd9 H4_1 L4_1 hP hD hS ls hl
      have hF := fz_keep hF0 hFA hS
      refine lv_iload_n hx hb qd_M_orients_4 rfl (lv_at hl 0 rfl) ?_
      refine lv_aload_n hx hb qd_M_orients_5 rfl (lv_at hl 2 rfl) ?_
      refine va_get (D := (dC, dI)) (ci := 6) (v := .int (zI (↑rc))) (C := "TermOrdersModel") (T := qT_M) (N := 17) hx hb hg qi_M hown hK hF 0 rfl rfl 7 (by decide) (hg _ wd_625) (fun _ h9 => h9) rfl qd_M_orients_6 ?_
      refine zz_icmp_ge (tgt := 48) hx hb qd_M_orients_9 (by decide) (by omega) (by omega) (fun h9 => ?_) (fun h9 => ?_)
      · skip
        refine lv_iload_n hx hb qd_M_orients_48 rfl (lv_at hl 1 rfl) ?_
        exact W.iret (v := obI (fun r => gtO ord rk wt (TH (lf r)) (TE (lf r)) (TM (lf r)) (tn (lf r)) (TH (rg r)) (TE (rg r)) (TM (rg r)) (tn (rg r))) i) hx hb hr (fun t9 ht9 hW9 => ⟨⟨obI (fun r => gtO ord rk wt (TH (lf r)) (TE (lf r)) (TM (lf r)) (tn (lf r)) (TH (rg r)) (TE (rg r)) (TM (rg r)) (tn (rg r))) i, (ez, hz, gz), rfl, (by rw [show i = rc by omega]), mwB_i (by rw [ht9]; exact hP) (va_K.moved hW9.alike hK) hD⟩, hS.F ht9⟩) hS.2.2 qd_M_orients_49
      · skip
        obtain ⟨hu1, hu2, hu3⟩ := hlr i (by omega)
        have hta := htp (lf i) hu1
        have htb := htp (rg i) hu2
        refine lv_iload_n hx hb qd_M_orients_12 rfl (lv_at hl 1 rfl) ?_
        refine lv_aload_n hx hb qd_M_orients_13 rfl (lv_at hl 2 rfl) ?_
        refine lv_iload_n hx hb qd_M_orients_14 rfl (lv_at hl 3 rfl) ?_
        refine lv_aload_n hx hb qd_M_orients_15 rfl (lv_at hl 2 rfl) ?_
        refine va_get (D := (dC, dI)) (ci := 6) (v := .ref mL) (C := "TermOrdersModel") (T := qT_M) (N := 17) hx hb hg qi_M hown hK hF 0 rfl rfl 8 (by decide) (hg _ wd_626) (fun _ h9 => h9) rfl qd_M_orients_16 ?_
        refine lv_iload_n hx hb qd_M_orients_19 rfl (lv_at hl 0 rfl) ?_
        refine zz_eald hx hb hK hF 6 0 rfl rfl i rfl (by omega) (by omega) qd_M_orients_20 ?_
        refine lv_aload_n hx hb qd_M_orients_21 rfl (lv_at hl 2 rfl) ?_
        refine va_get (D := (dC, dI)) (ci := 6) (v := .ref mT) (C := "TermOrdersModel") (T := qT_M) (N := 17) hx hb hg qi_M hown hK hF 0 rfl rfl 9 (by decide) (hg _ wd_627) (fun _ h9 => h9) rfl qd_M_orients_22 ?_
        refine lv_iload_n hx hb qd_M_orients_25 rfl (lv_at hl 0 rfl) ?_
        refine zz_eald hx hb hK hF 7 0 rfl rfl i rfl (by omega) (by omega) qd_M_orients_26 ?_
        have hPc := hP.sub (ws' := [(mE, .inl (cI, 32, .inl (zA (eI ez)))), (mY, .inl (cI, 32, .inl (zA hz))), (mG, .inl (cZ, 256, .inl (zB gz)))]) [0, 1, 2] rfl
        have hDc := hD.sub (ws' := [(mE, .inl (cI, 32, .inl (zA (eI ez)))), (mY, .inl (cI, 32, .inl (zA hz))), (mG, .inl (cZ, 256, .inl (zB gz)))]) [0, 1, 2] (by decide) rfl
        have hFr := va_free (wc := [(mE, .inl (cI, 32, .inl (zA (eI ez)))), (mY, .inl (cI, 32, .inl (zA hz))), (mG, .inl (cZ, 256, .inl (zB gz)))]) hD hS hA [0, 1, 2] rfl
        refine mw_callO (va_runV (As := [.int (zI (ord)), .int (zI (↑(lf i))), .int (zI (↑(rg i)))]) (rest := [.int (obI (fun r => gtO ord rk wt (TH (lf r)) (TE (lf r)) (TM (lf r)) (tn (lf r)) (TH (rg r)) (TE (rg r)) (TM (rg r)) (tn (rg r))) i)]) ⟨hx, hb, hml, hown, hg⟩ (c_M_isGreater l dC dI cI cZ cT cJ o mA mR mW mC mS mL mT mH mY mE mG mB mO sy tc rc tw ar rk wt co sz lf rg hi hz ez gz bd ol (lf i) (rg i) (tn (lf i)) (TH (lf i)) (TM (lf i)) (TE (lf i)) (tn (rg i)) (TH (rg i)) (TM (rg i)) (TE (rg i)) ord H4_1.size har hrk hwt (by omega) (by omega) hta.1.2.1 hta.2.1 hta.2.2 hta.1.2.2.2.1 (okT_hh hsy hta.1) hta.1.2.2.2.2.1 hta.1.1 htb.1.2.1 htb.2.1 htb.2.2 htb.1.2.2.2.1 (okT_hh hsy htb.1) htb.1.2.2.2.2.1 htb.1.1 hor) ⟨callB_of 3 hg (gw_ok (fun _ h => h) wd_737) rfl rfl rfl (hg _ wd_6) (hg _ wd_734) (by decide +kernel) ⟨Nat.le_of_ble_eq_true rfl, Nat.le_of_ble_eq_true rfl⟩, hg _ wd_736, hg _ se_M_isGreater⟩ (mw_preV (va_recv (q0 := 0) hK hF rfl rfl) hPc (pw_c (q := (o, .inr (6, [.int (zI (↑sy)), .ref mA, .ref mR, .ref mW, .int (zI (↑tc)), .ref mC, .ref mS, .int (zI (↑rc)), .ref mL, .ref mT, .ref mH, .ref mY, .ref mE, .ref mG, .ref mB, .ref mO, .int (zI (tw))]))) hF 0 rfl (pw_c (q := (mA, .inl (cI, 5, .inl (zA ar)))) hF 1 rfl (pw_c (q := (mR, .inl (cI, 5, .inl (zA rk)))) hF 2 rfl (pw_c (q := (mW, .inl (cI, 5, .inl (zA wt)))) hF 3 rfl (pw_c (q := (mC, .inl (cI, 2608, .inl (zA co)))) hF 4 rfl (pw_c (q := (mS, .inl (cI, 163, .inl (zA (eI sz))))) hF 5 rfl (pw_nil))))))) hK hN hDc (apw_c (q := (o, .inr (6, [.int (zI (↑sy)), .ref mA, .ref mR, .ref mW, .int (zI (↑tc)), .ref mC, .ref mS, .int (zI (↑rc)), .ref mL, .ref mT, .ref mH, .ref mY, .ref mE, .ref mG, .ref mB, .ref mO, .int (zI (tw))]))) (apw_f hD [0, 1, 2] rfl (hFA 0 _ rfl)) (apw_c (q := (mA, .inl (cI, 5, .inl (zA ar)))) (apw_f hD [0, 1, 2] rfl (hFA 1 _ rfl)) (apw_c (q := (mR, .inl (cI, 5, .inl (zA rk)))) (apw_f hD [0, 1, 2] rfl (hFA 2 _ rfl)) (apw_c (q := (mW, .inl (cI, 5, .inl (zA wt)))) (apw_f hD [0, 1, 2] rfl (hFA 3 _ rfl)) (apw_c (q := (mC, .inl (cI, 2608, .inl (zA co)))) (apw_f hD [0, 1, 2] rfl (hFA 4 _ rfl)) (apw_c (q := (mS, .inl (cI, 163, .inl (zA (eI sz))))) (apw_f hD [0, 1, 2] rfl (hFA 5 _ rfl)) (apw_nil)))))))) rfl rfl hl.1 rfl (lv_room (Nat.le_of_ble_eq_true rfl)) qd_M_orients_27 ⟨Nat.le_of_ble_eq_true rfl, Nat.le_of_ble_eq_true rfl⟩) hS (fun q _ h => hFr q h) hFr (fun r27 u9 t9 H27_2 L27_2 ht9 hv9 hr27 hB9 hz9 hk9 hS => ?_)
        obtain ⟨e3, v3, g3⟩ := u9
        try dsimp only at hr27 hB9
        obtain ⟨hP, hD⟩ := mw_join (wr := []) (w1 := [(mE, .inl (cI, 32, .inl (zA (eI e3)))), (mY, .inl (cI, 32, .inl (zA v3))), (mG, .inl (cZ, 256, .inl (zB g3)))]) hP hD [0, 1, 2] [] rfl rfl (by decide) (by decide) hk9 hFr ht9 hB9
        have hP := hP.sub (ws' := [(mE, .inl (cI, 32, .inl (zA (eI e3)))), (mY, .inl (cI, 32, .inl (zA v3))), (mG, .inl (cZ, 256, .inl (zB g3)))]) [0, 1, 2] rfl
        have hD := hD.sub (ws' := [(mE, .inl (cI, 32, .inl (zA (eI e3)))), (mY, .inl (cI, 32, .inl (zA v3))), (mG, .inl (cZ, 256, .inl (zB g3)))]) [0, 1, 2] (by decide) rfl
        have hF := fz_keep hF0 hFA hS
        refine zz_ifeqB (tgt := 39) hx hb qd_M_orients_30 (by decide) (fun h30 => ?_) (fun h30 => ?_)
        · skip
          refine lv_iconst (v := zI 0) hx hb qd_M_orients_39 rfl ?_
          refine lv_ior hx hb qd_M_orients_40 ?_
          refine lv_istore_n (lv' := [(2, .int ((obI (fun r => gtO ord rk wt (TH (lf r)) (TE (lf r)) (TM (lf r)) (tn (lf r)) (TH (rg r)) (TE (rg r)) (TM (rg r)) (tn (rg r))) i) ||| (zI 0))), (3, .int (zI (↑i))), (0, .ref o), (1, .int (zI (ord)))]) hx hb qd_M_orients_41 rfl hl (by decide) rfl (fun ls hl => ?_)
          refine lv_iinc (k := 1) (lv' := [(3, .int (zI (↑(i + 1)))), (2, .int ((obI (fun r => gtO ord rk wt (TH (lf r)) (TE (lf r)) (TM (lf r)) (tn (lf r)) (TH (rg r)) (TE (rg r)) (TM (rg r)) (tn (rg r))) i) ||| (zI 0))), (0, .ref o), (1, .int (zI (ord)))]) hx hb qd_M_orients_42 hl rfl (zI_inc (v := ↑(i + 1)) (by omega)) (by decide) rfl (fun ls hl => ?_)
          refine lv_goto (tgt := 4) hx hb qd_M_orients_45 (by decide) ?_
          have q9 : ((obI (fun r => gtO ord rk wt (TH (lf r)) (TE (lf r)) (TM (lf r)) (tn (lf r)) (TH (rg r)) (TE (rg r)) (TM (rg r)) (tn (rg r))) i) ||| (zI 0) : Int32) = obI (fun r => gtO ord rk wt (TH (lf r)) (TE (lf r)) (TM (lf r)) (tn (lf r)) (TH (rg r)) (TE (rg r)) (TM (rg r)) (tn (rg r))) (i + 1) := (by first | (rw [obI_t (P := fun r => gtO ord rk wt (TH (lf r)) (TE (lf r)) (TM (lf r)) (tn (lf r)) (TH (rg r)) (TE (rg r)) (TM (rg r)) (tn (rg r))) (hr27.mp h30)]) | (rw [obI_f (P := fun r => gtO ord rk wt (TH (lf r)) (TE (lf r)) (TM (lf r)) (tn (lf r)) (TH (rg r)) (TE (rg r)) (TM (rg r)) (tn (rg r))) (fun z => by rw [hr27.mpr z] at h30; exact Bool.noConfusion h30), or_z]))
          have hl : lv_has ls 4 [(3, .int (zI (↑(i + 1)))), (2, .int (obI (fun r => gtO ord rk wt (TH (lf r)) (TE (lf r)) (TM (lf r)) (tn (lf r)) (TH (rg r)) (TE (rg r)) (TM (rg r)) (tn (rg r))) (i + 1))), (0, .ref o), (1, .int (zI (ord)))] := (congrArg (fun z9 : Int32 => lv_has ls 4 [(3, .int (zI (↑(i + 1)))), (2, .int (z9)), (0, .ref o), (1, .int (zI (ord)))]) q9).mp hl
          exact ih4 _ (by omega) (i + 1) e3 v3 g3 (by omega) rfl H27_2 L27_2 hP hD hS ls hl
        · skip
          refine lv_iconst (v := zI 1) hx hb qd_M_orients_33 rfl ?_
          refine lv_iload_n hx hb qd_M_orients_34 rfl (lv_at hl 0 rfl) ?_
          refine lv_ishl hx hb qd_M_orients_35 ?_
          refine lv_goto (tgt := 40) hx hb qd_M_orients_36 (by decide) ?_
          refine lv_ior hx hb qd_M_orients_40 ?_
          refine lv_istore_n (lv' := [(2, .int ((obI (fun r => gtO ord rk wt (TH (lf r)) (TE (lf r)) (TM (lf r)) (tn (lf r)) (TH (rg r)) (TE (rg r)) (TM (rg r)) (tn (rg r))) i) ||| ((zI 1) <<< ((zI (↑i)) &&& 31)))), (3, .int (zI (↑i))), (0, .ref o), (1, .int (zI (ord)))]) hx hb qd_M_orients_41 rfl hl (by decide) rfl (fun ls hl => ?_)
          refine lv_iinc (k := 1) (lv' := [(3, .int (zI (↑(i + 1)))), (2, .int ((obI (fun r => gtO ord rk wt (TH (lf r)) (TE (lf r)) (TM (lf r)) (tn (lf r)) (TH (rg r)) (TE (rg r)) (TM (rg r)) (tn (rg r))) i) ||| ((zI 1) <<< ((zI (↑i)) &&& 31)))), (0, .ref o), (1, .int (zI (ord)))]) hx hb qd_M_orients_42 hl rfl (zI_inc (v := ↑(i + 1)) (by omega)) (by decide) rfl (fun ls hl => ?_)
          refine lv_goto (tgt := 4) hx hb qd_M_orients_45 (by decide) ?_
          have q9 : ((obI (fun r => gtO ord rk wt (TH (lf r)) (TE (lf r)) (TM (lf r)) (tn (lf r)) (TH (rg r)) (TE (rg r)) (TM (rg r)) (tn (rg r))) i) ||| ((zI 1) <<< ((zI (↑i)) &&& 31)) : Int32) = obI (fun r => gtO ord rk wt (TH (lf r)) (TE (lf r)) (TM (lf r)) (tn (lf r)) (TH (rg r)) (TE (rg r)) (TM (rg r)) (tn (rg r))) (i + 1) := (by first | (rw [obI_t (P := fun r => gtO ord rk wt (TH (lf r)) (TE (lf r)) (TM (lf r)) (tn (lf r)) (TH (rg r)) (TE (rg r)) (TM (rg r)) (tn (rg r))) (hr27.mp h30)]) | (rw [obI_f (P := fun r => gtO ord rk wt (TH (lf r)) (TE (lf r)) (TM (lf r)) (tn (lf r)) (TH (rg r)) (TE (rg r)) (TM (rg r)) (tn (rg r))) (fun z => by rw [hr27.mpr z] at h30; exact Bool.noConfusion h30), or_z]))
          have hl : lv_has ls 4 [(3, .int (zI (↑(i + 1)))), (2, .int (obI (fun r => gtO ord rk wt (TH (lf r)) (TE (lf r)) (TM (lf r)) (tn (lf r)) (TH (rg r)) (TE (rg r)) (TM (rg r)) (tn (rg r))) (i + 1))), (0, .ref o), (1, .int (zI (ord)))] := (congrArg (fun z9 : Int32 => lv_has ls 4 [(3, .int (zI (↑(i + 1)))), (2, .int (z9)), (0, .ref o), (1, .int (zI (ord)))]) q9).mp hl
          exact ih4 _ (by omega) (i + 1) e3 v3 g3 (by omega) rfl H27_2 L27_2 hP hD hS ls hl
  exact L4 _ 0 ef hv gr (by omega) rfl sg.heap [] hP hD hS ls hl
set_option maxHeartbeats 4000000 in
set_option maxRecDepth 100000 in
theorem c_M_ranked (l : Launch) (dC : Nat → ClassId) (dI : Nat → Nat → Nat) (cI cZ cT cJ : ClassId) (o mA mR mW mC mS mL mT mH mY mE mG mB mO sy tc rc : Nat) (tw : Int) (ar rk wt co : Nat → Int) (sz lf rg : Nat → Nat) (hi hv : Nat → Int) (ef : Nat → Nat) (gr : Nat → Bool) (bd ol : Nat → Int) (w : Nat) (zh : Nat) (hsy : sy ≤ 5) (hw : w < 100000) : Met l qy_M_ranked qw_M_ranked ({ frames := 0, cells := 0, slots := 0, locals := 0 }) (mwP (dC, dI) qcl (qty cI cZ cT cJ) nwL [(mR, .inl (cI, 5, .inl (zA rk)))] [(o, .inr (6, [.int (zI (↑sy)), .ref mA, .ref mR, .ref mW, .int (zI (↑tc)), .ref mC, .ref mS, .int (zI (↑rc)), .ref mL, .ref mT, .ref mH, .ref mY, .ref mE, .ref mG, .ref mB, .ref mO, .int (zI (tw))]))] zh [.ref o, .int (zI (↑w))]) (mwO (S := (Nat → Int)) (fun r uq => (r = true ↔ ds sy w = true) ∧ (∀ q, q < sy → uq q = ↑(dg sy w q)) ∧ ∀ q, sy ≤ q → uq q = rk q) (fun uq tq => mwB (dC, dI) qcl (qty cI cZ cT cJ) (va_A [(mR, .inl (cI, 5, .inl (zA rk)))] zh) [(mR, .inl (cI, 5, .inl (zA uq)))] tq) (va_A [(mR, .inl (cI, 5, .inl (zA rk)))] zh)) 0 0 (va_A [(mR, .inl (cI, 5, .inl (zA rk)))] zh) := by
  refine Met.ofW (cc := qc_M_ranked) (maxL := 5) (ret := (Option.some Jvm.ClassFile.FieldType.boolean)) (by decide) rfl ?_
  intro pg eg sg mg args below meth cg s₁ B hml hv
  obtain ⟨rfl, hsz, hP, hF0, hK, hN, hD0, hap⟩ := hv
  have hx := B.exec
  have hb := B.bytes
  have hr := B.returns
  have hts := atoms_spec (ws := qw_M_ranked) B.pre
  have hg : ∀ w ∈ gw, w.before _ sg = true := fun w h => hts w (List.mem_cons_of_mem _ h)
  have hown : sg.vm.findClass "TermOrdersModel" = some mg.cls := findClass_of_methodNamed B.named
  have hlocks := B.notSynchronized
  have hl := lv_entry ([.ref o, .int (zI (↑w))]) (n := 5) (Nat.le_of_ble_eq_true rfl)
  rw [lg_entry_eq]
  generalize (lg_sl ([.ref o, .int (zI (↑w))]) ++ List.replicate (5 - (lg_sl ([.ref o, .int (zI (↑w))])).length) Slot.unset).toArray = ls at hl ⊢
  subst hsz
  have hD := hD0.self (sz := sg.heap.size)
  have hFA := apw_A hap (fun k q hk => (hF0 k q hk).lt)
  generalize hAe : va_A [(mR, .inl (cI, 5, .inl (zA rk)))] sg.heap.size = A at hD hFA ⊢
  have hA : ∀ q : Nat, sg.heap.size ≤ q → A q := fun q h => by rw [← hAe]; exact Or.inr h
  have hS : va_S A sg.heap sg.heap [] := va_S.rf
  have hF := hF0
  have hl : lv_has ls 5 [(0, .ref o), (1, .int (zI (↑w)))] := hl
  refine lv_iload_n hx hb qd_M_ranked_0 rfl (lv_at hl 1 rfl) ?_
  refine lv_istore_n (lv' := [(2, .int (zI (↑w))), (0, .ref o), (1, .int (zI (↑w)))]) hx hb qd_M_ranked_1 rfl hl (by decide) rfl (fun ls hl => ?_)
  refine lv_aload_n hx hb qd_M_ranked_2 rfl (lv_at hl 1 rfl) ?_
  refine va_get (D := (dC, dI)) (ci := 6) (v := .int (zI (↑sy))) (C := "TermOrdersModel") (T := qT_M) (N := 17) hx hb hg qi_M hown hK hF 0 rfl rfl 0 (by decide) (hg _ wd_618) (fun _ h9 => h9) rfl qd_M_ranked_3 ?_
  refine lv_iconst (v := zI 1) hx hb qd_M_ranked_6 rfl ?_
  refine zz_isub hx hb ((↑sy) - 1) rfl qd_M_ranked_7 ?_
  refine lv_istore_n (lv' := [(3, .int (zI ((↑sy) - 1))), (2, .int (zI (↑w))), (0, .ref o), (1, .int (zI (↑w)))]) hx hb qd_M_ranked_8 rfl hl (by decide) rfl (fun ls hl => ?_)
  have L9 : ∀ (d9 : Nat) (k : Nat) (rz : Nat → Int), (k ≤ sy) → (∀ q, sy - k ≤ q → q < sy → rz q = ↑(dg sy w q)) → (∀ q, sy ≤ q → rz q = rk q) → sy - k = d9 → ∀ (H9_1 : Heap) (L9_1 : List Loc), va_P (dC, dI) qcl [(mR, .inl (cI, 5, .inl (zA rz)))] H9_1 → va_D A [(mR, .inl (cI, 5, .inl (zA rz)))] → va_S A sg.heap H9_1 L9_1 → ∀ ls : Array Slot, lv_has ls 5 [(3, .int (zI (↑sy - 1 - ↑k))), (2, .int (zI (↑(w / sy ^ k)))), (0, .ref o), (1, .int (zI (↑w)))] → W pg l eg (headSpec qw_M_ranked ({ frames := 0, cells := 0, slots := 0, locals := 0 })).room sg mg ([.ref o, .int (zI (↑w))] : List Value).toArray below meth cg H9_1 L9_1 0 0 (MQ below (mwO (S := (Nat → Int)) (fun r uq => (r = true ↔ ds sy w = true) ∧ (∀ q, q < sy → uq q = ↑(dg sy w q)) ∧ ∀ q, sy ≤ q → uq q = rk q) (fun uq tq => mwB (dC, dI) qcl (qty cI cZ cT cJ) A [(mR, .inl (cI, 5, .inl (zA uq)))] tq) A) ([.ref o, .int (zI (↑w))] : List Value).toArray sg 0 0 A) (F0 mg 9 ls []) := by
    intro d9
    induction d9 using Nat.strongRecOn with
    | _ d9 ih9 =>
      intro k rz hk hz hz2 hd9 H9_1 L9_1 hP hD hS ls hl
      have hF := fz_keep hF0 hFA hS
      refine lv_iload_n hx hb qd_M_ranked_9 rfl (lv_at hl 0 rfl) ?_
      refine zz_if_lt (tgt := 38) hx hb qd_M_ranked_10 (by decide) (by omega) (fun h10 => ?_) (fun h10 => ?_)
      · skip
        have hA1 : ∀ q, q < sy → rz q = ↑(dg sy w q) := fun q hq => hz q (by omega) hq
        refine lv_iconst (v := zI 0) hx hb qd_M_ranked_38 rfl ?_
        refine lv_istore_n (lv' := [(3, .int (zI (0))), (2, .int (zI (↑(w / sy ^ k)))), (0, .ref o), (1, .int (zI (↑w)))]) hx hb qd_M_ranked_39 rfl hl (by decide) rfl (fun ls hl => ?_)
        have L40 : ∀ (d9 : Nat) (i : Nat), (i ≤ sy) → (∀ u, u < i → ∀ v, v < u → dg sy w v ≠ dg sy w u) → sy - i = d9 → ∀ ls : Array Slot, lv_has ls 5 [(3, .int (zI (↑i))), (2, .int (zI (↑(w / sy ^ k)))), (0, .ref o), (1, .int (zI (↑w)))] → W pg l eg (headSpec qw_M_ranked ({ frames := 0, cells := 0, slots := 0, locals := 0 })).room sg mg ([.ref o, .int (zI (↑w))] : List Value).toArray below meth cg H9_1 L9_1 0 0 (MQ below (mwO (S := (Nat → Int)) (fun r uq => (r = true ↔ ds sy w = true) ∧ (∀ q, q < sy → uq q = ↑(dg sy w q)) ∧ ∀ q, sy ≤ q → uq q = rk q) (fun uq tq => mwB (dC, dI) qcl (qty cI cZ cT cJ) A [(mR, .inl (cI, 5, .inl (zA uq)))] tq) A) ([.ref o, .int (zI (↑w))] : List Value).toArray sg 0 0 A) (F0 mg 40 ls []) := by
          intro d9
          induction d9 using Nat.strongRecOn with
          | _ d9 ih40 =>
            intro i hi8 hs1 hd9 ls hl
            refine lv_iload_n hx hb qd_M_ranked_40 rfl (lv_at hl 0 rfl) ?_
            refine lv_aload_n hx hb qd_M_ranked_41 rfl (lv_at hl 2 rfl) ?_
            refine va_get (D := (dC, dI)) (ci := 6) (v := .int (zI (↑sy))) (C := "TermOrdersModel") (T := qT_M) (N := 17) hx hb hg qi_M hown hK hF 0 rfl rfl 0 (by decide) (hg _ wd_618) (fun _ h9 => h9) rfl qd_M_ranked_42 ?_
            refine zz_icmp_ge (tgt := 87) hx hb qd_M_ranked_45 (by decide) (by omega) (by omega) (fun h45 => ?_) (fun h45 => ?_)
            · skip
              refine lv_iconst (v := zI 1) hx hb qd_M_ranked_87 rfl ?_
              exact W.zret (v := zI (bI true)) (ty := .boolean) hx hb hr (bI_n _) (fun t9 ht9 hW9 => ⟨⟨true, rz, rfl, ⟨⟨fun _ => ds_iff.mpr (fun u hu => hs1 u (by omega)), fun _ => rfl⟩, hA1, hz2⟩, mwB_i (by rw [ht9]; exact hP) (va_K.moved hW9.alike hK) hD⟩, hS.F ht9⟩) hS.2.2 qd_M_ranked_88
            · skip
              have hi5 : i < sy := by omega
              have hq1 := hA1 i hi5
              have hq1b : dg sy w i < sy := Nat.mod_lt _ (by omega)
              refine lv_iconst (v := zI 0) hx hb qd_M_ranked_48 rfl ?_
              refine lv_istore (lv' := [(4, .int (zI (0))), (3, .int (zI (↑i))), (2, .int (zI (↑(w / sy ^ k)))), (0, .ref o), (1, .int (zI (↑w)))]) hx hb qd_M_ranked_49 hl (by decide) rfl (fun ls hl => ?_)
              have L51 : ∀ (d9 : Nat) (j : Nat), (j ≤ i) → (∀ v, v < j → dg sy w v ≠ dg sy w i) → i - j = d9 → ∀ ls : Array Slot, lv_has ls 5 [(4, .int (zI (↑j))), (3, .int (zI (↑i))), (2, .int (zI (↑(w / sy ^ k)))), (0, .ref o), (1, .int (zI (↑w)))] → W pg l eg (headSpec qw_M_ranked ({ frames := 0, cells := 0, slots := 0, locals := 0 })).room sg mg ([.ref o, .int (zI (↑w))] : List Value).toArray below meth cg H9_1 L9_1 0 0 (MQ below (mwO (S := (Nat → Int)) (fun r uq => (r = true ↔ ds sy w = true) ∧ (∀ q, q < sy → uq q = ↑(dg sy w q)) ∧ ∀ q, sy ≤ q → uq q = rk q) (fun uq tq => mwB (dC, dI) qcl (qty cI cZ cT cJ) A [(mR, .inl (cI, 5, .inl (zA uq)))] tq) A) ([.ref o, .int (zI (↑w))] : List Value).toArray sg 0 0 A) (F0 mg 51 ls []) := by
                intro d9
                induction d9 using Nat.strongRecOn with
                | _ d9 ih51 =>
                  intro j hj8 hs2 hd9 ls hl
                  refine lv_iload hx hb qd_M_ranked_51 (lv_at hl 0 rfl) ?_
                  refine lv_iload_n hx hb qd_M_ranked_53 rfl (lv_at hl 1 rfl) ?_
                  refine zz_icmp_ge (tgt := 81) hx hb qd_M_ranked_54 (by decide) (by omega) (by omega) (fun h54 => ?_) (fun h54 => ?_)
                  · skip
                    refine lv_iinc (k := 1) (lv' := [(3, .int (zI (↑(i + 1)))), (4, .int (zI (↑j))), (2, .int (zI (↑(w / sy ^ k)))), (0, .ref o), (1, .int (zI (↑w)))]) hx hb qd_M_ranked_81 hl rfl (zI_inc (v := ↑(i + 1)) (by omega)) (by decide) rfl (fun ls hl => ?_)
                    refine lv_goto (tgt := 40) hx hb qd_M_ranked_84 (by decide) ?_
                    have hl := lv_sub (l' := [(3, .int (zI (↑(i + 1)))), (2, .int (zI (↑(w / sy ^ k)))), (0, .ref o), (1, .int (zI (↑w)))]) hl [0, 2, 3, 4] rfl
                    exact ih40 _ (by omega) (i + 1) (by omega) (fun u hu v hv => if h8 : u < i then hs1 u h8 v hv else (by rw [show u = i by omega] at hv ⊢; exact hs2 v (by omega))) rfl ls hl
                  · skip
                    have hq2 := hA1 j (by omega)
                    have hq2b : dg sy w j < sy := Nat.mod_lt _ (by omega)
                    refine lv_aload_n hx hb qd_M_ranked_57 rfl (lv_at hl 3 rfl) ?_
                    refine va_get (D := (dC, dI)) (ci := 6) (v := .ref mR) (C := "TermOrdersModel") (T := qT_M) (N := 17) hx hb hg qi_M hown hK hF 0 rfl rfl 2 (by decide) (hg _ wd_620) (fun _ h9 => h9) rfl qd_M_ranked_58 ?_
                    refine lv_iload hx hb qd_M_ranked_61 (lv_at hl 0 rfl) ?_
                    refine zz_iald hx hb hK hP 0 0 rfl rfl j rfl (by omega) (by omega) qd_M_ranked_63 ?_
                    refine zz_top (b := ↑(dg sy w j)) hq2 ?_
                    refine lv_aload_n hx hb qd_M_ranked_64 rfl (lv_at hl 3 rfl) ?_
                    refine va_get (D := (dC, dI)) (ci := 6) (v := .ref mR) (C := "TermOrdersModel") (T := qT_M) (N := 17) hx hb hg qi_M hown hK hF 0 rfl rfl 2 (by decide) (hg _ wd_620) (fun _ h9 => h9) rfl qd_M_ranked_65 ?_
                    refine lv_iload_n hx hb qd_M_ranked_68 rfl (lv_at hl 1 rfl) ?_
                    refine zz_iald hx hb hK hP 0 0 rfl rfl i rfl (by omega) (by omega) qd_M_ranked_69 ?_
                    refine zz_top (b := ↑(dg sy w i)) hq1 ?_
                    refine zz_icmp_ne (tgt := 75) hx hb qd_M_ranked_70 (by decide) (by omega) (by omega) (fun h70 => ?_) (fun h70 => ?_)
                    · skip
                      refine lv_iinc (k := 0) (lv' := [(4, .int (zI (↑(j + 1)))), (3, .int (zI (↑i))), (2, .int (zI (↑(w / sy ^ k)))), (0, .ref o), (1, .int (zI (↑w)))]) hx hb qd_M_ranked_75 hl rfl (zI_inc (v := ↑(j + 1)) (by omega)) (by decide) rfl (fun ls hl => ?_)
                      refine lv_goto (tgt := 51) hx hb qd_M_ranked_78 (by decide) ?_
                      exact ih51 _ (by omega) (j + 1) (by omega) (fun v hv => if h8 : v < j then hs2 v h8 else (by rw [show v = j by omega]; intro z; exact h70 (by rw [z]))) rfl ls hl
                    · skip
                      refine lv_iconst (v := zI 0) hx hb qd_M_ranked_73 rfl ?_
                      exact W.zret (v := zI (bI false)) (ty := .boolean) hx hb hr (bI_n _) (fun t9 ht9 hW9 => ⟨⟨false, rz, rfl, ⟨⟨fun z => Bool.noConfusion z, fun z => absurd (Int.ofNat.inj h70) (ds_iff.mp z i hi5 j (by omega))⟩, hA1, hz2⟩, mwB_i (by rw [ht9]; exact hP) (va_K.moved hW9.alike hK) hD⟩, hS.F ht9⟩) hS.2.2 qd_M_ranked_74
              exact L51 _ 0 (by omega) (fun v hv => by omega) rfl ls hl
        exact L40 _ 0 (by omega) (fun u hu => by omega) rfl ls hl
      · skip
        have hdv : w / sy ^ k < 100000 := Nat.lt_of_le_of_lt (Nat.div_le_self _ _) hw
        refine lv_aload_n hx hb qd_M_ranked_13 rfl (lv_at hl 2 rfl) ?_
        refine va_get (D := (dC, dI)) (ci := 6) (v := .ref mR) (C := "TermOrdersModel") (T := qT_M) (N := 17) hx hb hg qi_M hown hK hF 0 rfl rfl 2 (by decide) (hg _ wd_620) (fun _ h9 => h9) rfl qd_M_ranked_14 ?_
        refine lv_iload_n hx hb qd_M_ranked_17 rfl (lv_at hl 0 rfl) ?_
        refine lv_iload_n hx hb qd_M_ranked_18 rfl (lv_at hl 1 rfl) ?_
        refine lv_aload_n hx hb qd_M_ranked_19 rfl (lv_at hl 2 rfl) ?_
        refine va_get (D := (dC, dI)) (ci := 6) (v := .int (zI (↑sy))) (C := "TermOrdersModel") (T := qT_M) (N := 17) hx hb hg qi_M hown hK hF 0 rfl rfl 0 (by decide) (hg _ wd_618) (fun _ h9 => h9) rfl qd_M_ranked_20 ?_
        refine zz_irem (a := (w / sy ^ k)) (b := sy) hx hb (by omega) (by omega) (by omega) qd_M_ranked_23 ?_
        refine zz_iast hx hb hK hP hD hS 0 0 rfl rfl (sy - 1 - k) (by omega) (by omega) (by omega) qd_M_ranked_24 (fun H24_2 L24_2 hP hD hS => ?_)
        have hP : va_P (dC, dI) qcl [(mR, .inl (cI, 5, .inl (zA (uz rz (sy - 1 - k) (↑((w / sy ^ k) % sy))))))] H24_2 := hP
        have hD : va_D A [(mR, .inl (cI, 5, .inl (zA (uz rz (sy - 1 - k) (↑((w / sy ^ k) % sy))))))] := hD
        have hF := fz_keep hF0 hFA hS
        refine lv_iload_n hx hb qd_M_ranked_25 rfl (lv_at hl 1 rfl) ?_
        refine lv_aload_n hx hb qd_M_ranked_26 rfl (lv_at hl 2 rfl) ?_
        refine va_get (D := (dC, dI)) (ci := 6) (v := .int (zI (↑sy))) (C := "TermOrdersModel") (T := qT_M) (N := 17) hx hb hg qi_M hown hK hF 0 rfl rfl 0 (by decide) (hg _ wd_618) (fun _ h9 => h9) rfl qd_M_ranked_27 ?_
        refine zz_idiv (a := (w / sy ^ k)) (b := sy) hx hb (by omega) (by omega) (by omega) qd_M_ranked_30 ?_
        refine lv_istore_n (lv' := [(2, .int (zI (↑((w / sy ^ k) / sy)))), (3, .int (zI (↑sy - 1 - ↑k))), (0, .ref o), (1, .int (zI (↑w)))]) hx hb qd_M_ranked_31 rfl hl (by decide) rfl (fun ls hl => ?_)
        refine lv_iinc (k := 1) (lv' := [(3, .int (zI (↑sy - 1 - ↑(k + 1)))), (2, .int (zI (↑((w / sy ^ k) / sy)))), (0, .ref o), (1, .int (zI (↑w)))]) hx hb qd_M_ranked_32 hl rfl (zI_inc (v := ↑sy - 1 - ↑(k + 1)) (by omega)) (by decide) rfl (fun ls hl => ?_)
        refine lv_goto (tgt := 9) hx hb qd_M_ranked_35 (by decide) ?_
        have q9 : (↑((w / sy ^ k) / sy) : Int) = ↑(w / sy ^ (k + 1)) := (by rw [Nat.pow_succ, Nat.div_div_eq_div_mul])
        have hl : lv_has ls 5 [(3, .int (zI (↑sy - 1 - ↑(k + 1)))), (2, .int (zI (↑(w / sy ^ (k + 1))))), (0, .ref o), (1, .int (zI (↑w)))] := (congrArg (fun z9 : Int => lv_has ls 5 [(3, .int (zI (↑sy - 1 - ↑(k + 1)))), (2, .int (zI (z9))), (0, .ref o), (1, .int (zI (↑w)))]) q9).mp hl
        exact ih9 _ (by omega) (k + 1) (uz rz (sy - 1 - k) ↑(w / sy ^ k % sy)) (by omega) (fun q h1 h2 => if h8 : q = sy - 1 - k then (by rw [h8, uz_s]; unfold dg; rw [show sy - 1 - (sy - 1 - k) = k by omega]) else (by rw [uz_n _ _ h8]; exact hz q (by omega) h2)) (fun q hq => by rw [uz_n _ _ (by omega)]; exact hz2 q hq) rfl H24_2 L24_2 hP hD hS ls hl
  have q9 : (↑w : Int) = ↑(w / sy ^ 0) := (by rw [Nat.pow_zero, Nat.div_one])
  have hl : lv_has ls 5 [(3, .int (zI ((↑sy) - 1))), (2, .int (zI (↑(w / sy ^ 0)))), (0, .ref o), (1, .int (zI (↑w)))] := (congrArg (fun z9 : Int => lv_has ls 5 [(3, .int (zI ((↑sy) - 1))), (2, .int (zI (z9))), (0, .ref o), (1, .int (zI (↑w)))]) q9).mp hl
  have q9 : ((↑sy) - 1 : Int) = ↑sy - 1 - ↑0 := (by omega)
  have hl : lv_has ls 5 [(3, .int (zI (↑sy - 1 - ↑0))), (2, .int (zI (↑(w / sy ^ 0)))), (0, .ref o), (1, .int (zI (↑w)))] := (congrArg (fun z9 : Int => lv_has ls 5 [(3, .int (zI (z9))), (2, .int (zI (↑(w / sy ^ 0)))), (0, .ref o), (1, .int (zI (↑w)))]) q9).mp hl
  exact L9 _ 0 rk (by omega) (fun q h1 h2 => by omega) (fun q _ => rfl) rfl sg.heap [] hP hD hS ls hl
