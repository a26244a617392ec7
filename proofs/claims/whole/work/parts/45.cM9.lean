theorem pow_b {n : Nat} (h : n ≤ 5) : n ^ n ≤ 3125 := by
  rcases (show n = 0 ∨ n = 1 ∨ n = 2 ∨ n = 3 ∨ n = 4 ∨ n = 5 by omega) with rfl | rfl | rfl | rfl | rfl | rfl <;> decide
theorem rkW_of {n w : Nat} {rk r3 : Nat → Int} (h1 : ∀ q, q < n → r3 q = ↑(dg n w q)) (h2 : ∀ q, n ≤ q → r3 q = rk q) : r3 = rkW n w rk := by
  funext q
  unfold rkW
  split
  · exact h1 q (by omega)
  · exact h2 q (by omega)
theorem rkW_hi {n w : Nat} {rk : Nat → Int} : ∀ q, n ≤ q → rkW n w rk q = rk q := by
  intro q hq
  unfold rkW
  rw [if_neg (by omega)]
theorem rkW_b {n w : Nat} {rk : Nat → Int} (hn : n ≤ 5) (h : ∀ q, q < 5 → 0 ≤ rk q ∧ rk q ≤ 4) : ∀ q, q < 5 → 0 ≤ rkW n w rk q ∧ rkW n w rk q ≤ 4 := by
  intro q hq
  unfold rkW
  split
  · have : dg n w q < n := Nat.mod_lt _ (by omega)
    omega
  · exact h q hq
def obB (f : Nat → Bool) : Nat → Int32
  | 0 => 0
  | r + 1 => if f r then obB f r ||| (1 <<< (Int32.ofInt (r : Int) &&& 31)) else obB f r
theorem obI_B (P : Nat → Prop) (f : Nat → Bool) (hf : ∀ r, f r = true ↔ P r) : ∀ n, obI P n = obB f n := by
  intro n
  induction n with
  | zero => exact zI_0
  | succ n ih =>
    by_cases h : P n
    · rw [obI_t h, ih]
      show _ = if f n then _ else _
      rw [if_pos ((hf n).mpr h)]
      rfl
    · rw [obI_f h, ih]
      show _ = if f n then _ else _
      rw [if_neg (fun z => h ((hf n).mp z))]
def obM : Nat → Int32 := fun n => (1 <<< (Int32.ofInt (n : Int) &&& 31)) - 1
def obL : List Bool → Int32
  | [] => 0
  | b :: r => if b then obL r ||| (1 <<< (Int32.ofInt (r.length : Int) &&& 31)) else obL r
def fL (f : Nat → Bool) : Nat → List Bool
  | 0 => []
  | n + 1 => f n :: fL f n
theorem fL_len (f : Nat → Bool) : ∀ n, (fL f n).length = n := by
  intro n
  induction n with
  | zero => rfl
  | succ n ih => show (fL f n).length + 1 = _; rw [ih]
theorem obB_L (f : Nat → Bool) : ∀ n, obB f n = obL (fL f n) := by
  intro n
  induction n with
  | zero => rfl
  | succ n ih =>
    show (if f n then _ else _) = if f n then obL (fL f n) ||| (1 <<< (Int32.ofInt ((fL f n).length : Int) &&& 31)) else obL (fL f n)
    rw [fL_len, ih]
def allB : Nat → List (List Bool)
  | 0 => [[]]
  | n + 1 => (allB n).map (true :: ·) ++ (allB n).map (false :: ·)
theorem allB_m : ∀ (l : List Bool), l ∈ allB l.length := by
  intro l
  induction l with
  | nil => exact List.mem_singleton.mpr rfl
  | cons b r ih =>
    show b :: r ∈ (allB r.length).map (true :: ·) ++ (allB r.length).map (false :: ·)
    rw [List.mem_append]
    cases b with
    | true => exact Or.inl (List.mem_map.mpr ⟨r, ih, rfl⟩)
    | false => exact Or.inr (List.mem_map.mpr ⟨r, ih, rfl⟩)
theorem obL_key : ∀ n, n < 9 → (allB n).all (fun l => decide (obL l = obM n) == l.all id) = true := by decide +kernel
theorem obI_all {P : Nat → Prop} {n : Nat} (hn : n ≤ 8) : obI P n = (zI 1 <<< (zI ↑n &&& 31)) - zI 1 ↔ ∀ r, r < n → P r := by
  let f : Nat → Bool := fun r => @decide (P r) (Classical.propDecidable _)
  have hf : ∀ r, f r = true ↔ P r := fun r => ⟨fun z => @of_decide_eq_true _ (Classical.propDecidable _) z, fun z => @decide_eq_true _ (Classical.propDecidable _) z⟩
  rw [obI_B P f hf, obB_L]
  have key := obL_key n (by omega)
  rw [List.all_eq_true] at key
  have hm := allB_m (fL f n)
  rw [fL_len] at hm
  have k := key _ hm
  rw [beq_iff_eq] at k
  have e : (obL (fL f n) = obM n) ↔ (fL f n).all id = true := by
    constructor
    · intro z; rw [← k]; exact decide_eq_true z
    · intro z; rw [← k] at z; exact of_decide_eq_true z
  refine Iff.trans e ?_
  have aux : ∀ m, (fL f m).all id = true ↔ ∀ r, r < m → P r := by
    intro m
    induction m with
    | zero => exact ⟨fun _ r hr => absurd hr (by omega), fun _ => rfl⟩
    | succ m ih =>
      show (f m :: fL f m).all id = true ↔ _
      rw [List.all_cons, Bool.and_eq_true, ih]
      constructor
      · rintro ⟨a, b⟩ r hr
        by_cases e : r = m
        · rw [e]; exact (hf m).mp a
        · exact b r (by omega)
      · intro h
        exact ⟨(hf m).mpr (h m (by omega)), fun r hr => h r (by omega)⟩
  exact aux n
set_option maxHeartbeats 4000000 in
set_option maxRecDepth 100000 in
theorem c_M_search (l : Launch) (dC : Nat → ClassId) (dI : Nat → Nat → Nat) (cI cZ cT cJ : ClassId) (o mA mR mW mC mS mL mT mH mY mE mG mB mO sy tc rc : Nat) (tw : Int) (ar rk wt co : Nat → Int) (sz lf rg : Nat → Nat) (hi hv : Nat → Int) (ef : Nat → Nat) (gr : Nat → Bool) (bd ol : Nat → Int) (tn : Nat → Nat) (TH TM : Nat → Nat → Int) (TE : Nat → Nat → Nat) (HT : Nat → Nat → Int) (x : Int) (zh : Nat) (har : ∀ q, q < 5 → 0 ≤ ar q ∧ ar q ≤ 3) (hrk : ∀ q, q < 5 → 0 ≤ rk q ∧ rk q ≤ 4) (hwt : ∀ q, q < 5 → 0 ≤ wt q ∧ wt q ≤ 9) (hsy : sy ≤ 5) (htc : tc ≤ 160) (htp : ∀ t, t < tc → okT sy ar (tn t) (TH t) (TM t) (TE t) (HT t) ∧ sz t = tn t ∧ ∀ q, q < tn t → co (16 * t + q) = TH t q) (hrc : rc ≤ 8) (hlr : ∀ r, r < rc → lf r < tc ∧ rg r < tc ∧ ∀ q, q < tn (rg r) → TH (rg r) q < 0 → ∃ k, k < tn (lf r) ∧ TH (lf r) k = TH (rg r) q) (h32x : -2147483648 ≤ x ∧ x < 2147483648) : Met l qy_M_search qw_M_search ({ frames := 7, cells := 0, slots := 0, locals := 177 }) (mwP (dC, dI) qcl (qty cI cZ cT cJ) nwL [(o, .inr (6, [.int (zI (↑sy)), .ref mA, .ref mR, .ref mW, .int (zI (↑tc)), .ref mC, .ref mS, .int (zI (↑rc)), .ref mL, .ref mT, .ref mH, .ref mY, .ref mE, .ref mG, .ref mB, .ref mO, .int (zI (tw))])), (mR, .inl (cI, 5, .inl (zA rk))), (mE, .inl (cI, 32, .inl (zA (eI ef)))), (mY, .inl (cI, 32, .inl (zA hv))), (mG, .inl (cZ, 256, .inl (zB gr))), (mO, .inl (cI, 5, .inl (zA ol)))] [(mA, .inl (cI, 5, .inl (zA ar))), (mW, .inl (cI, 5, .inl (zA wt))), (mC, .inl (cI, 2608, .inl (zA co))), (mS, .inl (cI, 163, .inl (zA (eI sz)))), (mL, .inl (cI, 8, .inl (zA (eI lf)))), (mT, .inl (cI, 8, .inl (zA (eI rg))))] zh [.ref o, .int (zI (x))]) (mwO (S := (Int) × (Nat → Int) × (Nat → Nat) × (Nat → Int) × (Nat → Bool) × (Nat → Int)) (fun r uq => (¬ (0 ≤ x ∧ x ≤ 1) ∧ uq.1 = 1 ∧ uq.2.1 = rk) ∨ ((0 ≤ x ∧ x ≤ 1) ∧ uq.1 = 0 ∧ ((r = true ∧ ∃ w, w < sy ^ sy ∧ (ds sy w = true ∧ (x = 1 → ∀ us, us < sy → ¬ (ar us = 0 ∧ wt us = 0) ∧ ∀ t, t < sy → ¬ (ar us = 1 ∧ wt us = 0 ∧ t ≠ us ∧ ((rkW sy w rk)) us ≤ ((rkW sy w rk)) t)) ∧ ∀ r, r < rc → gtO x ((rkW sy w rk)) wt (TH (lf r)) (TE (lf r)) (TM (lf r)) (tn (lf r)) (TH (rg r)) (TE (rg r)) (TM (rg r)) (tn (rg r))) ∧ (∀ w1, w1 < w → ¬ (ds sy w1 = true ∧ (x = 1 → ∀ us, us < sy → ¬ (ar us = 0 ∧ wt us = 0) ∧ ∀ t, t < sy → ¬ (ar us = 1 ∧ wt us = 0 ∧ t ≠ us ∧ ((rkW sy w1 rk)) us ≤ ((rkW sy w1 rk)) t)) ∧ ∀ r, r < rc → gtO x ((rkW sy w1 rk)) wt (TH (lf r)) (TE (lf r)) (TM (lf r)) (tn (lf r)) (TH (rg r)) (TE (rg r)) (TM (rg r)) (tn (rg r)))) ∧ uq.2.1 = rkW sy w rk) ∨ (r = false ∧ (∀ w, w < sy ^ sy → ¬ (ds sy w = true ∧ (x = 1 → ∀ us, us < sy → ¬ (ar us = 0 ∧ wt us = 0) ∧ ∀ t, t < sy → ¬ (ar us = 1 ∧ wt us = 0 ∧ t ≠ us ∧ ((rkW sy w rk)) us ≤ ((rkW sy w rk)) t)) ∧ ∀ r, r < rc → gtO x ((rkW sy w rk)) wt (TH (lf r)) (TE (lf r)) (TM (lf r)) (tn (lf r)) (TH (rg r)) (TE (rg r)) (TM (rg r)) (tn (rg r)))) ∧ uq.2.1 = rk)))) (fun uq tq => mwB (dC, dI) qcl (qty cI cZ cT cJ) (va_A [(o, .inr (6, [.int (zI (↑sy)), .ref mA, .ref mR, .ref mW, .int (zI (↑tc)), .ref mC, .ref mS, .int (zI (↑rc)), .ref mL, .ref mT, .ref mH, .ref mY, .ref mE, .ref mG, .ref mB, .ref mO, .int (zI (tw))])), (mR, .inl (cI, 5, .inl (zA rk))), (mE, .inl (cI, 32, .inl (zA (eI ef)))), (mY, .inl (cI, 32, .inl (zA hv))), (mG, .inl (cZ, 256, .inl (zB gr))), (mO, .inl (cI, 5, .inl (zA ol)))] zh) [(o, .inr (6, [.int (zI (↑sy)), .ref mA, .ref mR, .ref mW, .int (zI (↑tc)), .ref mC, .ref mS, .int (zI (↑rc)), .ref mL, .ref mT, .ref mH, .ref mY, .ref mE, .ref mG, .ref mB, .ref mO, .int (zI (uq.1))])), (mR, .inl (cI, 5, .inl (zA uq.2.1))), (mE, .inl (cI, 32, .inl (zA (eI uq.2.2.1)))), (mY, .inl (cI, 32, .inl (zA uq.2.2.2.1))), (mG, .inl (cZ, 256, .inl (zB uq.2.2.2.2.1))), (mO, .inl (cI, 5, .inl (zA uq.2.2.2.2.2)))] tq) (va_A [(o, .inr (6, [.int (zI (↑sy)), .ref mA, .ref mR, .ref mW, .int (zI (↑tc)), .ref mC, .ref mS, .int (zI (↑rc)), .ref mL, .ref mT, .ref mH, .ref mY, .ref mE, .ref mG, .ref mB, .ref mO, .int (zI (tw))])), (mR, .inl (cI, 5, .inl (zA rk))), (mE, .inl (cI, 32, .inl (zA (eI ef)))), (mY, .inl (cI, 32, .inl (zA hv))), (mG, .inl (cZ, 256, .inl (zB gr))), (mO, .inl (cI, 5, .inl (zA ol)))] zh)) 0 0 (va_A [(o, .inr (6, [.int (zI (↑sy)), .ref mA, .ref mR, .ref mW, .int (zI (↑tc)), .ref mC, .ref mS, .int (zI (↑rc)), .ref mL, .ref mT, .ref mH, .ref mY, .ref mE, .ref mG, .ref mB, .ref mO, .int (zI (tw))])), (mR, .inl (cI, 5, .inl (zA rk))), (mE, .inl (cI, 32, .inl (zA (eI ef)))), (mY, .inl (cI, 32, .inl (zA hv))), (mG, .inl (cZ, 256, .inl (zB gr))), (mO, .inl (cI, 5, .inl (zA ol)))] zh) := by
  refine Met.ofW (cc := qc_M_search) (maxL := 4) (ret := (Option.some Jvm.ClassFile.FieldType.boolean)) (by decide) rfl ?_
  intro pg eg sg mg args below meth cg s₁ B hml hv
  obtain ⟨rfl, hsz, hP, hF0, hK, hN, hD0, hap⟩ := hv
  have hx := B.exec
  have hb := B.bytes
  have hr := B.returns
  have hts := atoms_spec (ws := qw_M_search) B.pre
  have hg : ∀ w ∈ gw, w.before _ sg = true := fun w h => hts w (List.mem_cons_of_mem _ h)
  have hown : sg.vm.findClass "TermOrdersModel" = some mg.cls := findClass_of_methodNamed B.named
  have hlocks := B.notSynchronized
  have hl := lv_entry ([.ref o, .int (zI (x))]) (n := 4) (Nat.le_of_ble_eq_true rfl)
  rw [lg_entry_eq]
  generalize (lg_sl ([.ref o, .int (zI (x))]) ++ List.replicate (4 - (lg_sl ([.ref o, .int (zI (x))])).length) Slot.unset).toArray = ls at hl ⊢
  subst hsz
  have hD := hD0.self (sz := sg.heap.size)
  have hFA := apw_A hap (fun k q hk => (hF0 k q hk).lt)
  generalize hAe : va_A [(o, .inr (6, [.int (zI (↑sy)), .ref mA, .ref mR, .ref mW, .int (zI (↑tc)), .ref mC, .ref mS, .int (zI (↑rc)), .ref mL, .ref mT, .ref mH, .ref mY, .ref mE, .ref mG, .ref mB, .ref mO, .int (zI (tw))])), (mR, .inl (cI, 5, .inl (zA rk))), (mE, .inl (cI, 32, .inl (zA (eI ef)))), (mY, .inl (cI, 32, .inl (zA hv))), (mG, .inl (cZ, 256, .inl (zB gr))), (mO, .inl (cI, 5, .inl (zA ol)))] sg.heap.size = A at hD hFA ⊢
  have hA : ∀ q : Nat, sg.heap.size ≤ q → A q := fun q h => by rw [← hAe]; exact Or.inr h
  have hS : va_S A sg.heap sg.heap [] := va_S.rf
  have hF := hF0
  have hl : lv_has ls 4 [(0, .ref o), (1, .int (zI (x)))] := hl
  have hpw := pow_b hsy
  refine lv_aload_n hx hb qd_M_search_0 rfl (lv_at hl 0 rfl) ?_
  refine lv_iload_n hx hb qd_M_search_1 rfl (lv_at hl 1 rfl) ?_
  refine zz_if_lt (tgt := 10) hx hb qd_M_search_2 (by decide) (by omega) (fun h2 => ?_) (fun h2 => ?_)
  · skip
    refine lv_iconst (v := zI 1) hx hb qd_M_search_10 rfl ?_
    refine lv_goto (tgt := 15) hx hb qd_M_search_11 (by decide) ?_
    refine va_put (D := (dC, dI)) (ci := 6) (v := .int (zI (1))) (ty := .int) (C := "TermOrdersModel") (T := qT_M) (N := 17) hx hb hg qi_M qt_M qo_M qn_M hown hK hP hD hS 0 rfl rfl 16 (by decide) (hg _ wd_634) (fun _ h9 => h9) rfl (by decide +kernel) rfl rfl (Nat.le_of_ble_eq_true rfl) qd_M_search_15 (fun H15_1 L15_1 hP hD hS => ?_)
    have hP : va_P (dC, dI) qcl [(o, .inr (6, [.int (zI (↑sy)), .ref mA, .ref mR, .ref mW, .int (zI (↑tc)), .ref mC, .ref mS, .int (zI (↑rc)), .ref mL, .ref mT, .ref mH, .ref mY, .ref mE, .ref mG, .ref mB, .ref mO, .int (zI (1))])), (mR, .inl (cI, 5, .inl (zA rk))), (mE, .inl (cI, 32, .inl (zA (eI ef)))), (mY, .inl (cI, 32, .inl (zA hv))), (mG, .inl (cZ, 256, .inl (zB gr))), (mO, .inl (cI, 5, .inl (zA ol)))] H15_1 := hP
    have hD : va_D A [(o, .inr (6, [.int (zI (↑sy)), .ref mA, .ref mR, .ref mW, .int (zI (↑tc)), .ref mC, .ref mS, .int (zI (↑rc)), .ref mL, .ref mT, .ref mH, .ref mY, .ref mE, .ref mG, .ref mB, .ref mO, .int (zI (1))])), (mR, .inl (cI, 5, .inl (zA rk))), (mE, .inl (cI, 32, .inl (zA (eI ef)))), (mY, .inl (cI, 32, .inl (zA hv))), (mG, .inl (cZ, 256, .inl (zB gr))), (mO, .inl (cI, 5, .inl (zA ol)))] := hD
    have hF := fz_keep hF0 hFA hS
    refine lv_aload_n hx hb qd_M_search_18 rfl (lv_at hl 0 rfl) ?_
    refine va_get (D := (dC, dI)) (ci := 6) (v := .int (zI (1))) (C := "TermOrdersModel") (T := qT_M) (N := 17) hx hb hg qi_M hown hK hP 0 rfl rfl 16 (by decide) (hg _ wd_634) (fun _ h9 => h9) rfl qd_M_search_19 ?_
    refine zz_if_eq (tgt := 27) hx hb qd_M_search_22 (by decide) (by omega) (fun h22 => ?_) (fun h22 => ?_)
    · skip
      exfalso
      omega
    · skip
      refine lv_iconst (v := zI 0) hx hb qd_M_search_25 rfl ?_
      exact W.zret (v := zI (bI false)) (ty := .boolean) hx hb hr (bI_n _) (fun t9 ht9 hW9 => ⟨⟨false, (1, rk, ef, hv, gr, ol), rfl, (Or.inl ⟨by omega, rfl, rfl⟩), mwB_i (by rw [ht9]; exact hP) (va_K.moved hW9.alike hK) hD⟩, hS.F ht9⟩) hS.2.2 qd_M_search_26
  · skip
    refine lv_iload_n hx hb qd_M_search_5 rfl (lv_at hl 1 rfl) ?_
    refine lv_iconst (v := zI 1) hx hb qd_M_search_6 rfl ?_
    refine zz_icmp_le (tgt := 14) hx hb qd_M_search_7 (by decide) (by omega) (by omega) (fun h7 => ?_) (fun h7 => ?_)
    · skip
      refine lv_iconst (v := zI 0) hx hb qd_M_search_14 rfl ?_
      refine va_put (D := (dC, dI)) (ci := 6) (v := .int (zI (0))) (ty := .int) (C := "TermOrdersModel") (T := qT_M) (N := 17) hx hb hg qi_M qt_M qo_M qn_M hown hK hP hD hS 0 rfl rfl 16 (by decide) (hg _ wd_634) (fun _ h9 => h9) rfl (by decide +kernel) rfl rfl (Nat.le_of_ble_eq_true rfl) qd_M_search_15 (fun H15_2 L15_2 hP hD hS => ?_)
      have hP : va_P (dC, dI) qcl [(o, .inr (6, [.int (zI (↑sy)), .ref mA, .ref mR, .ref mW, .int (zI (↑tc)), .ref mC, .ref mS, .int (zI (↑rc)), .ref mL, .ref mT, .ref mH, .ref mY, .ref mE, .ref mG, .ref mB, .ref mO, .int (zI (0))])), (mR, .inl (cI, 5, .inl (zA rk))), (mE, .inl (cI, 32, .inl (zA (eI ef)))), (mY, .inl (cI, 32, .inl (zA hv))), (mG, .inl (cZ, 256, .inl (zB gr))), (mO, .inl (cI, 5, .inl (zA ol)))] H15_2 := hP
      have hD : va_D A [(o, .inr (6, [.int (zI (↑sy)), .ref mA, .ref mR, .ref mW, .int (zI (↑tc)), .ref mC, .ref mS, .int (zI (↑rc)), .ref mL, .ref mT, .ref mH, .ref mY, .ref mE, .ref mG, .ref mB, .ref mO, .int (zI (0))])), (mR, .inl (cI, 5, .inl (zA rk))), (mE, .inl (cI, 32, .inl (zA (eI ef)))), (mY, .inl (cI, 32, .inl (zA hv))), (mG, .inl (cZ, 256, .inl (zB gr))), (mO, .inl (cI, 5, .inl (zA ol)))] := hD
      have hF := fz_keep hF0 hFA hS
      refine lv_aload_n hx hb qd_M_search_18 rfl (lv_at hl 0 rfl) ?_
      refine va_get (D := (dC, dI)) (ci := 6) (v := .int (zI (0))) (C := "TermOrdersModel") (T := qT_M) (N := 17) hx hb hg qi_M hown hK hP 0 rfl rfl 16 (by decide) (hg _ wd_634) (fun _ h9 => h9) rfl qd_M_search_19 ?_
      refine zz_if_eq (tgt := 27) hx hb qd_M_search_22 (by decide) (by omega) (fun h22 => ?_) (fun h22 => ?_)
      · skip
        refine lv_iconst (v := zI 1) hx hb qd_M_search_27 rfl ?_
        refine lv_istore_n (lv' := [(2, .int (zI (1))), (0, .ref o), (1, .int (zI (x)))]) hx hb qd_M_search_28 rfl hl (by decide) rfl (fun ls hl => ?_)
        refine lv_iconst (v := zI 0) hx hb qd_M_search_29 rfl ?_
        refine lv_istore_n (lv' := [(3, .int (zI (0))), (2, .int (zI (1))), (0, .ref o), (1, .int (zI (x)))]) hx hb qd_M_search_30 rfl hl (by decide) rfl (fun ls hl => ?_)
        have L31 : ∀ (mu31 : Nat) (i : Nat) (oz : Nat → Int), (i ≤ sy) → (∀ q, q < i → oz q = rk q) → sy - i = mu31 → ∀ (H31_3 : Heap) (L31_3 : List Loc), va_P (dC, dI) qcl [(o, .inr (6, [.int (zI (↑sy)), .ref mA, .ref mR, .ref mW, .int (zI (↑tc)), .ref mC, .ref mS, .int (zI (↑rc)), .ref mL, .ref mT, .ref mH, .ref mY, .ref mE, .ref mG, .ref mB, .ref mO, .int (zI (0))])), (mR, .inl (cI, 5, .inl (zA rk))), (mE, .inl (cI, 32, .inl (zA (eI ef)))), (mY, .inl (cI, 32, .inl (zA hv))), (mG, .inl (cZ, 256, .inl (zB gr))), (mO, .inl (cI, 5, .inl (zA oz)))] H31_3 → va_D A [(o, .inr (6, [.int (zI (↑sy)), .ref mA, .ref mR, .ref mW, .int (zI (↑tc)), .ref mC, .ref mS, .int (zI (↑rc)), .ref mL, .ref mT, .ref mH, .ref mY, .ref mE, .ref mG, .ref mB, .ref mO, .int (zI (0))])), (mR, .inl (cI, 5, .inl (zA rk))), (mE, .inl (cI, 32, .inl (zA (eI ef)))), (mY, .inl (cI, 32, .inl (zA hv))), (mG, .inl (cZ, 256, .inl (zB gr))), (mO, .inl (cI, 5, .inl (zA oz)))] → va_S A sg.heap H31_3 L31_3 → ∀ ls : Array Slot, lv_has ls 4 [(3, .int (zI (↑i))), (2, .int (zI (↑(sy ^ i)))), (0, .ref o), (1, .int (zI (x)))] → W pg l eg (headSpec qw_M_search ({ frames := 7, cells := 0, slots := 0, locals := 177 })).room sg mg ([.ref o, .int (zI (x))] : List Value).toArray below meth cg H31_3 L31_3 0 0 (MQ below (mwO (S := (Int) × (Nat → Int) × (Nat → Nat) × (Nat → Int) × (Nat → Bool) × (Nat → Int)) (fun r uq => (¬ (0 ≤ x ∧ x ≤ 1) ∧ uq.1 = 1 ∧ uq.2.1 = rk) ∨ ((0 ≤ x ∧ x ≤ 1) ∧ uq.1 = 0 ∧ ((r = true ∧ ∃ w, w < sy ^ sy ∧ (ds sy w = true ∧ (x = 1 → ∀ us, us < sy → ¬ (ar us = 0 ∧ wt us = 0) ∧ ∀ t, t < sy → ¬ (ar us = 1 ∧ wt us = 0 ∧ t ≠ us ∧ ((rkW sy w rk)) us ≤ ((rkW sy w rk)) t)) ∧ ∀ r, r < rc → gtO x ((rkW sy w rk)) wt (TH (lf r)) (TE (lf r)) (TM (lf r)) (tn (lf r)) (TH (rg r)) (TE (rg r)) (TM (rg r)) (tn (rg r))) ∧ (∀ w1, w1 < w → ¬ (ds sy w1 = true ∧ (x = 1 → ∀ us, us < sy → ¬ (ar us = 0 ∧ wt us = 0) ∧ ∀ t, t < sy → ¬ (ar us = 1 ∧ wt us = 0 ∧ t ≠ us ∧ ((rkW sy w1 rk)) us ≤ ((rkW sy w1 rk)) t)) ∧ ∀ r, r < rc → gtO x ((rkW sy w1 rk)) wt (TH (lf r)) (TE (lf r)) (TM (lf r)) (tn (lf r)) (TH (rg r)) (TE (rg r)) (TM (rg r)) (tn (rg r)))) ∧ uq.2.1 = rkW sy w rk) ∨ (r = false ∧ (∀ w, w < sy ^ sy → ¬ (ds sy w = true ∧ (x = 1 → ∀ us, us < sy → ¬ (ar us = 0 ∧ wt us = 0) ∧ ∀ t, t < sy → ¬ (ar us = 1 ∧ wt us = 0 ∧ t ≠ us ∧ ((rkW sy w rk)) us ≤ ((rkW sy w rk)) t)) ∧ ∀ r, r < rc → gtO x ((rkW sy w rk)) wt (TH (lf r)) (TE (lf r)) (TM (lf r)) (tn (lf r)) (TH (rg r)) (TE (rg r)) (TM (rg r)) (tn (rg r)))) ∧ uq.2.1 = rk)))) (fun uq tq => mwB (dC, dI) qcl (qty cI cZ cT cJ) A [(o, .inr (6, [.int (zI (↑sy)), .ref mA, .ref mR, .ref mW, .int (zI (↑tc)), .ref mC, .ref mS, .int (zI (↑rc)), .ref mL, .ref mT, .ref mH, .ref mY, .ref mE, .ref mG, .ref mB, .ref mO, .int (zI (uq.1))])), (mR, .inl (cI, 5, .inl (zA uq.2.1))), (mE, .inl (cI, 32, .inl (zA (eI uq.2.2.1)))), (mY, .inl (cI, 32, .inl (zA uq.2.2.2.1))), (mG, .inl (cZ, 256, .inl (zB uq.2.2.2.2.1))), (mO, .inl (cI, 5, .inl (zA uq.2.2.2.2.2)))] tq) A) ([.ref o, .int (zI (x))] : List Value).toArray sg 0 0 A) (F0 mg 31 ls []) := by
          intro mu31
          induction mu31 using Nat.strongRecOn with
          | _ mu31 ih31 =>
            intro i oz hi8 ho9 hmu31 H31_3 L31_3 hP hD hS ls hl
            have hF := fz_keep hF0 hFA hS
            refine lv_iload_n hx hb qd_M_search_31 rfl (lv_at hl 0 rfl) ?_
            refine lv_aload_n hx hb qd_M_search_32 rfl (lv_at hl 2 rfl) ?_
            refine va_get (D := (dC, dI)) (ci := 6) (v := .int (zI (↑sy))) (C := "TermOrdersModel") (T := qT_M) (N := 17) hx hb hg qi_M hown hK hP 0 rfl rfl 0 (by decide) (hg _ wd_618) (fun _ h9 => h9) rfl qd_M_search_33 ?_
            refine zz_icmp_ge (tgt := 64) hx hb qd_M_search_36 (by decide) (by omega) (by omega) (fun h36 => ?_) (fun h36 => ?_)
            · skip
              have his : i = sy := by omega
              rw [his] at hl ho9
              have hx01 : x = 0 ∨ x = 1 := by omega
              refine lv_iconst (v := zI 0) hx hb qd_M_search_64 rfl ?_
              refine lv_istore_n (lv' := [(3, .int (zI (0))), (2, .int (zI (↑(sy ^ sy)))), (0, .ref o), (1, .int (zI (x)))]) hx hb qd_M_search_65 rfl hl (by decide) rfl (fun ls hl => ?_)
              have L66 : ∀ (mu66 : Nat) (w : Nat) (rz : Nat → Int) (ez : Nat → Nat) (hz : Nat → Int) (gz : Nat → Bool), (w ≤ sy ^ sy) → (∀ q, sy ≤ q → rz q = rk q) → (∀ w1, w1 < w → ¬ (ds sy w1 = true ∧ (x = 1 → ∀ us, us < sy → ¬ (ar us = 0 ∧ wt us = 0) ∧ ∀ t, t < sy → ¬ (ar us = 1 ∧ wt us = 0 ∧ t ≠ us ∧ ((rkW sy w1 rk)) us ≤ ((rkW sy w1 rk)) t)) ∧ ∀ r, r < rc → gtO x ((rkW sy w1 rk)) wt (TH (lf r)) (TE (lf r)) (TM (lf r)) (tn (lf r)) (TH (rg r)) (TE (rg r)) (TM (rg r)) (tn (rg r)))) → sy ^ sy - w = mu66 → ∀ (H66_4 : Heap) (L66_4 : List Loc), va_P (dC, dI) qcl [(o, .inr (6, [.int (zI (↑sy)), .ref mA, .ref mR, .ref mW, .int (zI (↑tc)), .ref mC, .ref mS, .int (zI (↑rc)), .ref mL, .ref mT, .ref mH, .ref mY, .ref mE, .ref mG, .ref mB, .ref mO, .int (zI (0))])), (mR, .inl (cI, 5, .inl (zA rz))), (mE, .inl (cI, 32, .inl (zA (eI ez)))), (mY, .inl (cI, 32, .inl (zA hz))), (mG, .inl (cZ, 256, .inl (zB gz))), (mO, .inl (cI, 5, .inl (zA oz)))] H66_4 → va_D A [(o, .inr (6, [.int (zI (↑sy)), .ref mA, .ref mR, .ref mW, .int (zI (↑tc)), .ref mC, .ref mS, .int (zI (↑rc)), .ref mL, .ref mT, .ref mH, .ref mY, .ref mE, .ref mG, .ref mB, .ref mO, .int (zI (0))])), (mR, .inl (cI, 5, .inl (zA rz))), (mE, .inl (cI, 32, .inl (zA (eI ez)))), (mY, .inl (cI, 32, .inl (zA hz))), (mG, .inl (cZ, 256, .inl (zB gz))), (mO, .inl (cI, 5, .inl (zA oz)))] → va_S A sg.heap H66_4 L66_4 → ∀ ls : Array Slot, lv_has ls 4 [(3, .int (zI (↑w))), (2, .int (zI (↑(sy ^ sy)))), (0, .ref o), (1, .int (zI (x)))] → W pg l eg (headSpec qw_M_search ({ frames := 7, cells := 0, slots := 0, locals := 177 })).room sg mg ([.ref o, .int (zI (x))] : List Value).toArray below meth cg H66_4 L66_4 0 0 (MQ below (mwO (S := (Int) × (Nat → Int) × (Nat → Nat) × (Nat → Int) × (Nat → Bool) × (Nat → Int)) (fun r uq => (¬ (0 ≤ x ∧ x ≤ 1) ∧ uq.1 = 1 ∧ uq.2.1 = rk) ∨ ((0 ≤ x ∧ x ≤ 1) ∧ uq.1 = 0 ∧ ((r = true ∧ ∃ w, w < sy ^ sy ∧ (ds sy w = true ∧ (x = 1 → ∀ us, us < sy → ¬ (ar us = 0 ∧ wt us = 0) ∧ ∀ t, t < sy → ¬ (ar us = 1 ∧ wt us = 0 ∧ t ≠ us ∧ ((rkW sy w rk)) us ≤ ((rkW sy w rk)) t)) ∧ ∀ r, r < rc → gtO x ((rkW sy w rk)) wt (TH (lf r)) (TE (lf r)) (TM (lf r)) (tn (lf r)) (TH (rg r)) (TE (rg r)) (TM (rg r)) (tn (rg r))) ∧ (∀ w1, w1 < w → ¬ (ds sy w1 = true ∧ (x = 1 → ∀ us, us < sy → ¬ (ar us = 0 ∧ wt us = 0) ∧ ∀ t, t < sy → ¬ (ar us = 1 ∧ wt us = 0 ∧ t ≠ us ∧ ((rkW sy w1 rk)) us ≤ ((rkW sy w1 rk)) t)) ∧ ∀ r, r < rc → gtO x ((rkW sy w1 rk)) wt (TH (lf r)) (TE (lf r)) (TM (lf r)) (tn (lf r)) (TH (rg r)) (TE (rg r)) (TM (rg r)) (tn (rg r)))) ∧ uq.2.1 = rkW sy w rk) ∨ (r = false ∧ (∀ w, w < sy ^ sy → ¬ (ds sy w = true ∧ (x = 1 → ∀ us, us < sy → ¬ (ar us = 0 ∧ wt us = 0) ∧ ∀ t, t < sy → ¬ (ar us = 1 ∧ wt us = 0 ∧ t ≠ us ∧ ((rkW sy w rk)) us ≤ ((rkW sy w rk)) t)) ∧ ∀ r, r < rc → gtO x ((rkW sy w rk)) wt (TH (lf r)) (TE (lf r)) (TM (lf r)) (tn (lf r)) (TH (rg r)) (TE (rg r)) (TM (rg r)) (tn (rg r)))) ∧ uq.2.1 = rk)))) (fun uq tq => mwB (dC, dI) qcl (qty cI cZ cT cJ) A [(o, .inr (6, [.int (zI (↑sy)), .ref mA, .ref mR, .ref mW, .int (zI (↑tc)), .ref mC, .ref mS, .int (zI (↑rc)), .ref mL, .ref mT, .ref mH, .ref mY, .ref mE, .ref mG, .ref mB, .ref mO, .int (zI (uq.1))])), (mR, .inl (cI, 5, .inl (zA uq.2.1))), (mE, .inl (cI, 32, .inl (zA (eI uq.2.2.1)))), (mY, .inl (cI, 32, .inl (zA uq.2.2.2.1))), (mG, .inl (cZ, 256, .inl (zB uq.2.2.2.2.1))), (mO, .inl (cI, 5, .inl (zA uq.2.2.2.2.2)))] tq) A) ([.ref o, .int (zI (x))] : List Value).toArray sg 0 0 A) (F0 mg 66 ls []) := by
                intro mu66
                induction mu66 using Nat.strongRecOn with
                | _ mu66 ih66 =>
                  intro w rz ez hz gz hw8 hrz hno hmu66 H66_4 L66_4 hP hD hS ls hl
                  have hF := fz_keep hF0 hFA hS
                  refine lv_iload_n hx hb qd_M_search_66 rfl (lv_at hl 0 rfl) ?_
                  refine lv_iload_n hx hb qd_M_search_67 rfl (lv_at hl 1 rfl) ?_
                  refine zz_icmp_ge (tgt := 114) hx hb qd_M_search_68 (by decide) (by omega) (by omega) (fun h68 => ?_) (fun h68 => ?_)
                  · skip
                    have hall : ∀ w, w < sy ^ sy → ¬ (ds sy w = true ∧ (x = 1 → ∀ us, us < sy → ¬ (ar us = 0 ∧ wt us = 0) ∧ ∀ t, t < sy → ¬ (ar us = 1 ∧ wt us = 0 ∧ t ≠ us ∧ ((rkW sy w rk)) us ≤ ((rkW sy w rk)) t)) ∧ ∀ r, r < rc → gtO x ((rkW sy w rk)) wt (TH (lf r)) (TE (lf r)) (TM (lf r)) (tn (lf r)) (TH (rg r)) (TE (rg r)) (TM (rg r)) (tn (rg r))) := fun w1 hw1 => hno w1 (by omega)
                    refine lv_iconst (v := zI 0) hx hb qd_M_search_114 rfl ?_
                    refine lv_istore_n (lv' := [(3, .int (zI (0))), (2, .int (zI (↑(sy ^ sy)))), (0, .ref o), (1, .int (zI (x)))]) hx hb qd_M_search_115 rfl hl (by decide) rfl (fun ls hl => ?_)
                    have L116 : ∀ (mu116 : Nat) (j : Nat) (ry : Nat → Int), (j ≤ sy) → (∀ q, q < j → ry q = rk q) → (∀ q, sy ≤ q → ry q = rk q) → sy - j = mu116 → ∀ (H116_5 : Heap) (L116_5 : List Loc), va_P (dC, dI) qcl [(o, .inr (6, [.int (zI (↑sy)), .ref mA, .ref mR, .ref mW, .int (zI (↑tc)), .ref mC, .ref mS, .int (zI (↑rc)), .ref mL, .ref mT, .ref mH, .ref mY, .ref mE, .ref mG, .ref mB, .ref mO, .int (zI (0))])), (mR, .inl (cI, 5, .inl (zA ry))), (mE, .inl (cI, 32, .inl (zA (eI ez)))), (mY, .inl (cI, 32, .inl (zA hz))), (mG, .inl (cZ, 256, .inl (zB gz))), (mO, .inl (cI, 5, .inl (zA oz)))] H116_5 → va_D A [(o, .inr (6, [.int (zI (↑sy)), .ref mA, .ref mR, .ref mW, .int (zI (↑tc)), .ref mC, .ref mS, .int (zI (↑rc)), .ref mL, .ref mT, .ref mH, .ref mY, .ref mE, .ref mG, .ref mB, .ref mO, .int (zI (0))])), (mR, .inl (cI, 5, .inl (zA ry))), (mE, .inl (cI, 32, .inl (zA (eI ez)))), (mY, .inl (cI, 32, .inl (zA hz))), (mG, .inl (cZ, 256, .inl (zB gz))), (mO, .inl (cI, 5, .inl (zA oz)))] → va_S A sg.heap H116_5 L116_5 → ∀ ls : Array Slot, lv_has ls 4 [(3, .int (zI (↑j))), (2, .int (zI (↑(sy ^ sy)))), (0, .ref o), (1, .int (zI (x)))] → W pg l eg (headSpec qw_M_search ({ frames := 7, cells := 0, slots := 0, locals := 177 })).room sg mg ([.ref o, .int (zI (x))] : List Value).toArray below meth cg H116_5 L116_5 0 0 (MQ below (mwO (S := (Int) × (Nat → Int) × (Nat → Nat) × (Nat → Int) × (Nat → Bool) × (Nat → Int)) (fun r uq => (¬ (0 ≤ x ∧ x ≤ 1) ∧ uq.1 = 1 ∧ uq.2.1 = rk) ∨ ((0 ≤ x ∧ x ≤ 1) ∧ uq.1 = 0 ∧ ((r = true ∧ ∃ w, w < sy ^ sy ∧ (ds sy w = true ∧ (x = 1 → ∀ us, us < sy → ¬ (ar us = 0 ∧ wt us = 0) ∧ ∀ t, t < sy → ¬ (ar us = 1 ∧ wt us = 0 ∧ t ≠ us ∧ ((rkW sy w rk)) us ≤ ((rkW sy w rk)) t)) ∧ ∀ r, r < rc → gtO x ((rkW sy w rk)) wt (TH (lf r)) (TE (lf r)) (TM (lf r)) (tn (lf r)) (TH (rg r)) (TE (rg r)) (TM (rg r)) (tn (rg r))) ∧ (∀ w1, w1 < w → ¬ (ds sy w1 = true ∧ (x = 1 → ∀ us, us < sy → ¬ (ar us = 0 ∧ wt us = 0) ∧ ∀ t, t < sy → ¬ (ar us = 1 ∧ wt us = 0 ∧ t ≠ us ∧ ((rkW sy w1 rk)) us ≤ ((rkW sy w1 rk)) t)) ∧ ∀ r, r < rc → gtO x ((rkW sy w1 rk)) wt (TH (lf r)) (TE (lf r)) (TM (lf r)) (tn (lf r)) (TH (rg r)) (TE (rg r)) (TM (rg r)) (tn (rg r)))) ∧ uq.2.1 = rkW sy w rk) ∨ (r = false ∧ (∀ w, w < sy ^ sy → ¬ (ds sy w = true ∧ (x = 1 → ∀ us, us < sy → ¬ (ar us = 0 ∧ wt us = 0) ∧ ∀ t, t < sy → ¬ (ar us = 1 ∧ wt us = 0 ∧ t ≠ us ∧ ((rkW sy w rk)) us ≤ ((rkW sy w rk)) t)) ∧ ∀ r, r < rc → gtO x ((rkW sy w rk)) wt (TH (lf r)) (TE (lf r)) (TM (lf r)) (tn (lf r)) (TH (rg r)) (TE (rg r)) (TM (rg r)) (tn (rg r)))) ∧ uq.2.1 = rk)))) (fun uq tq => mwB (dC, dI) qcl (qty cI cZ cT cJ) A [(o, .inr (6, [.int (zI (↑sy)), .ref mA, .ref mR, .ref mW, .int (zI (↑tc)), .ref mC, .ref mS, .int (zI (↑rc)), .ref mL, .ref mT, .ref mH, .ref mY, .ref mE, .ref mG, .ref mB, .ref mO, .int (zI (uq.1))])), (mR, .inl (cI, 5, .inl (zA uq.2.1))), (mE, .inl (cI, 32, .inl (zA (eI uq.2.2.1)))), (mY, .inl (cI, 32, .inl (zA uq.2.2.2.1))), (mG, .inl (cZ, 256, .inl (zB uq.2.2.2.2.1))), (mO, .inl (cI, 5, .inl (zA uq.2.2.2.2.2)))] tq) A) ([.ref o, .int (zI (x))] : List Value).toArray sg 0 0 A) (F0 mg 116 ls []) := by
                      intro mu116
                      induction mu116 using Nat.strongRecOn with
                      | _ mu116 ih116 =>
                        intro j ry hj8 hry hry2 hmu116 H116_5 L116_5 hP hD hS ls hl
                        have hF := fz_keep hF0 hFA hS
                        refine lv_iload_n hx hb qd_M_search_116 rfl (lv_at hl 0 rfl) ?_
                        refine lv_aload_n hx hb qd_M_search_117 rfl (lv_at hl 2 rfl) ?_
                        refine va_get (D := (dC, dI)) (ci := 6) (v := .int (zI (↑sy))) (C := "TermOrdersModel") (T := qT_M) (N := 17) hx hb hg qi_M hown hK hP 0 rfl rfl 0 (by decide) (hg _ wd_618) (fun _ h9 => h9) rfl qd_M_search_118 ?_
                        refine zz_icmp_ge (tgt := 142) hx hb qd_M_search_121 (by decide) (by omega) (by omega) (fun h121 => ?_) (fun h121 => ?_)
                        · skip
                          refine lv_iconst (v := zI 0) hx hb qd_M_search_142 rfl ?_
                          exact W.zret (v := zI (bI false)) (ty := .boolean) hx hb hr (bI_n _) (fun t9 ht9 hW9 => ⟨⟨false, (0, ry, ez, hz, gz, oz), rfl, (Or.inr ⟨by omega, rfl, Or.inr ⟨rfl, hall, funext (fun q => if h8 : q < sy then hry q (by omega) else hry2 q (by omega))⟩⟩), mwB_i (by rw [ht9]; exact hP) (va_K.moved hW9.alike hK) hD⟩, hS.F ht9⟩) hS.2.2 qd_M_search_143
                        · skip
                          refine lv_aload_n hx hb qd_M_search_124 rfl (lv_at hl 2 rfl) ?_
                          refine va_get (D := (dC, dI)) (ci := 6) (v := .ref mR) (C := "TermOrdersModel") (T := qT_M) (N := 17) hx hb hg qi_M hown hK hP 0 rfl rfl 2 (by decide) (hg _ wd_620) (fun _ h9 => h9) rfl qd_M_search_125 ?_
                          refine lv_iload_n hx hb qd_M_search_128 rfl (lv_at hl 0 rfl) ?_
                          refine lv_aload_n hx hb qd_M_search_129 rfl (lv_at hl 2 rfl) ?_
                          refine va_get (D := (dC, dI)) (ci := 6) (v := .ref mO) (C := "TermOrdersModel") (T := qT_M) (N := 17) hx hb hg qi_M hown hK hP 0 rfl rfl 15 (by decide) (hg _ wd_633) (fun _ h9 => h9) rfl qd_M_search_130 ?_
                          refine lv_iload_n hx hb qd_M_search_133 rfl (lv_at hl 0 rfl) ?_
                          refine zz_iald hx hb hK hP 5 0 rfl rfl j rfl (by omega) (by omega) qd_M_search_134 ?_
                          refine zz_top (b := rk j) (ho9 j (by omega)) ?_
                          refine zz_iast hx hb hK hP hD hS 1 0 rfl rfl j rfl (by omega) (by omega) qd_M_search_135 (fun H135_6 L135_6 hP hD hS => ?_)
                          have hP : va_P (dC, dI) qcl [(o, .inr (6, [.int (zI (↑sy)), .ref mA, .ref mR, .ref mW, .int (zI (↑tc)), .ref mC, .ref mS, .int (zI (↑rc)), .ref mL, .ref mT, .ref mH, .ref mY, .ref mE, .ref mG, .ref mB, .ref mO, .int (zI (0))])), (mR, .inl (cI, 5, .inl (zA (uz ry j (rk j))))), (mE, .inl (cI, 32, .inl (zA (eI ez)))), (mY, .inl (cI, 32, .inl (zA hz))), (mG, .inl (cZ, 256, .inl (zB gz))), (mO, .inl (cI, 5, .inl (zA oz)))] H135_6 := hP
                          have hD : va_D A [(o, .inr (6, [.int (zI (↑sy)), .ref mA, .ref mR, .ref mW, .int (zI (↑tc)), .ref mC, .ref mS, .int (zI (↑rc)), .ref mL, .ref mT, .ref mH, .ref mY, .ref mE, .ref mG, .ref mB, .ref mO, .int (zI (0))])), (mR, .inl (cI, 5, .inl (zA (uz ry j (rk j))))), (mE, .inl (cI, 32, .inl (zA (eI ez)))), (mY, .inl (cI, 32, .inl (zA hz))), (mG, .inl (cZ, 256, .inl (zB gz))), (mO, .inl (cI, 5, .inl (zA oz)))] := hD
                          have hF := fz_keep hF0 hFA hS
                          refine lv_iinc (k := 0) (lv' := [(3, .int (zI (↑(j + 1)))), (2, .int (zI (↑(sy ^ sy)))), (0, .ref o), (1, .int (zI (x)))]) hx hb qd_M_search_136 hl rfl (zI_inc (v := ↑(j + 1)) (by omega)) (by decide) rfl (fun ls hl => ?_)
                          refine lv_goto (tgt := 116) hx hb qd_M_search_139 (by decide) ?_
                          exact ih116 _ (by omega) (j + 1) (uz ry j (rk j)) (by omega) (fun q hq => if h8 : q = j then (by rw [h8, uz_s]) else (by rw [uz_n _ _ h8]; exact hry q (by omega))) (fun q hq => by rw [uz_n _ _ (by omega)]; exact hry2 q hq) rfl H135_6 L135_6 hP hD hS ls hl
                    exact L116 _ 0 rz (by omega) (fun q hq => by omega) hrz rfl H66_4 L66_4 hP hD hS ls hl
                  · skip
                    refine lv_aload_n hx hb qd_M_search_71 rfl (lv_at hl 2 rfl) ?_
                    refine lv_iload_n hx hb qd_M_search_72 rfl (lv_at hl 0 rfl) ?_
                    have hPc := hP.sub (ws' := [(mR, .inl (cI, 5, .inl (zA rz)))]) [1] rfl
                    have hDc := hD.sub (ws' := [(mR, .inl (cI, 5, .inl (zA rz)))]) [1] (by decide) rfl
                    have hFr := va_free (wc := [(mR, .inl (cI, 5, .inl (zA rz)))]) hD hS hA [1] rfl
                    refine mw_callO (va_runV (As := [.int (zI (↑w))]) (rest := []) ⟨hx, hb, hml, hown, hg⟩ (c_M_ranked l dC dI cI cZ cT cJ o mA mR mW mC mS mL mT mH mY mE mG mB mO sy tc rc 0 ar rz wt co sz lf rg hi hz ez gz bd oz w H66_4.size hsy (by omega)) ⟨callB_of 1 hg (gw_ok (fun _ h => h) wd_789) rfl rfl rfl (hg _ wd_6) (hg _ wd_786) (by decide +kernel) ⟨Nat.le_of_ble_eq_true rfl, Nat.le_of_ble_eq_true rfl⟩, hg _ wd_788, hg _ se_M_ranked⟩ (mw_preV (va_recv (q0 := 0) hK hP rfl rfl) hPc (pw_c (q := (o, .inr (6, [.int (zI (↑sy)), .ref mA, .ref mR, .ref mW, .int (zI (↑tc)), .ref mC, .ref mS, .int (zI (↑rc)), .ref mL, .ref mT, .ref mH, .ref mY, .ref mE, .ref mG, .ref mB, .ref mO, .int (zI (0))]))) hP 0 rfl (pw_nil)) hK hN hDc (apw_c (q := (o, .inr (6, [.int (zI (↑sy)), .ref mA, .ref mR, .ref mW, .int (zI (↑tc)), .ref mC, .ref mS, .int (zI (↑rc)), .ref mL, .ref mT, .ref mH, .ref mY, .ref mE, .ref mG, .ref mB, .ref mO, .int (zI (0))]))) (apw_m hD [1] rfl 0 rfl (by decide)) (apw_nil))) rfl rfl hl.1 rfl (lv_room (Nat.le_of_ble_eq_true rfl)) qd_M_search_73 ⟨Nat.le_of_ble_eq_true rfl, Nat.le_of_ble_eq_true rfl⟩) hS (fun q _ h => hFr q h) hFr (fun r73 rk3 t9 H73_7 L73_7 ht9 hv9 hr73 hB9 hz9 hk9 hS => ?_)
                    try dsimp only at hr73 hB9
                    obtain ⟨hP, hD⟩ := mw_join (wr := [(o, .inr (6, [.int (zI (↑sy)), .ref mA, .ref mR, .ref mW, .int (zI (↑tc)), .ref mC, .ref mS, .int (zI (↑rc)), .ref mL, .ref mT, .ref mH, .ref mY, .ref mE, .ref mG, .ref mB, .ref mO, .int (zI (0))])), (mE, .inl (cI, 32, .inl (zA (eI ez)))), (mY, .inl (cI, 32, .inl (zA hz))), (mG, .inl (cZ, 256, .inl (zB gz))), (mO, .inl (cI, 5, .inl (zA oz)))]) (w1 := [(mR, .inl (cI, 5, .inl (zA rk3)))]) hP hD [1] [0, 2, 3, 4, 5] rfl rfl (by decide) (by decide) hk9 hFr ht9 hB9
                    have hP := hP.sub (ws' := [(o, .inr (6, [.int (zI (↑sy)), .ref mA, .ref mR, .ref mW, .int (zI (↑tc)), .ref mC, .ref mS, .int (zI (↑rc)), .ref mL, .ref mT, .ref mH, .ref mY, .ref mE, .ref mG, .ref mB, .ref mO, .int (zI (0))])), (mR, .inl (cI, 5, .inl (zA rk3))), (mE, .inl (cI, 32, .inl (zA (eI ez)))), (mY, .inl (cI, 32, .inl (zA hz))), (mG, .inl (cZ, 256, .inl (zB gz))), (mO, .inl (cI, 5, .inl (zA oz)))]) [0, 5, 1, 2, 3, 4] rfl
                    have hD := hD.sub (ws' := [(o, .inr (6, [.int (zI (↑sy)), .ref mA, .ref mR, .ref mW, .int (zI (↑tc)), .ref mC, .ref mS, .int (zI (↑rc)), .ref mL, .ref mT, .ref mH, .ref mY, .ref mE, .ref mG, .ref mB, .ref mO, .int (zI (0))])), (mR, .inl (cI, 5, .inl (zA rk3))), (mE, .inl (cI, 32, .inl (zA (eI ez)))), (mY, .inl (cI, 32, .inl (zA hz))), (mG, .inl (cZ, 256, .inl (zB gz))), (mO, .inl (cI, 5, .inl (zA oz)))]) [0, 5, 1, 2, 3, 4] (by decide) rfl
                    have hF := fz_keep hF0 hFA hS
                    have e9 := rkW_of hr73.2.1 (fun q hq => (hr73.2.2 q hq).trans (hrz q hq))
                    subst e9
                    refine zz_ifeqB (tgt := 108) hx hb qd_M_search_76 (by decide) (fun h76 => ?_) (fun h76 => ?_)
                    · skip
                      have hnw : ¬ (ds sy w = true ∧ (x = 1 → ∀ us, us < sy → ¬ (ar us = 0 ∧ wt us = 0) ∧ ∀ t, t < sy → ¬ (ar us = 1 ∧ wt us = 0 ∧ t ≠ us ∧ ((rkW sy w rk)) us ≤ ((rkW sy w rk)) t)) ∧ ∀ r, r < rc → gtO x ((rkW sy w rk)) wt (TH (lf r)) (TE (lf r)) (TM (lf r)) (tn (lf r)) (TH (rg r)) (TE (rg r)) (TM (rg r)) (tn (rg r))) := fun z9 => by rw [hr73.1.mpr z9.1] at h76; exact Bool.noConfusion h76
                      refine lv_iinc (k := 0) (lv' := [(3, .int (zI (↑(w + 1)))), (2, .int (zI (↑(sy ^ sy)))), (0, .ref o), (1, .int (zI (x)))]) hx hb qd_M_search_108 hl rfl (zI_inc (v := ↑(w + 1)) (by omega)) (by decide) rfl (fun ls hl => ?_)
                      refine lv_goto (tgt := 66) hx hb qd_M_search_111 (by decide) ?_
                      exact ih66 _ (by omega) (w + 1) ((rkW sy w rk)) ez hz gz (by omega) (rkW_hi) (fun w1 hw1 => if h8 : w1 < w then hno w1 h8 else (by rw [show w1 = w by omega]; exact hnw)) rfl H73_7 L73_7 hP hD hS ls hl
                    · skip
                      have hds := hr73.1.mp h76
                      refine lv_iload_n hx hb qd_M_search_79 rfl (lv_at hl 3 rfl) ?_
                      refine zz_if_eq (tgt := 90) hx hb qd_M_search_80 (by decide) (by omega) (fun h80 => ?_) (fun h80 => ?_)
                      · skip
                        refine lv_aload_n hx hb qd_M_search_90 rfl (lv_at hl 2 rfl) ?_
                        refine lv_iload_n hx hb qd_M_search_91 rfl (lv_at hl 3 rfl) ?_
                        have hPc := hP.sub (ws' := [(mE, .inl (cI, 32, .inl (zA (eI ez)))), (mY, .inl (cI, 32, .inl (zA hz))), (mG, .inl (cZ, 256, .inl (zB gz)))]) [2, 3, 4] rfl
                        have hDc := hD.sub (ws' := [(mE, .inl (cI, 32, .inl (zA (eI ez)))), (mY, .inl (cI, 32, .inl (zA hz))), (mG, .inl (cZ, 256, .inl (zB gz)))]) [2, 3, 4] (by decide) rfl
                        have hFr := va_free (wc := [(mE, .inl (cI, 32, .inl (zA (eI ez)))), (mY, .inl (cI, 32, .inl (zA hz))), (mG, .inl (cZ, 256, .inl (zB gz)))]) hD hS hA [2, 3, 4] rfl
                        refine va_calli (va_runV (As := [.int (zI (x))]) (rest := []) ⟨hx, hb, hml, hown, hg⟩ (c_M_orients l dC dI cI cZ cT cJ o mA mR mW mC mS mL mT mH mY mE mG mB mO sy tc rc 0 ar ((rkW sy w rk)) wt co sz lf rg hi hz ez gz bd oz tn TH TM TE HT x H73_7.size har (rkW_b hsy hrk) hwt hsy htc htp hrc hlr hx01) ⟨callB_of 1 hg (gw_ok (fun _ h => h) wd_781) rfl rfl rfl (hg _ wd_6) (hg _ wd_778) (by decide +kernel) ⟨Nat.le_of_ble_eq_true rfl, Nat.le_of_ble_eq_true rfl⟩, hg _ wd_780, hg _ se_M_orients⟩ (mw_preV (va_recv (q0 := 0) hK hP rfl rfl) hPc (pw_c (q := (o, .inr (6, [.int (zI (↑sy)), .ref mA, .ref mR, .ref mW, .int (zI (↑tc)), .ref mC, .ref mS, .int (zI (↑rc)), .ref mL, .ref mT, .ref mH, .ref mY, .ref mE, .ref mG, .ref mB, .ref mO, .int (zI (0))]))) hP 0 rfl (pw_c (q := (mA, .inl (cI, 5, .inl (zA ar)))) hF 0 rfl (pw_c (q := (mR, .inl (cI, 5, .inl (zA (((rkW sy w rk))))))) hP 1 rfl (pw_c (q := (mW, .inl (cI, 5, .inl (zA wt)))) hF 1 rfl (pw_c (q := (mC, .inl (cI, 2608, .inl (zA co)))) hF 2 rfl (pw_c (q := (mS, .inl (cI, 163, .inl (zA (eI sz))))) hF 3 rfl (pw_c (q := (mL, .inl (cI, 8, .inl (zA (eI lf))))) hF 4 rfl (pw_c (q := (mT, .inl (cI, 8, .inl (zA (eI rg))))) hF 5 rfl (pw_nil))))))))) hK hN hDc (apw_c (q := (o, .inr (6, [.int (zI (↑sy)), .ref mA, .ref mR, .ref mW, .int (zI (↑tc)), .ref mC, .ref mS, .int (zI (↑rc)), .ref mL, .ref mT, .ref mH, .ref mY, .ref mE, .ref mG, .ref mB, .ref mO, .int (zI (0))]))) (apw_m hD [2, 3, 4] rfl 0 rfl (by decide)) (apw_c (q := (mA, .inl (cI, 5, .inl (zA ar)))) (apw_f hD [2, 3, 4] rfl (hFA 0 _ rfl)) (apw_c (q := (mR, .inl (cI, 5, .inl (zA (((rkW sy w rk))))))) (apw_m hD [2, 3, 4] rfl 1 rfl (by decide)) (apw_c (q := (mW, .inl (cI, 5, .inl (zA wt)))) (apw_f hD [2, 3, 4] rfl (hFA 1 _ rfl)) (apw_c (q := (mC, .inl (cI, 2608, .inl (zA co)))) (apw_f hD [2, 3, 4] rfl (hFA 2 _ rfl)) (apw_c (q := (mS, .inl (cI, 163, .inl (zA (eI sz))))) (apw_f hD [2, 3, 4] rfl (hFA 3 _ rfl)) (apw_c (q := (mL, .inl (cI, 8, .inl (zA (eI lf))))) (apw_f hD [2, 3, 4] rfl (hFA 4 _ rfl)) (apw_c (q := (mT, .inl (cI, 8, .inl (zA (eI rg))))) (apw_f hD [2, 3, 4] rfl (hFA 5 _ rfl)) (apw_nil)))))))))) rfl rfl hl.1 rfl (lv_room (Nat.le_of_ble_eq_true rfl)) qd_M_search_92 ⟨Nat.le_of_ble_eq_true rfl, Nat.le_of_ble_eq_true rfl⟩) hS (fun q _ h => hFr q h) hFr (fun r92 u9 t9 H92_8 L92_8 ht9 hv9 hr92 hB9 hz9 hk9 hS => ?_)
                        obtain ⟨e3, v3, g3⟩ := u9
                        try dsimp only at hr92 hB9
                        obtain ⟨hP, hD⟩ := mw_join (wr := [(o, .inr (6, [.int (zI (↑sy)), .ref mA, .ref mR, .ref mW, .int (zI (↑tc)), .ref mC, .ref mS, .int (zI (↑rc)), .ref mL, .ref mT, .ref mH, .ref mY, .ref mE, .ref mG, .ref mB, .ref mO, .int (zI (0))])), (mR, .inl (cI, 5, .inl (zA ((rkW sy w rk))))), (mO, .inl (cI, 5, .inl (zA oz)))]) (w1 := [(mE, .inl (cI, 32, .inl (zA (eI e3)))), (mY, .inl (cI, 32, .inl (zA v3))), (mG, .inl (cZ, 256, .inl (zB g3)))]) hP hD [2, 3, 4] [0, 1, 5] rfl rfl (by decide) (by decide) hk9 hFr ht9 hB9
                        have hP := hP.sub (ws' := [(o, .inr (6, [.int (zI (↑sy)), .ref mA, .ref mR, .ref mW, .int (zI (↑tc)), .ref mC, .ref mS, .int (zI (↑rc)), .ref mL, .ref mT, .ref mH, .ref mY, .ref mE, .ref mG, .ref mB, .ref mO, .int (zI (0))])), (mR, .inl (cI, 5, .inl (zA ((rkW sy w rk))))), (mE, .inl (cI, 32, .inl (zA (eI e3)))), (mY, .inl (cI, 32, .inl (zA v3))), (mG, .inl (cZ, 256, .inl (zB g3))), (mO, .inl (cI, 5, .inl (zA oz)))]) [0, 1, 3, 4, 5, 2] rfl
                        have hD := hD.sub (ws' := [(o, .inr (6, [.int (zI (↑sy)), .ref mA, .ref mR, .ref mW, .int (zI (↑tc)), .ref mC, .ref mS, .int (zI (↑rc)), .ref mL, .ref mT, .ref mH, .ref mY, .ref mE, .ref mG, .ref mB, .ref mO, .int (zI (0))])), (mR, .inl (cI, 5, .inl (zA ((rkW sy w rk))))), (mE, .inl (cI, 32, .inl (zA (eI e3)))), (mY, .inl (cI, 32, .inl (zA v3))), (mG, .inl (cZ, 256, .inl (zB g3))), (mO, .inl (cI, 5, .inl (zA oz)))]) [0, 1, 3, 4, 5, 2] (by decide) rfl
                        have hF := fz_keep hF0 hFA hS
                        rw [hr92]
                        refine lv_iconst (v := zI 1) hx hb qd_M_search_95 rfl ?_
                        refine lv_aload_n hx hb qd_M_search_96 rfl (lv_at hl 2 rfl) ?_
                        refine va_get (D := (dC, dI)) (ci := 6) (v := .int (zI (↑rc))) (C := "TermOrdersModel") (T := qT_M) (N := 17) hx hb hg qi_M hown hK hP 0 rfl rfl 7 (by decide) (hg _ wd_625) (fun _ h9 => h9) rfl qd_M_search_97 ?_
                        refine lv_ishl hx hb qd_M_search_100 ?_
                        refine lv_iconst (v := zI 1) hx hb qd_M_search_101 rfl ?_
                        refine lv_isub hx hb qd_M_search_102 ?_
                        refine lv_icmp_ne (tgt := 108) hx hb qd_M_search_103 (by decide) (fun h103 => ?_) (fun h103 => ?_)
                        · skip
                          have hnw : ¬ (ds sy w = true ∧ (x = 1 → ∀ us, us < sy → ¬ (ar us = 0 ∧ wt us = 0) ∧ ∀ t, t < sy → ¬ (ar us = 1 ∧ wt us = 0 ∧ t ≠ us ∧ ((rkW sy w rk)) us ≤ ((rkW sy w rk)) t)) ∧ ∀ r, r < rc → gtO x ((rkW sy w rk)) wt (TH (lf r)) (TE (lf r)) (TM (lf r)) (tn (lf r)) (TH (rg r)) (TE (rg r)) (TM (rg r)) (tn (rg r))) := fun z9 => h103 ((obI_all hrc).mpr z9.2.2)
                          refine lv_iinc (k := 0) (lv' := [(3, .int (zI (↑(w + 1)))), (2, .int (zI (↑(sy ^ sy)))), (0, .ref o), (1, .int (zI (x)))]) hx hb qd_M_search_108 hl rfl (zI_inc (v := ↑(w + 1)) (by omega)) (by decide) rfl (fun ls hl => ?_)
                          refine lv_goto (tgt := 66) hx hb qd_M_search_111 (by decide) ?_
                          exact ih66 _ (by omega) (w + 1) ((rkW sy w rk)) e3 v3 g3 (by omega) (rkW_hi) (fun w1 hw1 => if h8 : w1 < w then hno w1 h8 else (by rw [show w1 = w by omega]; exact hnw)) rfl H92_8 L92_8 hP hD hS ls hl
                        · skip
                          have hsok : ds sy w = true ∧ (x = 1 → ∀ us, us < sy → ¬ (ar us = 0 ∧ wt us = 0) ∧ ∀ t, t < sy → ¬ (ar us = 1 ∧ wt us = 0 ∧ t ≠ us ∧ ((rkW sy w rk)) us ≤ ((rkW sy w rk)) t)) ∧ ∀ r, r < rc → gtO x ((rkW sy w rk)) wt (TH (lf r)) (TE (lf r)) (TM (lf r)) (tn (lf r)) (TH (rg r)) (TE (rg r)) (TM (rg r)) (tn (rg r)) := ⟨hds, (by first | exact fun _ => hadm | exact fun z9 => absurd z9 (by omega)), (obI_all hrc).mp h103⟩
                          refine lv_iconst (v := zI 1) hx hb qd_M_search_106 rfl ?_
                          exact W.zret (v := zI (bI true)) (ty := .boolean) hx hb hr (bI_n _) (fun t9 ht9 hW9 => ⟨⟨true, (0, rkW sy w rk, e3, v3, g3, oz), rfl, (Or.inr ⟨by omega, rfl, Or.inl ⟨rfl, w, by omega, hsok, hno, rfl⟩⟩), mwB_i (by rw [ht9]; exact hP) (va_K.moved hW9.alike hK) hD⟩, hS.F ht9⟩) hS.2.2 qd_M_search_107
                      · skip
                        refine lv_aload_n hx hb qd_M_search_83 rfl (lv_at hl 2 rfl) ?_
                        refine rd_callB (W.runV (As := []) (rest := []) ⟨hx, hb, hml, hown, hg⟩ (c_M_isAdmissible l dC dI cI cZ cT cJ o mA mR mW mC mS mL mT mH mY mE mG mB mO sy tc rc 0 ar ((rkW sy w rk)) wt co sz lf rg hi hz ez gz bd oz hsy (rkW_b hsy hrk) har hwt) ⟨callB_of 0 hg (gw_ok (fun _ h => h) wd_773) rfl rfl rfl (hg _ wd_6) (hg _ wd_770) (by decide +kernel) ⟨Nat.le_of_ble_eq_true rfl, Nat.le_of_ble_eq_true rfl⟩, hg _ wd_772, hg _ se_M_isAdmissible⟩ (rd_preV (va_recv (q0 := 0) hK hP rfl rfl) (pw_c (q := (o, .inr (6, [.int (zI (↑sy)), .ref mA, .ref mR, .ref mW, .int (zI (↑tc)), .ref mC, .ref mS, .int (zI (↑rc)), .ref mL, .ref mT, .ref mH, .ref mY, .ref mE, .ref mG, .ref mB, .ref mO, .int (zI (0))]))) hP 0 rfl (pw_c (q := (mA, .inl (cI, 5, .inl (zA ar)))) hF 0 rfl (pw_c (q := (mR, .inl (cI, 5, .inl (zA (((rkW sy w rk))))))) hP 1 rfl (pw_c (q := (mW, .inl (cI, 5, .inl (zA wt)))) hF 1 rfl (pw_nil))))) hK hN) rfl rfl hl.1 rfl (lv_room (Nat.le_of_ble_eq_true rfl)) qd_M_search_84 ⟨Nat.le_of_ble_eq_true rfl, Nat.le_of_ble_eq_true rfl⟩) (fun r84 hr84 => ?_)
                        refine zz_ifeqB (tgt := 108) hx hb qd_M_search_87 (by decide) (fun h87 => ?_) (fun h87 => ?_)
                        · skip
                          have hnw : ¬ (ds sy w = true ∧ (x = 1 → ∀ us, us < sy → ¬ (ar us = 0 ∧ wt us = 0) ∧ ∀ t, t < sy → ¬ (ar us = 1 ∧ wt us = 0 ∧ t ≠ us ∧ ((rkW sy w rk)) us ≤ ((rkW sy w rk)) t)) ∧ ∀ r, r < rc → gtO x ((rkW sy w rk)) wt (TH (lf r)) (TE (lf r)) (TM (lf r)) (tn (lf r)) (TH (rg r)) (TE (rg r)) (TM (rg r)) (tn (rg r))) := fun z9 => by rw [hr84.mpr (z9.2.1 (by omega))] at h87; exact Bool.noConfusion h87
                          refine lv_iinc (k := 0) (lv' := [(3, .int (zI (↑(w + 1)))), (2, .int (zI (↑(sy ^ sy)))), (0, .ref o), (1, .int (zI (x)))]) hx hb qd_M_search_108 hl rfl (zI_inc (v := ↑(w + 1)) (by omega)) (by decide) rfl (fun ls hl => ?_)
                          refine lv_goto (tgt := 66) hx hb qd_M_search_111 (by decide) ?_
                          exact ih66 _ (by omega) (w + 1) ((rkW sy w rk)) ez hz gz (by omega) (rkW_hi) (fun w1 hw1 => if h8 : w1 < w then hno w1 h8 else (by rw [show w1 = w by omega]; exact hnw)) rfl H73_7 L73_7 hP hD hS ls hl
                        · skip
                          have hadm := hr84.mp h87
                          refine lv_aload_n hx hb qd_M_search_90 rfl (lv_at hl 2 rfl) ?_
                          refine lv_iload_n hx hb qd_M_search_91 rfl (lv_at hl 3 rfl) ?_
                          have hPc := hP.sub (ws' := [(mE, .inl (cI, 32, .inl (zA (eI ez)))), (mY, .inl (cI, 32, .inl (zA hz))), (mG, .inl (cZ, 256, .inl (zB gz)))]) [2, 3, 4] rfl
                          have hDc := hD.sub (ws' := [(mE, .inl (cI, 32, .inl (zA (eI ez)))), (mY, .inl (cI, 32, .inl (zA hz))), (mG, .inl (cZ, 256, .inl (zB gz)))]) [2, 3, 4] (by decide) rfl
                          have hFr := va_free (wc := [(mE, .inl (cI, 32, .inl (zA (eI ez)))), (mY, .inl (cI, 32, .inl (zA hz))), (mG, .inl (cZ, 256, .inl (zB gz)))]) hD hS hA [2, 3, 4] rfl
                          refine va_calli (va_runV (As := [.int (zI (x))]) (rest := []) ⟨hx, hb, hml, hown, hg⟩ (c_M_orients l dC dI cI cZ cT cJ o mA mR mW mC mS mL mT mH mY mE mG mB mO sy tc rc 0 ar ((rkW sy w rk)) wt co sz lf rg hi hz ez gz bd oz tn TH TM TE HT x H73_7.size har (rkW_b hsy hrk) hwt hsy htc htp hrc hlr hx01) ⟨callB_of 1 hg (gw_ok (fun _ h => h) wd_781) rfl rfl rfl (hg _ wd_6) (hg _ wd_778) (by decide +kernel) ⟨Nat.le_of_ble_eq_true rfl, Nat.le_of_ble_eq_true rfl⟩, hg _ wd_780, hg _ se_M_orients⟩ (mw_preV (va_recv (q0 := 0) hK hP rfl rfl) hPc (pw_c (q := (o, .inr (6, [.int (zI (↑sy)), .ref mA, .ref mR, .ref mW, .int (zI (↑tc)), .ref mC, .ref mS, .int (zI (↑rc)), .ref mL, .ref mT, .ref mH, .ref mY, .ref mE, .ref mG, .ref mB, .ref mO, .int (zI (0))]))) hP 0 rfl (pw_c (q := (mA, .inl (cI, 5, .inl (zA ar)))) hF 0 rfl (pw_c (q := (mR, .inl (cI, 5, .inl (zA (((rkW sy w rk))))))) hP 1 rfl (pw_c (q := (mW, .inl (cI, 5, .inl (zA wt)))) hF 1 rfl (pw_c (q := (mC, .inl (cI, 2608, .inl (zA co)))) hF 2 rfl (pw_c (q := (mS, .inl (cI, 163, .inl (zA (eI sz))))) hF 3 rfl (pw_c (q := (mL, .inl (cI, 8, .inl (zA (eI lf))))) hF 4 rfl (pw_c (q := (mT, .inl (cI, 8, .inl (zA (eI rg))))) hF 5 rfl (pw_nil))))))))) hK hN hDc (apw_c (q := (o, .inr (6, [.int (zI (↑sy)), .ref mA, .ref mR, .ref mW, .int (zI (↑tc)), .ref mC, .ref mS, .int (zI (↑rc)), .ref mL, .ref mT, .ref mH, .ref mY, .ref mE, .ref mG, .ref mB, .ref mO, .int (zI (0))]))) (apw_m hD [2, 3, 4] rfl 0 rfl (by decide)) (apw_c (q := (mA, .inl (cI, 5, .inl (zA ar)))) (apw_f hD [2, 3, 4] rfl (hFA 0 _ rfl)) (apw_c (q := (mR, .inl (cI, 5, .inl (zA (((rkW sy w rk))))))) (apw_m hD [2, 3, 4] rfl 1 rfl (by decide)) (apw_c (q := (mW, .inl (cI, 5, .inl (zA wt)))) (apw_f hD [2, 3, 4] rfl (hFA 1 _ rfl)) (apw_c (q := (mC, .inl (cI, 2608, .inl (zA co)))) (apw_f hD [2, 3, 4] rfl (hFA 2 _ rfl)) (apw_c (q := (mS, .inl (cI, 163, .inl (zA (eI sz))))) (apw_f hD [2, 3, 4] rfl (hFA 3 _ rfl)) (apw_c (q := (mL, .inl (cI, 8, .inl (zA (eI lf))))) (apw_f hD [2, 3, 4] rfl (hFA 4 _ rfl)) (apw_c (q := (mT, .inl (cI, 8, .inl (zA (eI rg))))) (apw_f hD [2, 3, 4] rfl (hFA 5 _ rfl)) (apw_nil)))))))))) rfl rfl hl.1 rfl (lv_room (Nat.le_of_ble_eq_true rfl)) qd_M_search_92 ⟨Nat.le_of_ble_eq_true rfl, Nat.le_of_ble_eq_true rfl⟩) hS (fun q _ h => hFr q h) hFr (fun r92 u9 t9 H92_9 L92_9 ht9 hv9 hr92 hB9 hz9 hk9 hS => ?_)
                          obtain ⟨e3, v3, g3⟩ := u9
                          try dsimp only at hr92 hB9
                          obtain ⟨hP, hD⟩ := mw_join (wr := [(o, .inr (6, [.int (zI (↑sy)), .ref mA, .ref mR, .ref mW, .int (zI (↑tc)), .ref mC, .ref mS, .int (zI (↑rc)), .ref mL, .ref mT, .ref mH, .ref mY, .ref mE, .ref mG, .ref mB, .ref mO, .int (zI (0))])), (mR, .inl (cI, 5, .inl (zA ((rkW sy w rk))))), (mO, .inl (cI, 5, .inl (zA oz)))]) (w1 := [(mE, .inl (cI, 32, .inl (zA (eI e3)))), (mY, .inl (cI, 32, .inl (zA v3))), (mG, .inl (cZ, 256, .inl (zB g3)))]) hP hD [2, 3, 4] [0, 1, 5] rfl rfl (by decide) (by decide) hk9 hFr ht9 hB9
                          have hP := hP.sub (ws' := [(o, .inr (6, [.int (zI (↑sy)), .ref mA, .ref mR, .ref mW, .int (zI (↑tc)), .ref mC, .ref mS, .int (zI (↑rc)), .ref mL, .ref mT, .ref mH, .ref mY, .ref mE, .ref mG, .ref mB, .ref mO, .int (zI (0))])), (mR, .inl (cI, 5, .inl (zA ((rkW sy w rk))))), (mE, .inl (cI, 32, .inl (zA (eI e3)))), (mY, .inl (cI, 32, .inl (zA v3))), (mG, .inl (cZ, 256, .inl (zB g3))), (mO, .inl (cI, 5, .inl (zA oz)))]) [0, 1, 3, 4, 5, 2] rfl
                          have hD := hD.sub (ws' := [(o, .inr (6, [.int (zI (↑sy)), .ref mA, .ref mR, .ref mW, .int (zI (↑tc)), .ref mC, .ref mS, .int (zI (↑rc)), .ref mL, .ref mT, .ref mH, .ref mY, .ref mE, .ref mG, .ref mB, .ref mO, .int (zI (0))])), (mR, .inl (cI, 5, .inl (zA ((rkW sy w rk))))), (mE, .inl (cI, 32, .inl (zA (eI e3)))), (mY, .inl (cI, 32, .inl (zA v3))), (mG, .inl (cZ, 256, .inl (zB g3))), (mO, .inl (cI, 5, .inl (zA oz)))]) [0, 1, 3, 4, 5, 2] (by decide) rfl
                          have hF := fz_keep hF0 hFA hS
                          rw [hr92]
                          refine lv_iconst (v := zI 1) hx hb qd_M_search_95 rfl ?_
                          refine lv_aload_n hx hb qd_M_search_96 rfl (lv_at hl 2 rfl) ?_
                          refine va_get (D := (dC, dI)) (ci := 6) (v := .int (zI (↑rc))) (C := "TermOrdersModel") (T := qT_M) (N := 17) hx hb hg qi_M hown hK hP 0 rfl rfl 7 (by decide) (hg _ wd_625) (fun _ h9 => h9) rfl qd_M_search_97 ?_
                          refine lv_ishl hx hb qd_M_search_100 ?_
                          refine lv_iconst (v := zI 1) hx hb qd_M_search_101 rfl ?_
                          refine lv_isub hx hb qd_M_search_102 ?_
                          refine lv_icmp_ne (tgt := 108) hx hb qd_M_search_103 (by decide) (fun h103 => ?_) (fun h103 => ?_)
                          · skip
                            have hnw : ¬ (ds sy w = true ∧ (x = 1 → ∀ us, us < sy → ¬ (ar us = 0 ∧ wt us = 0) ∧ ∀ t, t < sy → ¬ (ar us = 1 ∧ wt us = 0 ∧ t ≠ us ∧ ((rkW sy w rk)) us ≤ ((rkW sy w rk)) t)) ∧ ∀ r, r < rc → gtO x ((rkW sy w rk)) wt (TH (lf r)) (TE (lf r)) (TM (lf r)) (tn (lf r)) (TH (rg r)) (TE (rg r)) (TM (rg r)) (tn (rg r))) := fun z9 => h103 ((obI_all hrc).mpr z9.2.2)
                            refine lv_iinc (k := 0) (lv' := [(3, .int (zI (↑(w + 1)))), (2, .int (zI (↑(sy ^ sy)))), (0, .ref o), (1, .int (zI (x)))]) hx hb qd_M_search_108 hl rfl (zI_inc (v := ↑(w + 1)) (by omega)) (by decide) rfl (fun ls hl => ?_)
                            refine lv_goto (tgt := 66) hx hb qd_M_search_111 (by decide) ?_
                            exact ih66 _ (by omega) (w + 1) ((rkW sy w rk)) e3 v3 g3 (by omega) (rkW_hi) (fun w1 hw1 => if h8 : w1 < w then hno w1 h8 else (by rw [show w1 = w by omega]; exact hnw)) rfl H92_9 L92_9 hP hD hS ls hl
                          · skip
                            have hsok : ds sy w = true ∧ (x = 1 → ∀ us, us < sy → ¬ (ar us = 0 ∧ wt us = 0) ∧ ∀ t, t < sy → ¬ (ar us = 1 ∧ wt us = 0 ∧ t ≠ us ∧ ((rkW sy w rk)) us ≤ ((rkW sy w rk)) t)) ∧ ∀ r, r < rc → gtO x ((rkW sy w rk)) wt (TH (lf r)) (TE (lf r)) (TM (lf r)) (tn (lf r)) (TH (rg r)) (TE (rg r)) (TM (rg r)) (tn (rg r)) := ⟨hds, (by first | exact fun _ => hadm | exact fun z9 => absurd z9 (by omega)), (obI_all hrc).mp h103⟩
                            refine lv_iconst (v := zI 1) hx hb qd_M_search_106 rfl ?_
                            exact W.zret (v := zI (bI true)) (ty := .boolean) hx hb hr (bI_n _) (fun t9 ht9 hW9 => ⟨⟨true, (0, rkW sy w rk, e3, v3, g3, oz), rfl, (Or.inr ⟨by omega, rfl, Or.inl ⟨rfl, w, by omega, hsok, hno, rfl⟩⟩), mwB_i (by rw [ht9]; exact hP) (va_K.moved hW9.alike hK) hD⟩, hS.F ht9⟩) hS.2.2 qd_M_search_107
              exact L66 _ 0 rk ef hv gr (by omega) (fun q hq => rfl) (fun q hq => by omega) rfl H31_3 L31_3 hP hD hS ls hl
            · skip
              refine lv_aload_n hx hb qd_M_search_39 rfl (lv_at hl 2 rfl) ?_
              refine va_get (D := (dC, dI)) (ci := 6) (v := .ref mO) (C := "TermOrdersModel") (T := qT_M) (N := 17) hx hb hg qi_M hown hK hP 0 rfl rfl 15 (by decide) (hg _ wd_633) (fun _ h9 => h9) rfl qd_M_search_40 ?_
              refine lv_iload_n hx hb qd_M_search_43 rfl (lv_at hl 0 rfl) ?_
              refine lv_aload_n hx hb qd_M_search_44 rfl (lv_at hl 2 rfl) ?_
              refine va_get (D := (dC, dI)) (ci := 6) (v := .ref mR) (C := "TermOrdersModel") (T := qT_M) (N := 17) hx hb hg qi_M hown hK hP 0 rfl rfl 2 (by decide) (hg _ wd_620) (fun _ h9 => h9) rfl qd_M_search_45 ?_
              refine lv_iload_n hx hb qd_M_search_48 rfl (lv_at hl 0 rfl) ?_
              refine zz_iald hx hb hK hP 1 0 rfl rfl i rfl (by omega) (by omega) qd_M_search_49 ?_
              refine zz_iast hx hb hK hP hD hS 5 0 rfl rfl i rfl (by omega) (by omega) qd_M_search_50 (fun H50_10 L50_10 hP hD hS => ?_)
              have hP : va_P (dC, dI) qcl [(o, .inr (6, [.int (zI (↑sy)), .ref mA, .ref mR, .ref mW, .int (zI (↑tc)), .ref mC, .ref mS, .int (zI (↑rc)), .ref mL, .ref mT, .ref mH, .ref mY, .ref mE, .ref mG, .ref mB, .ref mO, .int (zI (0))])), (mR, .inl (cI, 5, .inl (zA rk))), (mE, .inl (cI, 32, .inl (zA (eI ef)))), (mY, .inl (cI, 32, .inl (zA hv))), (mG, .inl (cZ, 256, .inl (zB gr))), (mO, .inl (cI, 5, .inl (zA (uz oz i (rk i)))))] H50_10 := hP
              have hD : va_D A [(o, .inr (6, [.int (zI (↑sy)), .ref mA, .ref mR, .ref mW, .int (zI (↑tc)), .ref mC, .ref mS, .int (zI (↑rc)), .ref mL, .ref mT, .ref mH, .ref mY, .ref mE, .ref mG, .ref mB, .ref mO, .int (zI (0))])), (mR, .inl (cI, 5, .inl (zA rk))), (mE, .inl (cI, 32, .inl (zA (eI ef)))), (mY, .inl (cI, 32, .inl (zA hv))), (mG, .inl (cZ, 256, .inl (zB gr))), (mO, .inl (cI, 5, .inl (zA (uz oz i (rk i)))))] := hD
              have hF := fz_keep hF0 hFA hS
              refine lv_iload_n hx hb qd_M_search_51 rfl (lv_at hl 1 rfl) ?_
              refine lv_aload_n hx hb qd_M_search_52 rfl (lv_at hl 2 rfl) ?_
              refine va_get (D := (dC, dI)) (ci := 6) (v := .int (zI (↑sy))) (C := "TermOrdersModel") (T := qT_M) (N := 17) hx hb hg qi_M hown hK hP 0 rfl rfl 0 (by decide) (hg _ wd_618) (fun _ h9 => h9) rfl qd_M_search_53 ?_
              refine zz_imul hx hb (↑(sy ^ (i + 1))) (by rw [Nat.pow_succ]; rfl) qd_M_search_56 ?_
              refine lv_istore_n (lv' := [(2, .int (zI (↑(sy ^ (i + 1))))), (3, .int (zI (↑i))), (0, .ref o), (1, .int (zI (x)))]) hx hb qd_M_search_57 rfl hl (by decide) rfl (fun ls hl => ?_)
              refine lv_iinc (k := 1) (lv' := [(3, .int (zI (↑(i + 1)))), (2, .int (zI (↑(sy ^ (i + 1))))), (0, .ref o), (1, .int (zI (x)))]) hx hb qd_M_search_58 hl rfl (zI_inc (v := ↑(i + 1)) (by omega)) (by decide) rfl (fun ls hl => ?_)
              refine lv_goto (tgt := 31) hx hb qd_M_search_61 (by decide) ?_
              exact ih31 _ (by omega) (i + 1) (uz oz i (rk i)) (by omega) (fun q hq => if h8 : q = i then (by rw [h8, uz_s]) else (by rw [uz_n _ _ h8]; exact ho9 q (by omega))) rfl H50_10 L50_10 hP hD hS ls hl
        have q9 : (1 : Int) = ↑(sy ^ 0) := rfl
        have hl : lv_has ls 4 [(3, .int (zI (0))), (2, .int (zI (↑(sy ^ 0)))), (0, .ref o), (1, .int (zI (x)))] := (congrArg (fun z9 : Int => lv_has ls 4 [(3, .int (zI (0))), (2, .int (zI (z9))), (0, .ref o), (1, .int (zI (x)))]) q9).mp hl
        exact L31 _ 0 ol (by omega) (fun q hq => by omega) rfl H15_2 L15_2 hP hD hS ls hl
      · skip
        exfalso
        omega
    · skip
      refine lv_iconst (v := zI 1) hx hb qd_M_search_10 rfl ?_
      refine lv_goto (tgt := 15) hx hb qd_M_search_11 (by decide) ?_
      refine va_put (D := (dC, dI)) (ci := 6) (v := .int (zI (1))) (ty := .int) (C := "TermOrdersModel") (T := qT_M) (N := 17) hx hb hg qi_M qt_M qo_M qn_M hown hK hP hD hS 0 rfl rfl 16 (by decide) (hg _ wd_634) (fun _ h9 => h9) rfl (by decide +kernel) rfl rfl (Nat.le_of_ble_eq_true rfl) qd_M_search_15 (fun H15_11 L15_11 hP hD hS => ?_)
      have hP : va_P (dC, dI) qcl [(o, .inr (6, [.int (zI (↑sy)), .ref mA, .ref mR, .ref mW, .int (zI (↑tc)), .ref mC, .ref mS, .int (zI (↑rc)), .ref mL, .ref mT, .ref mH, .ref mY, .ref mE, .ref mG, .ref mB, .ref mO, .int (zI (1))])), (mR, .inl (cI, 5, .inl (zA rk))), (mE, .inl (cI, 32, .inl (zA (eI ef)))), (mY, .inl (cI, 32, .inl (zA hv))), (mG, .inl (cZ, 256, .inl (zB gr))), (mO, .inl (cI, 5, .inl (zA ol)))] H15_11 := hP
      have hD : va_D A [(o, .inr (6, [.int (zI (↑sy)), .ref mA, .ref mR, .ref mW, .int (zI (↑tc)), .ref mC, .ref mS, .int (zI (↑rc)), .ref mL, .ref mT, .ref mH, .ref mY, .ref mE, .ref mG, .ref mB, .ref mO, .int (zI (1))])), (mR, .inl (cI, 5, .inl (zA rk))), (mE, .inl (cI, 32, .inl (zA (eI ef)))), (mY, .inl (cI, 32, .inl (zA hv))), (mG, .inl (cZ, 256, .inl (zB gr))), (mO, .inl (cI, 5, .inl (zA ol)))] := hD
      have hF := fz_keep hF0 hFA hS
      refine lv_aload_n hx hb qd_M_search_18 rfl (lv_at hl 0 rfl) ?_
      refine va_get (D := (dC, dI)) (ci := 6) (v := .int (zI (1))) (C := "TermOrdersModel") (T := qT_M) (N := 17) hx hb hg qi_M hown hK hP 0 rfl rfl 16 (by decide) (hg _ wd_634) (fun _ h9 => h9) rfl qd_M_search_19 ?_
      refine zz_if_eq (tgt := 27) hx hb qd_M_search_22 (by decide) (by omega) (fun h22 => ?_) (fun h22 => ?_)
      · skip
        exfalso
        omega
      · skip
        refine lv_iconst (v := zI 0) hx hb qd_M_search_25 rfl ?_
        exact W.zret (v := zI (bI false)) (ty := .boolean) hx hb hr (bI_n _) (fun t9 ht9 hW9 => ⟨⟨false, (1, rk, ef, hv, gr, ol), rfl, (Or.inl ⟨by omega, rfl, rfl⟩), mwB_i (by rw [ht9]; exact hP) (va_K.moved hW9.alike hK) hD⟩, hS.F ht9⟩) hS.2.2 qd_M_search_26
