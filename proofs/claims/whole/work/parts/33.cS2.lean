theorem cpy5 (f g : Nat → Int) : ∀ j, j < 5 → va_cpy (zA f) (zA g) (zI 0).toNatClampNeg (zI 0).toNatClampNeg (zI 5).toNatClampNeg j = zA f j := by
  intro j hj
  have e1 : (zI 0).toNatClampNeg = 0 := by decide
  have e2 : (zI 5).toNatClampNeg = 5 := by decide
  rw [e1, e2]
  unfold va_cpy
  rw [if_pos (by omega)]
  congr 1
  omega
def nxI (rk : Nat → Int) (n x t j : Nat) : Int := if j < x then rk j else if j = x then rk t else if x + n - j = t then rk x else rk (x + n - j)
theorem rv_step {rz g : Nat → Int} {x sy k : Nat} (hz : ∀ j, rz j = if (x < j ∧ j ≤ x + k) ∨ (sy - k ≤ j ∧ j < sy) then g (x + sy - j) else g j) (h1 : x + 1 + k < sy - 1 - k) (h2 : x < sy) (j : Nat) : uz (uz rz (x + 1 + k) (rz (sy - 1 - k))) (sy - 1 - k) (rz (x + 1 + k)) j = if (x < j ∧ j ≤ x + (k + 1)) ∨ (sy - (k + 1) ≤ j ∧ j < sy) then g (x + sy - j) else g j := by
  by_cases e1 : j = sy - 1 - k
  · subst e1
    rw [uz_s, hz, if_neg (by omega), if_pos (by omega)]
    congr 1
    omega
  · rw [uz_n _ _ e1]
    by_cases e2 : j = x + 1 + k
    · subst e2
      rw [uz_s, hz, if_neg (by omega), if_pos (by omega)]
      congr 1
      omega
    · rw [uz_n _ _ e2, hz]
      by_cases e3 : (x < j ∧ j ≤ x + k) ∨ (sy - k ≤ j ∧ j < sy)
      · rw [if_pos e3, if_pos (by omega)]
      · rw [if_neg e3, if_neg (by omega)]
theorem rv_end {rz rk : Nat → Int} {x t sy k : Nat} (hz : ∀ j, rz j = if (x < j ∧ j ≤ x + k) ∨ (sy - k ≤ j ∧ j < sy) then (uz (uz rk x (rk t)) t (rk x)) (x + sy - j) else (uz (uz rk x (rk t)) t (rk x)) j) (h1 : x < t) (h2 : t < sy) (h3 : sy - 1 - k ≤ x + 1 + k) (h4 : x + 2 * k < sy) : ∀ j, j < sy → rz j = nxI rk sy x t j := by
  intro j hj
  rw [hz]
  unfold nxI
  have hg : ∀ i, x < i → (uz (uz rk x (rk t)) t (rk x)) i = if i = t then rk x else rk i := by
    intro i hi
    by_cases e : i = t
    · subst e; rw [uz_s, if_pos rfl]
    · rw [uz_n _ _ e, uz_n _ _ (by omega), if_neg e]
  by_cases a : j < x
  · rw [if_neg (by omega), if_pos a, uz_n _ _ (by omega), uz_n _ _ (by omega)]
  · rw [if_neg a]
    by_cases b : j = x
    · subst b
      rw [if_neg (by omega), if_pos rfl, uz_n _ _ (by omega), uz_s]
    · rw [if_neg b]
      by_cases c : (x < j ∧ j ≤ x + k) ∨ (sy - k ≤ j ∧ j < sy)
      · rw [if_pos c, hg _ (by omega)]
      · rw [if_neg c, hg _ (by omega), show x + sy - j = j by omega]
set_option maxHeartbeats 4000000 in
set_option maxRecDepth 100000 in
theorem c_S_add (l : Launch) (dC : Nat → ClassId) (dI : Nat → Nat → Nat) (cI cZ cT cJ : ClassId) (o aA aR aW aV sy : Nat) (ar rk wt sv : Nat → Int) (x : Int) (zh : Nat) (hsy : sy < 5) : Met l qy_S_add qw_S_add ({ frames := 0, cells := 0, slots := 0, locals := 0 }) (mwP (dC, dI) qcl (qty cI cZ cT cJ) nwL [(o, .inr (0, [.ref aA, .ref aR, .ref aW, .ref aV, .int (zI (↑sy))])), (aA, .inl (cI, 5, .inl (zA ar))), (aR, .inl (cI, 5, .inl (zA rk))), (aW, .inl (cI, 5, .inl (zA wt)))] [] zh [.ref o, .int (zI (x))]) (mwI (S := Unit) (fun r uq => r = ↑sy) (fun uq tq => mwB (dC, dI) qcl (qty cI cZ cT cJ) (va_A [(o, .inr (0, [.ref aA, .ref aR, .ref aW, .ref aV, .int (zI (↑sy))])), (aA, .inl (cI, 5, .inl (zA ar))), (aR, .inl (cI, 5, .inl (zA rk))), (aW, .inl (cI, 5, .inl (zA wt)))] zh) [(o, .inr (0, [.ref aA, .ref aR, .ref aW, .ref aV, .int (zI (↑(sy + 1)))])), (aA, .inl (cI, 5, .inl (zA (uz ar sy x)))), (aR, .inl (cI, 5, .inl (zA (uz rk sy ↑sy)))), (aW, .inl (cI, 5, .inl (zA (uz wt sy 1))))] tq) (va_A [(o, .inr (0, [.ref aA, .ref aR, .ref aW, .ref aV, .int (zI (↑sy))])), (aA, .inl (cI, 5, .inl (zA ar))), (aR, .inl (cI, 5, .inl (zA rk))), (aW, .inl (cI, 5, .inl (zA wt)))] zh)) 0 0 (va_A [(o, .inr (0, [.ref aA, .ref aR, .ref aW, .ref aV, .int (zI (↑sy))])), (aA, .inl (cI, 5, .inl (zA ar))), (aR, .inl (cI, 5, .inl (zA rk))), (aW, .inl (cI, 5, .inl (zA wt)))] zh) := by
  refine Met.ofW (cc := qc_S_add) (maxL := 3) (ret := (Option.some Jvm.ClassFile.FieldType.int)) (by decide) rfl ?_
  intro pg eg sg mg args below meth cg s₁ B hml hv
  obtain ⟨rfl, hsz, hP, hF0, hK, hN, hD0, hap⟩ := hv
  have hx := B.exec
  have hb := B.bytes
  have hr := B.returns
  have hts := atoms_spec (ws := qw_S_add) B.pre
  have hg : ∀ w ∈ gw, w.before _ sg = true := fun w h => hts w (List.mem_cons_of_mem _ h)
  have hown : sg.vm.findClass "TermOrders$Symbols" = some mg.cls := findClass_of_methodNamed B.named
  have hlocks := B.notSynchronized
  have hl := lv_entry ([.ref o, .int (zI (x))]) (n := 3) (Nat.le_of_ble_eq_true rfl)
  rw [lg_entry_eq]
  generalize (lg_sl ([.ref o, .int (zI (x))]) ++ List.replicate (3 - (lg_sl ([.ref o, .int (zI (x))])).length) Slot.unset).toArray = ls at hl ⊢
  subst hsz
  have hD := hD0.self (sz := sg.heap.size)
  have hFA := apw_A hap (fun k q hk => (hF0 k q hk).lt)
  generalize hAe : va_A [(o, .inr (0, [.ref aA, .ref aR, .ref aW, .ref aV, .int (zI (↑sy))])), (aA, .inl (cI, 5, .inl (zA ar))), (aR, .inl (cI, 5, .inl (zA rk))), (aW, .inl (cI, 5, .inl (zA wt)))] sg.heap.size = A at hD hFA ⊢
  have hA : ∀ q : Nat, sg.heap.size ≤ q → A q := fun q h => by rw [← hAe]; exact Or.inr h
  have hS : va_S A sg.heap sg.heap [] := va_S.rf
  have hF := hF0
  have hl : lv_has ls 3 [(0, .ref o), (1, .int (zI (x)))] := hl
  refine lv_aload_n hx hb qd_S_add_0 rfl (lv_at hl 0 rfl) ?_
  refine va_get (D := (dC, dI)) (ci := 0) (v := .int (zI (↑sy))) (C := "TermOrders$Symbols") (T := qT_S) (N := 5) hx hb hg qi_S hown hK hP 0 rfl rfl 4 (by decide) (hg _ wd_39) (fun _ h9 => h9) rfl qd_S_add_1 ?_
  refine lv_istore_n (lv' := [(2, .int (zI (↑sy))), (0, .ref o), (1, .int (zI (x)))]) hx hb qd_S_add_4 rfl hl (by decide) rfl (fun ls hl => ?_)
  refine lv_aload_n hx hb qd_S_add_5 rfl (lv_at hl 1 rfl) ?_
  refine va_get (D := (dC, dI)) (ci := 0) (v := .ref aA) (C := "TermOrders$Symbols") (T := qT_S) (N := 5) hx hb hg qi_S hown hK hP 0 rfl rfl 0 (by decide) (hg _ wd_31) (fun _ h9 => h9) rfl qd_S_add_6 ?_
  refine lv_iload_n hx hb qd_S_add_9 rfl (lv_at hl 0 rfl) ?_
  refine lv_iload_n hx hb qd_S_add_10 rfl (lv_at hl 2 rfl) ?_
  refine zz_iast hx hb hK hP hD hS 1 0 rfl rfl sy rfl (by omega) (by omega) qd_S_add_11 (fun H11_1 L11_1 hP hD hS => ?_)
  have hP : va_P (dC, dI) qcl [(o, .inr (0, [.ref aA, .ref aR, .ref aW, .ref aV, .int (zI (↑sy))])), (aA, .inl (cI, 5, .inl (zA (uz ar sy x)))), (aR, .inl (cI, 5, .inl (zA rk))), (aW, .inl (cI, 5, .inl (zA wt)))] H11_1 := hP
  have hD : va_D A [(o, .inr (0, [.ref aA, .ref aR, .ref aW, .ref aV, .int (zI (↑sy))])), (aA, .inl (cI, 5, .inl (zA (uz ar sy x)))), (aR, .inl (cI, 5, .inl (zA rk))), (aW, .inl (cI, 5, .inl (zA wt)))] := hD
  refine lv_aload_n hx hb qd_S_add_12 rfl (lv_at hl 1 rfl) ?_
  refine va_get (D := (dC, dI)) (ci := 0) (v := .ref aR) (C := "TermOrders$Symbols") (T := qT_S) (N := 5) hx hb hg qi_S hown hK hP 0 rfl rfl 1 (by decide) (hg _ wd_34) (fun _ h9 => h9) rfl qd_S_add_13 ?_
  refine lv_iload_n hx hb qd_S_add_16 rfl (lv_at hl 0 rfl) ?_
  refine lv_iload_n hx hb qd_S_add_17 rfl (lv_at hl 0 rfl) ?_
  refine zz_iast hx hb hK hP hD hS 2 0 rfl rfl sy rfl (by omega) (by omega) qd_S_add_18 (fun H18_2 L18_2 hP hD hS => ?_)
  have hP : va_P (dC, dI) qcl [(o, .inr (0, [.ref aA, .ref aR, .ref aW, .ref aV, .int (zI (↑sy))])), (aA, .inl (cI, 5, .inl (zA (uz ar sy x)))), (aR, .inl (cI, 5, .inl (zA (uz rk sy (↑sy))))), (aW, .inl (cI, 5, .inl (zA wt)))] H18_2 := hP
  have hD : va_D A [(o, .inr (0, [.ref aA, .ref aR, .ref aW, .ref aV, .int (zI (↑sy))])), (aA, .inl (cI, 5, .inl (zA (uz ar sy x)))), (aR, .inl (cI, 5, .inl (zA (uz rk sy (↑sy))))), (aW, .inl (cI, 5, .inl (zA wt)))] := hD
  refine lv_aload_n hx hb qd_S_add_19 rfl (lv_at hl 1 rfl) ?_
  refine va_get (D := (dC, dI)) (ci := 0) (v := .ref aW) (C := "TermOrders$Symbols") (T := qT_S) (N := 5) hx hb hg qi_S hown hK hP 0 rfl rfl 2 (by decide) (hg _ wd_36) (fun _ h9 => h9) rfl qd_S_add_20 ?_
  refine lv_iload_n hx hb qd_S_add_23 rfl (lv_at hl 0 rfl) ?_
  refine lv_iconst (v := zI 1) hx hb qd_S_add_24 rfl ?_
  refine zz_iast hx hb hK hP hD hS 3 0 rfl rfl sy rfl (by omega) (by omega) qd_S_add_25 (fun H25_3 L25_3 hP hD hS => ?_)
  have hP : va_P (dC, dI) qcl [(o, .inr (0, [.ref aA, .ref aR, .ref aW, .ref aV, .int (zI (↑sy))])), (aA, .inl (cI, 5, .inl (zA (uz ar sy x)))), (aR, .inl (cI, 5, .inl (zA (uz rk sy (↑sy))))), (aW, .inl (cI, 5, .inl (zA (uz wt sy 1))))] H25_3 := hP
  have hD : va_D A [(o, .inr (0, [.ref aA, .ref aR, .ref aW, .ref aV, .int (zI (↑sy))])), (aA, .inl (cI, 5, .inl (zA (uz ar sy x)))), (aR, .inl (cI, 5, .inl (zA (uz rk sy (↑sy))))), (aW, .inl (cI, 5, .inl (zA (uz wt sy 1))))] := hD
  refine lv_aload_n hx hb qd_S_add_26 rfl (lv_at hl 1 rfl) ?_
  refine lv_dup hx hb qd_S_add_27 rfl ?_
  refine va_get (D := (dC, dI)) (ci := 0) (v := .int (zI (↑sy))) (C := "TermOrders$Symbols") (T := qT_S) (N := 5) hx hb hg qi_S hown hK hP 0 rfl rfl 4 (by decide) (hg _ wd_39) (fun _ h9 => h9) rfl qd_S_add_28 ?_
  refine lv_iconst (v := zI 1) hx hb qd_S_add_31 rfl ?_
  refine zz_iadd hx hb (↑(sy + 1)) (by omega) qd_S_add_32 ?_
  refine va_put (D := (dC, dI)) (ci := 0) (v := .int (zI (↑(sy + 1)))) (ty := .int) (C := "TermOrders$Symbols") (T := qT_S) (N := 5) hx hb hg qi_S qt_S qo_S qn_S hown hK hP hD hS 0 rfl rfl 4 (by decide) (hg _ wd_39) (fun _ h9 => h9) rfl (by decide +kernel) rfl rfl (Nat.le_of_ble_eq_true rfl) qd_S_add_33 (fun H33_4 L33_4 hP hD hS => ?_)
  have hP : va_P (dC, dI) qcl [(o, .inr (0, [.ref aA, .ref aR, .ref aW, .ref aV, .int (zI (↑(sy + 1)))])), (aA, .inl (cI, 5, .inl (zA (uz ar sy x)))), (aR, .inl (cI, 5, .inl (zA (uz rk sy (↑sy))))), (aW, .inl (cI, 5, .inl (zA (uz wt sy 1))))] H33_4 := hP
  have hD : va_D A [(o, .inr (0, [.ref aA, .ref aR, .ref aW, .ref aV, .int (zI (↑(sy + 1)))])), (aA, .inl (cI, 5, .inl (zA (uz ar sy x)))), (aR, .inl (cI, 5, .inl (zA (uz rk sy (↑sy))))), (aW, .inl (cI, 5, .inl (zA (uz wt sy 1))))] := hD
  refine lv_iload_n hx hb qd_S_add_36 rfl (lv_at hl 0 rfl) ?_
  exact W.iret (v := zI (↑sy)) hx hb hr (fun t9 ht9 hW9 => ⟨⟨↑sy, (), rfl, rfl, mwB_i (by rw [ht9]; exact hP) (va_K.moved hW9.alike hK) hD⟩, hS.F ht9⟩) hS.2.2 qd_S_add_37
set_option maxHeartbeats 4000000 in
set_option maxRecDepth 100000 in
theorem c_S_swapRanks (l : Launch) (dC : Nat → ClassId) (dI : Nat → Nat → Nat) (cI cZ cT cJ : ClassId) (o aA aR aW aV sy : Nat) (ar rk wt sv : Nat → Int) (x y : Nat) (zh : Nat) (hx5 : x < 5) (hy5 : y < 5) : Met l qy_S_swapRanks qw_S_swapRanks ({ frames := 0, cells := 0, slots := 0, locals := 0 }) (mwP (dC, dI) qcl (qty cI cZ cT cJ) nwL [(aR, .inl (cI, 5, .inl (zA rk)))] [(o, .inr (0, [.ref aA, .ref aR, .ref aW, .ref aV, .int (zI (↑sy))]))] zh [.ref o, .int (zI (↑x)), .int (zI (↑y))]) (va_Qv (S := Unit) (fun uq => True) (fun uq tq => mwB (dC, dI) qcl (qty cI cZ cT cJ) (va_A [(aR, .inl (cI, 5, .inl (zA rk)))] zh) [(aR, .inl (cI, 5, .inl (zA (uz (uz rk x (rk y)) y (rk x)))))] tq) (va_A [(aR, .inl (cI, 5, .inl (zA rk)))] zh)) 0 0 (va_A [(aR, .inl (cI, 5, .inl (zA rk)))] zh) := by
  refine Met.ofW (cc := qc_S_swapRanks) (maxL := 4) (ret := (Option.none : Option Jvm.ClassFile.FieldType)) (by decide) rfl ?_
  intro pg eg sg mg args below meth cg s₁ B hml hv
  obtain ⟨rfl, hsz, hP, hF0, hK, hN, hD0, hap⟩ := hv
  have hx := B.exec
  have hb := B.bytes
  have hr := B.returns
  have hts := atoms_spec (ws := qw_S_swapRanks) B.pre
  have hg : ∀ w ∈ gw, w.before _ sg = true := fun w h => hts w (List.mem_cons_of_mem _ h)
  have hown : sg.vm.findClass "TermOrders$Symbols" = some mg.cls := findClass_of_methodNamed B.named
  have hlocks := B.notSynchronized
  have hl := lv_entry ([.ref o, .int (zI (↑x)), .int (zI (↑y))]) (n := 4) (Nat.le_of_ble_eq_true rfl)
  rw [lg_entry_eq]
  generalize (lg_sl ([.ref o, .int (zI (↑x)), .int (zI (↑y))]) ++ List.replicate (4 - (lg_sl ([.ref o, .int (zI (↑x)), .int (zI (↑y))])).length) Slot.unset).toArray = ls at hl ⊢
  subst hsz
  have hD := hD0.self (sz := sg.heap.size)
  have hFA := apw_A hap (fun k q hk => (hF0 k q hk).lt)
  generalize hAe : va_A [(aR, .inl (cI, 5, .inl (zA rk)))] sg.heap.size = A at hD hFA ⊢
  have hA : ∀ q : Nat, sg.heap.size ≤ q → A q := fun q h => by rw [← hAe]; exact Or.inr h
  have hS : va_S A sg.heap sg.heap [] := va_S.rf
  have hF := hF0
  have hl : lv_has ls 4 [(0, .ref o), (1, .int (zI (↑x))), (2, .int (zI (↑y)))] := hl
  refine lv_aload_n hx hb qd_S_swapRanks_0 rfl (lv_at hl 0 rfl) ?_
  refine va_get (D := (dC, dI)) (ci := 0) (v := .ref aR) (C := "TermOrders$Symbols") (T := qT_S) (N := 5) hx hb hg qi_S hown hK hF 0 rfl rfl 1 (by decide) (hg _ wd_34) (fun _ h9 => h9) rfl qd_S_swapRanks_1 ?_
  refine lv_iload_n hx hb qd_S_swapRanks_4 rfl (lv_at hl 1 rfl) ?_
  refine zz_iald hx hb hK hP 0 0 rfl rfl x rfl (by omega) (by omega) qd_S_swapRanks_5 ?_
  refine lv_istore_n (lv' := [(3, .int (zI (rk x))), (0, .ref o), (1, .int (zI (↑x))), (2, .int (zI (↑y)))]) hx hb qd_S_swapRanks_6 rfl hl (by decide) rfl (fun ls hl => ?_)
  refine lv_aload_n hx hb qd_S_swapRanks_7 rfl (lv_at hl 1 rfl) ?_
  refine va_get (D := (dC, dI)) (ci := 0) (v := .ref aR) (C := "TermOrders$Symbols") (T := qT_S) (N := 5) hx hb hg qi_S hown hK hF 0 rfl rfl 1 (by decide) (hg _ wd_34) (fun _ h9 => h9) rfl qd_S_swapRanks_8 ?_
  refine lv_iload_n hx hb qd_S_swapRanks_11 rfl (lv_at hl 2 rfl) ?_
  refine lv_aload_n hx hb qd_S_swapRanks_12 rfl (lv_at hl 1 rfl) ?_
  refine va_get (D := (dC, dI)) (ci := 0) (v := .ref aR) (C := "TermOrders$Symbols") (T := qT_S) (N := 5) hx hb hg qi_S hown hK hF 0 rfl rfl 1 (by decide) (hg _ wd_34) (fun _ h9 => h9) rfl qd_S_swapRanks_13 ?_
  refine lv_iload_n hx hb qd_S_swapRanks_16 rfl (lv_at hl 3 rfl) ?_
  refine zz_iald hx hb hK hP 0 0 rfl rfl y rfl (by omega) (by omega) qd_S_swapRanks_17 ?_
  refine zz_iast hx hb hK hP hD hS 0 0 rfl rfl x rfl (by omega) (by omega) qd_S_swapRanks_18 (fun H18_1 L18_1 hP hD hS => ?_)
  have hP : va_P (dC, dI) qcl [(aR, .inl (cI, 5, .inl (zA (uz rk x (rk y)))))] H18_1 := hP
  have hD : va_D A [(aR, .inl (cI, 5, .inl (zA (uz rk x (rk y)))))] := hD
  have hF := fz_keep hF0 hFA hS
  refine lv_aload_n hx hb qd_S_swapRanks_19 rfl (lv_at hl 1 rfl) ?_
  refine va_get (D := (dC, dI)) (ci := 0) (v := .ref aR) (C := "TermOrders$Symbols") (T := qT_S) (N := 5) hx hb hg qi_S hown hK hF 0 rfl rfl 1 (by decide) (hg _ wd_34) (fun _ h9 => h9) rfl qd_S_swapRanks_20 ?_
  refine lv_iload_n hx hb qd_S_swapRanks_23 rfl (lv_at hl 3 rfl) ?_
  refine lv_iload_n hx hb qd_S_swapRanks_24 rfl (lv_at hl 0 rfl) ?_
  refine zz_iast hx hb hK hP hD hS 0 0 rfl rfl y rfl (by omega) (by omega) qd_S_swapRanks_25 (fun H25_2 L25_2 hP hD hS => ?_)
  have hP : va_P (dC, dI) qcl [(aR, .inl (cI, 5, .inl (zA (uz (uz rk x (rk y)) y (rk x)))))] H25_2 := hP
  have hD : va_D A [(aR, .inl (cI, 5, .inl (zA (uz (uz rk x (rk y)) y (rk x)))))] := hD
  have hF := fz_keep hF0 hFA hS
  exact W.vret hx hb hr (fun t9 ht9 hW9 => ⟨⟨(), rfl, trivial, mwB_i (by rw [ht9]; exact hP) (va_K.moved hW9.alike hK) hD⟩, hS.F ht9⟩) hS.2.2 qd_S_swapRanks_26
set_option maxHeartbeats 4000000 in
set_option maxRecDepth 100000 in
theorem c_S_takeFirstRanks (l : Launch) (dC : Nat → ClassId) (dI : Nat → Nat → Nat) (cI cZ cT cJ : ClassId) (o aA aR aW aV sy : Nat) (ar rk wt sv : Nat → Int) (zh : Nat) (hsy : sy ≤ 5) : Met l qy_S_takeFirstRanks qw_S_takeFirstRanks ({ frames := 0, cells := 0, slots := 0, locals := 0 }) (mwP (dC, dI) qcl (qty cI cZ cT cJ) nwL [(aR, .inl (cI, 5, .inl (zA rk)))] [(o, .inr (0, [.ref aA, .ref aR, .ref aW, .ref aV, .int (zI (↑sy))]))] zh [.ref o]) (va_Qv (S := (Nat → Int)) (fun uq => (∀ q, q < sy → uq q = ↑q) ∧ (∀ q, sy ≤ q → uq q = rk q)) (fun uq tq => mwB (dC, dI) qcl (qty cI cZ cT cJ) (va_A [(aR, .inl (cI, 5, .inl (zA rk)))] zh) [(aR, .inl (cI, 5, .inl (zA uq)))] tq) (va_A [(aR, .inl (cI, 5, .inl (zA rk)))] zh)) 0 0 (va_A [(aR, .inl (cI, 5, .inl (zA rk)))] zh) := by
  refine Met.ofW (cc := qc_S_takeFirstRanks) (maxL := 2) (ret := (Option.none : Option Jvm.ClassFile.FieldType)) (by decide) rfl ?_
  intro pg eg sg mg args below meth cg s₁ B hml hv
  obtain ⟨rfl, hsz, hP, hF0, hK, hN, hD0, hap⟩ := hv
  have hx := B.exec
  have hb := B.bytes
  have hr := B.returns
  have hts := atoms_spec (ws := qw_S_takeFirstRanks) B.pre
  have hg : ∀ w ∈ gw, w.before _ sg = true := fun w h => hts w (List.mem_cons_of_mem _ h)
  have hown : sg.vm.findClass "TermOrders$Symbols" = some mg.cls := findClass_of_methodNamed B.named
  have hlocks := B.notSynchronized
  have hl := lv_entry ([.ref o]) (n := 2) (Nat.le_of_ble_eq_true rfl)
  rw [lg_entry_eq]
  generalize (lg_sl ([.ref o]) ++ List.replicate (2 - (lg_sl ([.ref o])).length) Slot.unset).toArray = ls at hl ⊢
  subst hsz
  have hD := hD0.self (sz := sg.heap.size)
  have hFA := apw_A hap (fun k q hk => (hF0 k q hk).lt)
  generalize hAe : va_A [(aR, .inl (cI, 5, .inl (zA rk)))] sg.heap.size = A at hD hFA ⊢
  have hA : ∀ q : Nat, sg.heap.size ≤ q → A q := fun q h => by rw [← hAe]; exact Or.inr h
  have hS : va_S A sg.heap sg.heap [] := va_S.rf
  have hF := hF0
  have hl : lv_has ls 2 [(0, .ref o)] := hl
  refine lv_iconst (v := zI 0) hx hb qd_S_takeFirstRanks_0 rfl ?_
  refine lv_istore_n (lv' := [(1, .int (zI (0))), (0, .ref o)]) hx hb qd_S_takeFirstRanks_1 rfl hl (by decide) rfl (fun ls hl => ?_)
  have L2 : ∀ (d9 : Nat) (i : Nat) (rz : Nat → Int), (i ≤ sy) → (∀ q, q < i → rz q = ↑q) → (∀ q, i ≤ q → rz q = rk q) → sy - i = d9 → ∀ (H2_1 : Heap) (L2_1 : List Loc), va_P (dC, dI) qcl [(aR, .inl (cI, 5, .inl (zA rz)))] H2_1 → va_D A [(aR, .inl (cI, 5, .inl (zA rz)))] → va_S A sg.heap H2_1 L2_1 → ∀ ls : Array Slot, lv_has ls 2 [(1, .int (zI (↑i))), (0, .ref o)] → W pg l eg (headSpec qw_S_takeFirstRanks ({ frames := 0, cells := 0, slots := 0, locals := 0 })).room sg mg ([.ref o] : List Value).toArray below meth cg H2_1 L2_1 0 0 (MQ below (va_Qv (S := (Nat → Int)) (fun uq => (∀ q, q < sy → uq q = ↑q) ∧ (∀ q, sy ≤ q → uq q = rk q)) (fun uq tq => mwB (dC, dI) qcl (qty cI cZ cT cJ) A [(aR, .inl (cI, 5, .inl (zA uq)))] tq) A) ([.ref o] : List Value).toArray sg 0 0 A) (F0 mg 2 ls []) := by
    intro d9
    induction d9 using Nat.strongRecOn with
    | _ d9 ih2 =>
      intro i rz hi hz hz2 hd9 H2_1 L2_1 hP hD hS ls hl
      have hF := fz_keep hF0 hFA hS
      refine lv_iload_n hx hb qd_S_takeFirstRanks_2 rfl (lv_at hl 0 rfl) ?_
      refine lv_aload_n hx hb qd_S_takeFirstRanks_3 rfl (lv_at hl 1 rfl) ?_
      refine va_get (D := (dC, dI)) (ci := 0) (v := .int (zI (↑sy))) (C := "TermOrders$Symbols") (T := qT_S) (N := 5) hx hb hg qi_S hown hK hF 0 rfl rfl 4 (by decide) (hg _ wd_39) (fun _ h9 => h9) rfl qd_S_takeFirstRanks_4 ?_
      refine zz_icmp_ge (tgt := 23) hx hb qd_S_takeFirstRanks_7 (by decide) (by omega) (by omega) (fun h7 => ?_) (fun h7 => ?_)
      · skip
        exact W.vret hx hb hr (fun t9 ht9 hW9 => ⟨⟨rz, rfl, ⟨fun q hq => hz q (by omega), fun q hq => hz2 q (by omega)⟩, mwB_i (by rw [ht9]; exact hP) (va_K.moved hW9.alike hK) hD⟩, hS.F ht9⟩) hS.2.2 qd_S_takeFirstRanks_23
      · skip
        refine lv_aload_n hx hb qd_S_takeFirstRanks_10 rfl (lv_at hl 1 rfl) ?_
        refine va_get (D := (dC, dI)) (ci := 0) (v := .ref aR) (C := "TermOrders$Symbols") (T := qT_S) (N := 5) hx hb hg qi_S hown hK hF 0 rfl rfl 1 (by decide) (hg _ wd_34) (fun _ h9 => h9) rfl qd_S_takeFirstRanks_11 ?_
        refine lv_iload_n hx hb qd_S_takeFirstRanks_14 rfl (lv_at hl 0 rfl) ?_
        refine lv_iload_n hx hb qd_S_takeFirstRanks_15 rfl (lv_at hl 0 rfl) ?_
        refine zz_iast hx hb hK hP hD hS 0 0 rfl rfl i rfl (by omega) (by omega) qd_S_takeFirstRanks_16 (fun H16_2 L16_2 hP hD hS => ?_)
        have hP : va_P (dC, dI) qcl [(aR, .inl (cI, 5, .inl (zA (uz rz i (↑i)))))] H16_2 := hP
        have hD : va_D A [(aR, .inl (cI, 5, .inl (zA (uz rz i (↑i)))))] := hD
        have hF := fz_keep hF0 hFA hS
        refine lv_iinc (k := 0) (lv' := [(1, .int (zI (↑(i + 1)))), (0, .ref o)]) hx hb qd_S_takeFirstRanks_17 hl rfl (zI_inc (v := ↑(i + 1)) (by omega)) (by decide) rfl (fun ls hl => ?_)
        refine lv_goto (tgt := 2) hx hb qd_S_takeFirstRanks_20 (by decide) ?_
        exact ih2 _ (by omega) (i + 1) (uz rz i ↑i) (by omega) (fun q hq => if h8 : q = i then (by rw [h8, uz_s]) else (by rw [uz_n _ _ h8]; exact hz q (by omega))) (fun q hq => by rw [uz_n _ _ (by omega)]; exact hz2 q (by omega)) rfl H16_2 L16_2 hP hD hS ls hl
  exact L2 _ 0 rk (by omega) (fun q hq => by omega) (fun q _ => rfl) rfl sg.heap [] hP hD hS ls hl
set_option maxHeartbeats 4000000 in
set_option maxRecDepth 100000 in
theorem c_S_saveRanks (l : Launch) (dC : Nat → ClassId) (dI : Nat → Nat → Nat) (cI cZ cT cJ : ClassId) (o aA aR aW aV sy : Nat) (ar rk wt sv : Nat → Int) (zh : Nat)  : Met l qy_S_saveRanks qw_S_saveRanks ({ frames := 1, cells := 0, slots := 0, locals := 60 }) (mwP (dC, dI) qcl (qty cI cZ cT cJ) nwL [(aR, .inl (cI, 5, .inl (zA rk))), (aV, .inl (cI, 5, .inl (zA sv)))] [(o, .inr (0, [.ref aA, .ref aR, .ref aW, .ref aV, .int (zI (↑sy))]))] zh [.ref o]) (va_Qv (S := Unit) (fun uq => True) (fun uq tq => mwB (dC, dI) qcl (qty cI cZ cT cJ) (va_A [(aR, .inl (cI, 5, .inl (zA rk))), (aV, .inl (cI, 5, .inl (zA sv)))] zh) [(aR, .inl (cI, 5, .inl (zA rk))), (aV, .inl (cI, 5, .inl (zA rk)))] tq) (va_A [(aR, .inl (cI, 5, .inl (zA rk))), (aV, .inl (cI, 5, .inl (zA sv)))] zh)) 0 0 (va_A [(aR, .inl (cI, 5, .inl (zA rk))), (aV, .inl (cI, 5, .inl (zA sv)))] zh) := by
  refine Met.ofW (cc := qc_S_saveRanks) (maxL := 1) (ret := (Option.none : Option Jvm.ClassFile.FieldType)) (by decide) rfl ?_
  intro pg eg sg mg args below meth cg s₁ B hml hv
  obtain ⟨rfl, hsz, hP, hF0, hK, hN, hD0, hap⟩ := hv
  have hx := B.exec
  have hb := B.bytes
  have hr := B.returns
  have hts := atoms_spec (ws := qw_S_saveRanks) B.pre
  have hg : ∀ w ∈ gw, w.before _ sg = true := fun w h => hts w (List.mem_cons_of_mem _ h)
  have hown : sg.vm.findClass "TermOrders$Symbols" = some mg.cls := findClass_of_methodNamed B.named
  have hlocks := B.notSynchronized
  have hl := lv_entry ([.ref o]) (n := 1) (Nat.le_of_ble_eq_true rfl)
  rw [lg_entry_eq]
  generalize (lg_sl ([.ref o]) ++ List.replicate (1 - (lg_sl ([.ref o])).length) Slot.unset).toArray = ls at hl ⊢
  subst hsz
  have hD := hD0.self (sz := sg.heap.size)
  have hFA := apw_A hap (fun k q hk => (hF0 k q hk).lt)
  generalize hAe : va_A [(aR, .inl (cI, 5, .inl (zA rk))), (aV, .inl (cI, 5, .inl (zA sv)))] sg.heap.size = A at hD hFA ⊢
  have hA : ∀ q : Nat, sg.heap.size ≤ q → A q := fun q h => by rw [← hAe]; exact Or.inr h
  have hS : va_S A sg.heap sg.heap [] := va_S.rf
  have hF := hF0
  have hl : lv_has ls 1 [(0, .ref o)] := hl
  refine lv_aload_n hx hb qd_S_saveRanks_0 rfl (lv_at hl 0 rfl) ?_
  refine va_get (D := (dC, dI)) (ci := 0) (v := .ref aR) (C := "TermOrders$Symbols") (T := qT_S) (N := 5) hx hb hg qi_S hown hK hF 0 rfl rfl 1 (by decide) (hg _ wd_34) (fun _ h9 => h9) rfl qd_S_saveRanks_1 ?_
  refine lv_iconst (v := zI 0) hx hb qd_S_saveRanks_4 rfl ?_
  refine lv_aload_n hx hb qd_S_saveRanks_5 rfl (lv_at hl 0 rfl) ?_
  refine va_get (D := (dC, dI)) (ci := 0) (v := .ref aV) (C := "TermOrders$Symbols") (T := qT_S) (N := 5) hx hb hg qi_S hown hK hF 0 rfl rfl 3 (by decide) (hg _ wd_38) (fun _ h9 => h9) rfl qd_S_saveRanks_6 ?_
  refine lv_iconst (v := zI 0) hx hb qd_S_saveRanks_9 rfl ?_
  refine lv_iconst (v := zI 5) hx hb qd_S_saveRanks_10 rfl ?_
  refine va_copyi (ty := .int) (sp := zI 0) (dp := zI 0) (n := zI 5) hx hb (hml.trans hl.1.symm) hown (hg _ wd_511) (hg _ wd_318) (hg _ wd_317) (hg _ wd_15) hK hP hD hS 0 1 0 0 rfl rfl rfl rfl rfl (by decide) (by decide) (by decide) (by decide) (by decide) (fun _ _ => rfl) (Nat.le_of_ble_eq_true rfl) (Nat.le_of_ble_eq_true rfl) qd_S_saveRanks_11 (fun H11_1 L11_1 hP hD hS => ?_)
  have hP : va_P (dC, dI) qcl [(aR, .inl (cI, 5, .inl (zA rk))), (aV, .inl (cI, 5, .inl (zA rk)))] H11_1 := pw_ext (q0 := 1) (g := zA rk) hP rfl (cpy5 _ _)
  have hD : va_D A [(aR, .inl (cI, 5, .inl (zA rk))), (aV, .inl (cI, 5, .inl (zA rk)))] := dw_ext (q0 := 1) hD rfl
  have hF := fz_keep hF0 hFA hS
  exact W.vret hx hb hr (fun t9 ht9 hW9 => ⟨⟨(), rfl, trivial, mwB_i (by rw [ht9]; exact hP) (va_K.moved hW9.alike hK) hD⟩, hS.F ht9⟩) hS.2.2 qd_S_saveRanks_14
set_option maxHeartbeats 4000000 in
set_option maxRecDepth 100000 in
theorem c_S_restoreRanks (l : Launch) (dC : Nat → ClassId) (dI : Nat → Nat → Nat) (cI cZ cT cJ : ClassId) (o aA aR aW aV sy : Nat) (ar rk wt sv : Nat → Int) (zh : Nat)  : Met l qy_S_restoreRanks qw_S_restoreRanks ({ frames := 1, cells := 0, slots := 0, locals := 60 }) (mwP (dC, dI) qcl (qty cI cZ cT cJ) nwL [(aR, .inl (cI, 5, .inl (zA rk))), (aV, .inl (cI, 5, .inl (zA sv)))] [(o, .inr (0, [.ref aA, .ref aR, .ref aW, .ref aV, .int (zI (↑sy))]))] zh [.ref o]) (va_Qv (S := Unit) (fun uq => True) (fun uq tq => mwB (dC, dI) qcl (qty cI cZ cT cJ) (va_A [(aR, .inl (cI, 5, .inl (zA rk))), (aV, .inl (cI, 5, .inl (zA sv)))] zh) [(aR, .inl (cI, 5, .inl (zA sv))), (aV, .inl (cI, 5, .inl (zA sv)))] tq) (va_A [(aR, .inl (cI, 5, .inl (zA rk))), (aV, .inl (cI, 5, .inl (zA sv)))] zh)) 0 0 (va_A [(aR, .inl (cI, 5, .inl (zA rk))), (aV, .inl (cI, 5, .inl (zA sv)))] zh) := by
  refine Met.ofW (cc := qc_S_restoreRanks) (maxL := 1) (ret := (Option.none : Option Jvm.ClassFile.FieldType)) (by decide) rfl ?_
  intro pg eg sg mg args below meth cg s₁ B hml hv
  obtain ⟨rfl, hsz, hP, hF0, hK, hN, hD0, hap⟩ := hv
  have hx := B.exec
  have hb := B.bytes
  have hr := B.returns
  have hts := atoms_spec (ws := qw_S_restoreRanks) B.pre
  have hg : ∀ w ∈ gw, w.before _ sg = true := fun w h => hts w (List.mem_cons_of_mem _ h)
  have hown : sg.vm.findClass "TermOrders$Symbols" = some mg.cls := findClass_of_methodNamed B.named
  have hlocks := B.notSynchronized
  have hl := lv_entry ([.ref o]) (n := 1) (Nat.le_of_ble_eq_true rfl)
  rw [lg_entry_eq]
  generalize (lg_sl ([.ref o]) ++ List.replicate (1 - (lg_sl ([.ref o])).length) Slot.unset).toArray = ls at hl ⊢
  subst hsz
  have hD := hD0.self (sz := sg.heap.size)
  have hFA := apw_A hap (fun k q hk => (hF0 k q hk).lt)
  generalize hAe : va_A [(aR, .inl (cI, 5, .inl (zA rk))), (aV, .inl (cI, 5, .inl (zA sv)))] sg.heap.size = A at hD hFA ⊢
  have hA : ∀ q : Nat, sg.heap.size ≤ q → A q := fun q h => by rw [← hAe]; exact Or.inr h
  have hS : va_S A sg.heap sg.heap [] := va_S.rf
  have hF := hF0
  have hl : lv_has ls 1 [(0, .ref o)] := hl
  refine lv_aload_n hx hb qd_S_restoreRanks_0 rfl (lv_at hl 0 rfl) ?_
  refine va_get (D := (dC, dI)) (ci := 0) (v := .ref aV) (C := "TermOrders$Symbols") (T := qT_S) (N := 5) hx hb hg qi_S hown hK hF 0 rfl rfl 3 (by decide) (hg _ wd_38) (fun _ h9 => h9) rfl qd_S_restoreRanks_1 ?_
  refine lv_iconst (v := zI 0) hx hb qd_S_restoreRanks_4 rfl ?_
  refine lv_aload_n hx hb qd_S_restoreRanks_5 rfl (lv_at hl 0 rfl) ?_
  refine va_get (D := (dC, dI)) (ci := 0) (v := .ref aR) (C := "TermOrders$Symbols") (T := qT_S) (N := 5) hx hb hg qi_S hown hK hF 0 rfl rfl 1 (by decide) (hg _ wd_34) (fun _ h9 => h9) rfl qd_S_restoreRanks_6 ?_
  refine lv_iconst (v := zI 0) hx hb qd_S_restoreRanks_9 rfl ?_
  refine lv_iconst (v := zI 5) hx hb qd_S_restoreRanks_10 rfl ?_
  refine va_copyi (ty := .int) (sp := zI 0) (dp := zI 0) (n := zI 5) hx hb (hml.trans hl.1.symm) hown (hg _ wd_511) (hg _ wd_318) (hg _ wd_317) (hg _ wd_15) hK hP hD hS 1 0 0 0 rfl rfl rfl rfl rfl (by decide) (by decide) (by decide) (by decide) (by decide) (fun _ _ => rfl) (Nat.le_of_ble_eq_true rfl) (Nat.le_of_ble_eq_true rfl) qd_S_restoreRanks_11 (fun H11_1 L11_1 hP hD hS => ?_)
  have hP : va_P (dC, dI) qcl [(aR, .inl (cI, 5, .inl (zA sv))), (aV, .inl (cI, 5, .inl (zA sv)))] H11_1 := pw_ext (q0 := 0) (g := zA sv) hP rfl (cpy5 _ _)
  have hD : va_D A [(aR, .inl (cI, 5, .inl (zA sv))), (aV, .inl (cI, 5, .inl (zA sv)))] := dw_ext (q0 := 0) hD rfl
  have hF := fz_keep hF0 hFA hS
  exact W.vret hx hb hr (fun t9 ht9 hW9 => ⟨⟨(), rfl, trivial, mwB_i (by rw [ht9]; exact hP) (va_K.moved hW9.alike hK) hD⟩, hS.F ht9⟩) hS.2.2 qd_S_restoreRanks_14
set_option maxHeartbeats 4000000 in
set_option maxRecDepth 100000 in
theorem c_S_takeNextRanks (l : Launch) (dC : Nat → ClassId) (dI : Nat → Nat → Nat) (cI cZ cT cJ : ClassId) (o aA aR aW aV sy : Nat) (ar rk wt sv : Nat → Int) (zh : Nat) (hsy : sy ≤ 5) (hrk : ∀ q, q < 5 → 0 ≤ rk q ∧ rk q ≤ 4) : Met l qy_S_takeNextRanks qw_S_takeNextRanks ({ frames := 2, cells := 0, slots := 0, locals := 44 }) (mwP (dC, dI) qcl (qty cI cZ cT cJ) nwL [(aR, .inl (cI, 5, .inl (zA rk)))] [(o, .inr (0, [.ref aA, .ref aR, .ref aW, .ref aV, .int (zI (↑sy))])), (aA, .inl (cI, 5, .inl (zA ar))), (aW, .inl (cI, 5, .inl (zA wt))), (aV, .inl (cI, 5, .inl (zA sv)))] zh [.ref o]) (mwO (S := (Nat → Int)) (fun r uq => (r = true ∧ ∃ x t, x + 1 < sy ∧ rk x < rk (x + 1) ∧ (∀ q, x < q → q + 1 < sy → ¬ rk q < rk (q + 1)) ∧ x < t ∧ t < sy ∧ rk x < rk t ∧ (∀ q, t < q → q < sy → ¬ rk x < rk q) ∧ (∀ j, j < sy → uq j = nxI rk sy x t j) ∧ ∀ j, sy ≤ j → uq j = rk j) ∨ (r = false ∧ uq = rk ∧ ∀ q, q + 1 < sy → ¬ rk q < rk (q + 1))) (fun uq tq => mwB (dC, dI) qcl (qty cI cZ cT cJ) (va_A [(aR, .inl (cI, 5, .inl (zA rk)))] zh) [(aR, .inl (cI, 5, .inl (zA uq)))] tq) (va_A [(aR, .inl (cI, 5, .inl (zA rk)))] zh)) 0 0 (va_A [(aR, .inl (cI, 5, .inl (zA rk)))] zh) := by
  refine Met.ofW (cc := qc_S_takeNextRanks) (maxL := 4) (ret := (Option.some Jvm.ClassFile.FieldType.boolean)) (by decide) rfl ?_
  intro pg eg sg mg args below meth cg s₁ B hml hv
  obtain ⟨rfl, hsz, hP, hF0, hK, hN, hD0, hap⟩ := hv
  have hx := B.exec
  have hb := B.bytes
  have hr := B.returns
  have hts := atoms_spec (ws := qw_S_takeNextRanks) B.pre
  have hg : ∀ w ∈ gw, w.before _ sg = true := fun w h => hts w (List.mem_cons_of_mem _ h)
  have hown : sg.vm.findClass "TermOrders$Symbols" = some mg.cls := findClass_of_methodNamed B.named
  have hlocks := B.notSynchronized
  have hl := lv_entry ([.ref o]) (n := 4) (Nat.le_of_ble_eq_true rfl)
  rw [lg_entry_eq]
  generalize (lg_sl ([.ref o]) ++ List.replicate (4 - (lg_sl ([.ref o])).length) Slot.unset).toArray = ls at hl ⊢
  subst hsz
  have hD := hD0.self (sz := sg.heap.size)
  have hFA := apw_A hap (fun k q hk => (hF0 k q hk).lt)
  generalize hAe : va_A [(aR, .inl (cI, 5, .inl (zA rk)))] sg.heap.size = A at hD hFA ⊢
  have hA : ∀ q : Nat, sg.heap.size ≤ q → A q := fun q h => by rw [← hAe]; exact Or.inr h
  have hS : va_S A sg.heap sg.heap [] := va_S.rf
  have hF := hF0
  have hl : lv_has ls 4 [(0, .ref o)] := hl
  refine lv_aload_n hx hb qd_S_takeNextRanks_0 rfl (lv_at hl 0 rfl) ?_
  refine rd_callI (W.runV (As := []) (rest := []) ⟨hx, hb, hml, hown, hg⟩ (c_S_lastBelowItsNext l dC dI cI cZ cT cJ o aA aR aW aV sy ar rk wt sv hsy hrk) ⟨callB_of 0 hg (gw_ok (fun _ h => h) wd_527) rfl rfl rfl (hg _ wd_2) (hg _ wd_524) (by decide +kernel) ⟨Nat.le_of_ble_eq_true rfl, Nat.le_of_ble_eq_true rfl⟩, hg _ wd_526, hg _ se_S_lastBelowItsNext⟩ (rd_preV (va_recv (q0 := 0) hK hF rfl rfl) (pw_c (q := (o, .inr (0, [.ref aA, .ref aR, .ref aW, .ref aV, .int (zI (↑sy))]))) hF 0 rfl (pw_c (q := (aA, .inl (cI, 5, .inl (zA ar)))) hF 1 rfl (pw_c (q := (aR, .inl (cI, 5, .inl (zA rk)))) hP 0 rfl (pw_c (q := (aW, .inl (cI, 5, .inl (zA wt)))) hF 2 rfl (pw_c (q := (aV, .inl (cI, 5, .inl (zA sv)))) hF 3 rfl (pw_nil)))))) hK hN) rfl rfl hl.1 rfl (lv_room (Nat.le_of_ble_eq_true rfl)) qd_S_takeNextRanks_1 ⟨Nat.le_of_ble_eq_true rfl, Nat.le_of_ble_eq_true rfl⟩) (fun r1 hr1 => ?_)
  refine lv_istore_n (lv' := [(1, .int (zI (r1))), (0, .ref o)]) hx hb qd_S_takeNextRanks_4 rfl hl (by decide) rfl (fun ls hl => ?_)
  refine lv_iload_n hx hb qd_S_takeNextRanks_5 rfl (lv_at hl 0 rfl) ?_
  refine lv_iconst (v := zI (-1)) hx hb qd_S_takeNextRanks_6 rfl ?_
  refine zz_icmp_ne (tgt := 12) hx hb qd_S_takeNextRanks_7 (by decide) (by rcases hr1 with ⟨k, z1, z2, _⟩ | ⟨z1, _⟩ <;> omega) (by omega) (fun h7 => ?_) (fun h7 => ?_)
  · skip
    have hk9 : ∃ k : Nat, r1 = ↑k ∧ k + 1 < sy ∧ rk k < rk (k + 1) ∧ ∀ q, k < q → q + 1 < sy → ¬ rk q < rk (q + 1) := hr1.resolve_right (fun z => h7 z.1)
    obtain ⟨x, rfl, hx1, hx2, hx3⟩ := hk9
    refine lv_aload_n hx hb qd_S_takeNextRanks_12 rfl (lv_at hl 1 rfl) ?_
    refine lv_iload_n hx hb qd_S_takeNextRanks_13 rfl (lv_at hl 0 rfl) ?_
    refine lv_aload_n hx hb qd_S_takeNextRanks_14 rfl (lv_at hl 1 rfl) ?_
    refine lv_iload_n hx hb qd_S_takeNextRanks_15 rfl (lv_at hl 0 rfl) ?_
    refine rd_callI (W.runV (As := [.int (zI (↑x))]) (rest := [.int (zI ((↑x))), .ref o]) ⟨hx, hb, hml, hown, hg⟩ (c_S_lastAbove l dC dI cI cZ cT cJ o aA aR aW aV sy ar rk wt sv x hsy hrk hx1 hx2) ⟨callB_of 1 hg (gw_ok (fun _ h => h) wd_531) rfl rfl rfl (hg _ wd_2) (hg _ wd_528) (by decide +kernel) ⟨Nat.le_of_ble_eq_true rfl, Nat.le_of_ble_eq_true rfl⟩, hg _ wd_530, hg _ se_S_lastAbove⟩ (rd_preV (va_recv (q0 := 0) hK hF rfl rfl) (pw_c (q := (o, .inr (0, [.ref aA, .ref aR, .ref aW, .ref aV, .int (zI (↑sy))]))) hF 0 rfl (pw_c (q := (aA, .inl (cI, 5, .inl (zA ar)))) hF 1 rfl (pw_c (q := (aR, .inl (cI, 5, .inl (zA rk)))) hP 0 rfl (pw_c (q := (aW, .inl (cI, 5, .inl (zA wt)))) hF 2 rfl (pw_c (q := (aV, .inl (cI, 5, .inl (zA sv)))) hF 3 rfl (pw_nil)))))) hK hN) rfl rfl hl.1 rfl (lv_room (Nat.le_of_ble_eq_true rfl)) qd_S_takeNextRanks_16 ⟨Nat.le_of_ble_eq_true rfl, Nat.le_of_ble_eq_true rfl⟩) (fun r16 hr16 => ?_)
    obtain ⟨t, rfl, ht1, ht2, ht3, ht4⟩ := hr16
    have hPc := hP.sub (ws' := [(aR, .inl (cI, 5, .inl (zA rk)))]) [0] rfl
    have hDc := hD.sub (ws' := [(aR, .inl (cI, 5, .inl (zA rk)))]) [0] (by decide) rfl
    have hFr := va_free (wc := [(aR, .inl (cI, 5, .inl (zA rk)))]) hD hS hA [0] rfl
    refine va_callv (va_runV (As := [.int (zI (↑x)), .int (zI (↑t))]) (rest := []) ⟨hx, hb, hml, hown, hg⟩ (c_S_swapRanks l dC dI cI cZ cT cJ o aA aR aW aV sy ar rk wt sv x t sg.heap.size (by omega) (by omega)) ⟨callB_of 2 hg (gw_ok (fun _ h => h) wd_535) rfl rfl rfl (hg _ wd_2) (hg _ wd_532) (by decide +kernel) ⟨Nat.le_of_ble_eq_true rfl, Nat.le_of_ble_eq_true rfl⟩, hg _ wd_534, hg _ se_S_swapRanks⟩ (mw_preV (va_recv (q0 := 0) hK hF rfl rfl) hPc (pw_c (q := (o, .inr (0, [.ref aA, .ref aR, .ref aW, .ref aV, .int (zI (↑sy))]))) hF 0 rfl (pw_nil)) hK hN hDc (apw_c (q := (o, .inr (0, [.ref aA, .ref aR, .ref aW, .ref aV, .int (zI (↑sy))]))) (apw_f hD [0] rfl (hFA 0 _ rfl)) (apw_nil))) rfl rfl hl.1 rfl (lv_room (Nat.le_of_ble_eq_true rfl)) qd_S_takeNextRanks_19 ⟨Nat.le_of_ble_eq_true rfl, Nat.le_of_ble_eq_true rfl⟩) hS (fun q _ h => hFr q h) hFr (fun u9 t9 H19_1 L19_1 ht9 hv9 hr19 hB9 hz9 hk9 hS => ?_)
    obtain ⟨hP, hD⟩ := mw_join (wr := []) (w1 := [(aR, .inl (cI, 5, .inl (zA (uz (uz rk x (rk t)) t (rk x)))))]) hP hD [0] [] rfl rfl (by decide) (by decide) hk9 hFr ht9 hB9
    have hP := hP.sub (ws' := [(aR, .inl (cI, 5, .inl (zA (uz (uz rk x (rk t)) t (rk x)))))]) [0] rfl
    have hD := hD.sub (ws' := [(aR, .inl (cI, 5, .inl (zA (uz (uz rk x (rk t)) t (rk x)))))]) [0] (by decide) rfl
    have hF := fz_keep hF0 hFA hS
    refine lv_iload_n hx hb qd_S_takeNextRanks_22 rfl (lv_at hl 0 rfl) ?_
    refine lv_iconst (v := zI 1) hx hb qd_S_takeNextRanks_23 rfl ?_
    refine zz_iadd hx hb (↑(x + 1)) (by omega) qd_S_takeNextRanks_24 ?_
    refine lv_istore_n (lv' := [(2, .int (zI (↑(x + 1)))), (1, .int (zI ((↑x)))), (0, .ref o)]) hx hb qd_S_takeNextRanks_25 rfl hl (by decide) rfl (fun ls hl => ?_)
    refine lv_aload_n hx hb qd_S_takeNextRanks_26 rfl (lv_at hl 2 rfl) ?_
    refine va_get (D := (dC, dI)) (ci := 0) (v := .int (zI (↑sy))) (C := "TermOrders$Symbols") (T := qT_S) (N := 5) hx hb hg qi_S hown hK hF 0 rfl rfl 4 (by decide) (hg _ wd_39) (fun _ h9 => h9) rfl qd_S_takeNextRanks_27 ?_
    refine lv_iconst (v := zI 1) hx hb qd_S_takeNextRanks_30 rfl ?_
    refine zz_isub hx hb (↑(sy - 1)) (by omega) qd_S_takeNextRanks_31 ?_
    refine lv_istore_n (lv' := [(3, .int (zI (↑(sy - 1)))), (2, .int (zI (↑(x + 1)))), (1, .int (zI ((↑x)))), (0, .ref o)]) hx hb qd_S_takeNextRanks_32 rfl hl (by decide) rfl (fun ls hl => ?_)
    have L33 : ∀ (d9 : Nat) (k : Nat) (rz : Nat → Int), (x + 2 * k < sy) → (∀ j, rz j = if (x < j ∧ j ≤ x + k) ∨ (sy - k ≤ j ∧ j < sy) then (uz (uz rk x (rk t)) t (rk x)) (x + sy - j) else (uz (uz rk x (rk t)) t (rk x)) j) → sy - k = d9 → ∀ (H33_2 : Heap) (L33_2 : List Loc), va_P (dC, dI) qcl [(aR, .inl (cI, 5, .inl (zA rz)))] H33_2 → va_D A [(aR, .inl (cI, 5, .inl (zA rz)))] → va_S A sg.heap H33_2 L33_2 → ∀ ls : Array Slot, lv_has ls 4 [(3, .int (zI (↑(sy - 1 - k)))), (2, .int (zI (↑(x + 1 + k)))), (1, .int (zI ((↑x)))), (0, .ref o)] → W pg l eg (headSpec qw_S_takeNextRanks ({ frames := 2, cells := 0, slots := 0, locals := 44 })).room sg mg ([.ref o] : List Value).toArray below meth cg H33_2 L33_2 0 0 (MQ below (mwO (S := (Nat → Int)) (fun r uq => (r = true ∧ ∃ x t, x + 1 < sy ∧ rk x < rk (x + 1) ∧ (∀ q, x < q → q + 1 < sy → ¬ rk q < rk (q + 1)) ∧ x < t ∧ t < sy ∧ rk x < rk t ∧ (∀ q, t < q → q < sy → ¬ rk x < rk q) ∧ (∀ j, j < sy → uq j = nxI rk sy x t j) ∧ ∀ j, sy ≤ j → uq j = rk j) ∨ (r = false ∧ uq = rk ∧ ∀ q, q + 1 < sy → ¬ rk q < rk (q + 1))) (fun uq tq => mwB (dC, dI) qcl (qty cI cZ cT cJ) A [(aR, .inl (cI, 5, .inl (zA uq)))] tq) A) ([.ref o] : List Value).toArray sg 0 0 A) (F0 mg 33 ls []) := by
      intro d9
      induction d9 using Nat.strongRecOn with
      | _ d9 ih33 =>
        intro k rz hk hz hd9 H33_2 L33_2 hP hD hS ls hl
        have hF := fz_keep hF0 hFA hS
        refine lv_iload_n hx hb qd_S_takeNextRanks_33 rfl (lv_at hl 1 rfl) ?_
        refine lv_iload_n hx hb qd_S_takeNextRanks_34 rfl (lv_at hl 0 rfl) ?_
        refine zz_icmp_ge (tgt := 53) hx hb qd_S_takeNextRanks_35 (by decide) (by omega) (by omega) (fun h35 => ?_) (fun h35 => ?_)
        · skip
          refine lv_iconst (v := zI 1) hx hb qd_S_takeNextRanks_53 rfl ?_
          exact W.zret (v := zI (bI true)) (ty := .boolean) hx hb hr (bI_n _) (fun t9 ht9 hW9 => ⟨⟨true, rz, rfl, (Or.inl ⟨rfl, x, t, hx1, hx2, hx3, ht1, ht2, ht3, ht4, rv_end hz ht1 ht2 (by omega) hk, fun j hj => by rw [hz j, if_neg (by omega), uz_n _ _ (by omega), uz_n _ _ (by omega)]⟩), mwB_i (by rw [ht9]; exact hP) (va_K.moved hW9.alike hK) hD⟩, hS.F ht9⟩) hS.2.2 qd_S_takeNextRanks_54
        · skip
          refine lv_aload_n hx hb qd_S_takeNextRanks_38 rfl (lv_at hl 3 rfl) ?_
          refine lv_iload_n hx hb qd_S_takeNextRanks_39 rfl (lv_at hl 1 rfl) ?_
          refine lv_iload_n hx hb qd_S_takeNextRanks_40 rfl (lv_at hl 0 rfl) ?_
          have hPc := hP.sub (ws' := [(aR, .inl (cI, 5, .inl (zA rz)))]) [0] rfl
          have hDc := hD.sub (ws' := [(aR, .inl (cI, 5, .inl (zA rz)))]) [0] (by decide) rfl
          have hFr := va_free (wc := [(aR, .inl (cI, 5, .inl (zA rz)))]) hD hS hA [0] rfl
          refine va_callv (va_runV (As := [.int (zI (↑(x + 1 + k))), .int (zI (↑(sy - 1 - k)))]) (rest := []) ⟨hx, hb, hml, hown, hg⟩ (c_S_swapRanks l dC dI cI cZ cT cJ o aA aR aW aV sy ar rz wt sv (x + 1 + k) (sy - 1 - k) H33_2.size (by omega) (by omega)) ⟨callB_of 2 hg (gw_ok (fun _ h => h) wd_535) rfl rfl rfl (hg _ wd_2) (hg _ wd_532) (by decide +kernel) ⟨Nat.le_of_ble_eq_true rfl, Nat.le_of_ble_eq_true rfl⟩, hg _ wd_534, hg _ se_S_swapRanks⟩ (mw_preV (va_recv (q0 := 0) hK hF rfl rfl) hPc (pw_c (q := (o, .inr (0, [.ref aA, .ref aR, .ref aW, .ref aV, .int (zI (↑sy))]))) hF 0 rfl (pw_nil)) hK hN hDc (apw_c (q := (o, .inr (0, [.ref aA, .ref aR, .ref aW, .ref aV, .int (zI (↑sy))]))) (apw_f hD [0] rfl (hFA 0 _ rfl)) (apw_nil))) rfl rfl hl.1 rfl (lv_room (Nat.le_of_ble_eq_true rfl)) qd_S_takeNextRanks_41 ⟨Nat.le_of_ble_eq_true rfl, Nat.le_of_ble_eq_true rfl⟩) hS (fun q _ h => hFr q h) hFr (fun u9 t9 H41_3 L41_3 ht9 hv9 hr41 hB9 hz9 hk9 hS => ?_)
          obtain ⟨hP, hD⟩ := mw_join (wr := []) (w1 := [(aR, .inl (cI, 5, .inl (zA (uz (uz rz (x + 1 + k) (rz (sy - 1 - k))) (sy - 1 - k) (rz (x + 1 + k))))))]) hP hD [0] [] rfl rfl (by decide) (by decide) hk9 hFr ht9 hB9
          have hP := hP.sub (ws' := [(aR, .inl (cI, 5, .inl (zA (uz (uz rz (x + 1 + k) (rz (sy - 1 - k))) (sy - 1 - k) (rz (x + 1 + k))))))]) [0] rfl
          have hD := hD.sub (ws' := [(aR, .inl (cI, 5, .inl (zA (uz (uz rz (x + 1 + k) (rz (sy - 1 - k))) (sy - 1 - k) (rz (x + 1 + k))))))]) [0] (by decide) rfl
          have hF := fz_keep hF0 hFA hS
          refine lv_iinc (k := 1) (lv' := [(2, .int (zI (↑(x + 1 + (k + 1))))), (3, .int (zI (↑(sy - 1 - k)))), (1, .int (zI ((↑x)))), (0, .ref o)]) hx hb qd_S_takeNextRanks_44 hl rfl (zI_inc (v := ↑(x + 1 + (k + 1))) (by omega)) (by decide) rfl (fun ls hl => ?_)
          refine lv_iinc (k := 1) (lv' := [(3, .int (zI (↑(sy - 1 - (k + 1))))), (2, .int (zI (↑(x + 1 + (k + 1))))), (1, .int (zI ((↑x)))), (0, .ref o)]) hx hb qd_S_takeNextRanks_47 hl rfl (zI_inc (v := ↑(sy - 1 - (k + 1))) (by omega)) (by decide) rfl (fun ls hl => ?_)
          refine lv_goto (tgt := 33) hx hb qd_S_takeNextRanks_50 (by decide) ?_
          exact ih33 _ (by omega) (k + 1) (uz (uz rz (x + 1 + k) (rz (sy - 1 - k))) (sy - 1 - k) (rz (x + 1 + k))) (by omega) (fun j => rv_step hz (by omega) (by omega) j) rfl H41_3 L41_3 hP hD hS ls hl
    exact L33 _ 0 (uz (uz rk x (rk t)) t (rk x)) (by omega) (fun j => by rw [if_neg (by omega)]) rfl H19_1 L19_1 hP hD hS ls hl
  · skip
    have hk9 : ∀ q, q + 1 < sy → ¬ rk q < rk (q + 1) := hr1.elim (fun ⟨k, z1, _⟩ => by omega) (fun z => z.2)
    refine lv_iconst (v := zI 0) hx hb qd_S_takeNextRanks_10 rfl ?_
    exact W.zret (v := zI (bI false)) (ty := .boolean) hx hb hr (bI_n _) (fun t9 ht9 hW9 => ⟨⟨false, rk, rfl, (Or.inr ⟨rfl, rfl, hk9⟩), mwB_i (by rw [ht9]; exact hP) (va_K.moved hW9.alike hK) hD⟩, hS.F ht9⟩) hS.2.2 qd_S_takeNextRanks_11
