def prtA (x y z : Int) (k : Nat) : Int := if k = 0 then x else if k = 1 then y else z
theorem prtA_b {x y z : Int} (hx : -2147483648 ≤ x ∧ x < 2147483648) (hy : -2147483648 ≤ y ∧ y < 2147483648) (hz : -2147483648 ≤ z ∧ z < 2147483648) (k : Nat) : -2147483648 ≤ prtA x y z k ∧ prtA x y z k < 2147483648 := by
  unfold prtA
  split
  · exact hx
  · split
    · exact hy
    · exact hz
/-- the row of a new term: its symbol and its first k parts -/
def tR (TH : Nat → Nat → Int) (tn : Nat → Nat) (s x y z : Int) : Nat → List Int
  | 0 => [s]
  | k + 1 => tR TH tn s x y z k ++ seg (TH (prtA x y z k).toNat) 0 (tn (prtA x y z k).toNat)
theorem tR_len (TH : Nat → Nat → Int) (tn : Nat → Nat) (s x y z : Int) (k : Nat) : (tR TH tn s x y z (k + 1)).length = (tR TH tn s x y z k).length + tn (prtA x y z k).toNat := by
  show (tR TH tn s x y z k ++ _).length = _
  rw [List.length_append, seg_len, Nat.sub_zero]
theorem tR_mono {TH : Nat → Nat → Int} {tn : Nat → Nat} {s x y z : Int} {k : Nat} : ∀ {a : Nat}, k ≤ a → (tR TH tn s x y z k).length ≤ (tR TH tn s x y z a).length := by
  intro a h
  induction a with
  | zero => rw [show k = 0 by omega]; exact Nat.le_refl _
  | succ a ih =>
    by_cases e : k = a + 1
    · rw [e]; exact Nat.le_refl _
    · have := ih (by omega)
      rw [tR_len]
      omega
/-- a row that is a term, with its parts' numbers, its ends and its heights -/
def newT (sy : Nat) (ar : Nat → Int) (l : List Int) (tm : Nat → Int) (te : Nat → Nat) (t : Nat → Int) : Prop :=
  0 < l.length ∧ (∀ q, q < l.length → -4 ≤ rw_ l q ∧ rw_ l q < sy) ∧ (∀ q, q < l.length → tm q = mny ar (rw_ l q)) ∧ wfE tm l.length te ∧ te 0 = l.length ∧ hgE tm l.length te t
/-- what the reference's keep leaves of a row -/
def kpM (l : List Int) (t0 : Int) (tc : Nat) (co : Nat → Int) (sz : Nat → Nat) (tw2 : Int) (tc2 : Nat) (co2 : Nat → Int) (sz2 : Nat → Nat) (r : Int) : Prop :=
  ((16 < l.length ∨ 4 < t0) ∧ tw2 = 1 ∧ tc2 = tc ∧ sz2 = sz ∧ ∀ j, j < 2560 → co2 j = co j) ∨ (l.length ≤ 16 ∧ t0 ≤ 4 ∧ tc = 160 ∧ tw2 = 2 ∧ tc2 = tc ∧ sz2 = sz ∧ ∀ j, j < 2560 → co2 j = co j) ∨ (l.length ≤ 16 ∧ t0 ≤ 4 ∧ tc < 160 ∧ tw2 = 0 ∧ tc2 = tc + 1 ∧ r = ↑tc ∧ sz2 = un sz tc l.length ∧ (∀ j, j < 16 * tc → co2 j = co j) ∧ ∀ q, q < l.length → co2 (16 * tc + q) = rw_ l q)
theorem kp_of {l : List Int} {t0 : Int} {tc : Nat} {co cz : Nat → Int} {sz : Nat → Nat} {tw2 : Int} {tc2 : Nat} {co2 : Nat → Int} {sz2 : Nat → Nat} {r : Int} (h16 : l.length ≤ 16) (hc : ∀ j, j < 2560 → cz j = co j) (h : (4 < t0 ∧ tw2 = 1 ∧ tc2 = tc ∧ co2 = cz ∧ sz2 = sz ∧ r = 0) ∨ (t0 ≤ 4 ∧ tc = 160 ∧ tw2 = 2 ∧ tc2 = tc ∧ co2 = cz ∧ sz2 = sz ∧ r = 0) ∨ (t0 ≤ 4 ∧ tc < 160 ∧ tw2 = 0 ∧ tc2 = tc + 1 ∧ r = ↑tc ∧ sz2 = un sz tc l.length ∧ (∀ j, (j < 16 * tc ∨ 16 * tc + 16 ≤ j) → co2 j = cz j) ∧ ∀ q, q < l.length → co2 (16 * tc + q) = rw_ l q)) : kpM l t0 tc co sz tw2 tc2 co2 sz2 r := by
  rcases h with ⟨a1, a2, a3, a4, a5, a6⟩ | ⟨a1, a2, a3, a4, a5, a6, a7⟩ | ⟨a1, a2, a3, a4, a5, a6, a7, a8⟩
  · exact Or.inl ⟨Or.inr a1, a2, a3, a5, fun j hj => by rw [a4]; exact hc j hj⟩
  · exact Or.inr (Or.inl ⟨h16, a1, a2, a3, a4, a6, fun j hj => by rw [a5]; exact hc j hj⟩)
  · exact Or.inr (Or.inr ⟨h16, a1, a2, a3, a4, a5, a6, fun j hj => (a7 j (Or.inl hj)).trans (hc j (by omega)), a8⟩)
set_option maxHeartbeats 4000000 in
set_option maxRecDepth 100000 in
theorem c_M_rule (l : Launch) (dC : Nat → ClassId) (dI : Nat → Nat → Nat) (cI cZ cT cJ : ClassId) (o mA mR mW mC mS mL mT mH mY mE mG mB mO sy tc rc : Nat) (tw : Int) (ar rk wt co : Nat → Int) (sz lf rg : Nat → Nat) (hi hv : Nat → Int) (ef : Nat → Nat) (gr : Nat → Bool) (bd ol : Nat → Int) (tn : Nat → Nat) (TH TM : Nat → Nat → Int) (TE : Nat → Nat → Nat) (HT : Nat → Nat → Int) (x y : Int) (zh : Nat) (hsy : sy ≤ 5) (htc : tc ≤ 160) (htp : ∀ t, t < tc → okT sy ar (tn t) (TH t) (TM t) (TE t) (HT t) ∧ sz t = tn t ∧ ∀ q, q < tn t → co (16 * t + q) = TH t q) (hrc : rc ≤ 8) (h32x : -2147483648 ≤ x ∧ x < 2147483648) (h32y : -2147483648 ≤ y ∧ y < 2147483648) : Met l qy_M_rule qw_M_rule ({ frames := 1, cells := 0, slots := 0, locals := 23 }) (mwP (dC, dI) qcl (qty cI cZ cT cJ) nwL [(o, .inr (6, [.int (zI (↑sy)), .ref mA, .ref mR, .ref mW, .int (zI (↑tc)), .ref mC, .ref mS, .int (zI (↑rc)), .ref mL, .ref mT, .ref mH, .ref mY, .ref mE, .ref mG, .ref mB, .ref mO, .int (zI (tw))])), (mL, .inl (cI, 8, .inl (zA (eI lf)))), (mT, .inl (cI, 8, .inl (zA (eI rg))))] [(mC, .inl (cI, 2608, .inl (zA co))), (mS, .inl (cI, 163, .inl (zA (eI sz))))] zh [.ref o, .int (zI (x)), .int (zI (y))]) (mwI (S := (Int) × (Nat) × (Nat → Nat) × (Nat → Nat)) (fun r uq => (¬ (0 ≤ x ∧ x < tc ∧ 0 ≤ y ∧ y < tc ∧ 0 ≤ TH x.toNat 0 ∧ ∀ q, q < tn y.toNat → TH y.toNat q < 0 → ∃ k, k < tn x.toNat ∧ TH x.toNat k = TH y.toNat q) ∧ uq.1 = 1 ∧ uq.2.1 = rc ∧ uq.2.2.1 = lf ∧ uq.2.2.2 = rg) ∨ ((0 ≤ x ∧ x < tc ∧ 0 ≤ y ∧ y < tc ∧ 0 ≤ TH x.toNat 0 ∧ ∀ q, q < tn y.toNat → TH y.toNat q < 0 → ∃ k, k < tn x.toNat ∧ TH x.toNat k = TH y.toNat q) ∧ rc = 8 ∧ uq.1 = 2 ∧ uq.2.1 = rc ∧ uq.2.2.1 = lf ∧ uq.2.2.2 = rg) ∨ ((0 ≤ x ∧ x < tc ∧ 0 ≤ y ∧ y < tc ∧ 0 ≤ TH x.toNat 0 ∧ ∀ q, q < tn y.toNat → TH y.toNat q < 0 → ∃ k, k < tn x.toNat ∧ TH x.toNat k = TH y.toNat q) ∧ rc < 8 ∧ uq.1 = 0 ∧ uq.2.1 = rc + 1 ∧ uq.2.2.1 = un lf rc x.toNat ∧ uq.2.2.2 = un rg rc y.toNat ∧ r = ↑rc)) (fun uq tq => mwB (dC, dI) qcl (qty cI cZ cT cJ) (va_A [(o, .inr (6, [.int (zI (↑sy)), .ref mA, .ref mR, .ref mW, .int (zI (↑tc)), .ref mC, .ref mS, .int (zI (↑rc)), .ref mL, .ref mT, .ref mH, .ref mY, .ref mE, .ref mG, .ref mB, .ref mO, .int (zI (tw))])), (mL, .inl (cI, 8, .inl (zA (eI lf)))), (mT, .inl (cI, 8, .inl (zA (eI rg))))] zh) [(o, .inr (6, [.int (zI (↑sy)), .ref mA, .ref mR, .ref mW, .int (zI (↑tc)), .ref mC, .ref mS, .int (zI (↑uq.2.1)), .ref mL, .ref mT, .ref mH, .ref mY, .ref mE, .ref mG, .ref mB, .ref mO, .int (zI (uq.1))])), (mL, .inl (cI, 8, .inl (zA (eI uq.2.2.1)))), (mT, .inl (cI, 8, .inl (zA (eI uq.2.2.2))))] tq) (va_A [(o, .inr (6, [.int (zI (↑sy)), .ref mA, .ref mR, .ref mW, .int (zI (↑tc)), .ref mC, .ref mS, .int (zI (↑rc)), .ref mL, .ref mT, .ref mH, .ref mY, .ref mE, .ref mG, .ref mB, .ref mO, .int (zI (tw))])), (mL, .inl (cI, 8, .inl (zA (eI lf)))), (mT, .inl (cI, 8, .inl (zA (eI rg))))] zh)) 0 0 (va_A [(o, .inr (6, [.int (zI (↑sy)), .ref mA, .ref mR, .ref mW, .int (zI (↑tc)), .ref mC, .ref mS, .int (zI (↑rc)), .ref mL, .ref mT, .ref mH, .ref mY, .ref mE, .ref mG, .ref mB, .ref mO, .int (zI (tw))])), (mL, .inl (cI, 8, .inl (zA (eI lf)))), (mT, .inl (cI, 8, .inl (zA (eI rg))))] zh) := by
  refine Met.ofW (cc := qc_M_rule) (maxL := 6) (ret := (Option.some Jvm.ClassFile.FieldType.int)) (by decide) rfl ?_
  intro pg eg sg mg args below meth cg s₁ B hml hv
  obtain ⟨rfl, hsz, hP, hF0, hK, hN, hD0, hap⟩ := hv
  have hx := B.exec
  have hb := B.bytes
  have hr := B.returns
  have hts := atoms_spec (ws := qw_M_rule) B.pre
  have hg : ∀ w ∈ gw, w.before _ sg = true := fun w h => hts w (List.mem_cons_of_mem _ h)
  have hown : sg.vm.findClass "TermOrdersModel" = some mg.cls := findClass_of_methodNamed B.named
  have hlocks := B.notSynchronized
  have hl := lv_entry ([.ref o, .int (zI (x)), .int (zI (y))]) (n := 6) (Nat.le_of_ble_eq_true rfl)
  rw [lg_entry_eq]
  generalize (lg_sl ([.ref o, .int (zI (x)), .int (zI (y))]) ++ List.replicate (6 - (lg_sl ([.ref o, .int (zI (x)), .int (zI (y))])).length) Slot.unset).toArray = ls at hl ⊢
  subst hsz
  have hD := hD0.self (sz := sg.heap.size)
  have hFA := apw_A hap (fun k q hk => (hF0 k q hk).lt)
  generalize hAe : va_A [(o, .inr (6, [.int (zI (↑sy)), .ref mA, .ref mR, .ref mW, .int (zI (↑tc)), .ref mC, .ref mS, .int (zI (↑rc)), .ref mL, .ref mT, .ref mH, .ref mY, .ref mE, .ref mG, .ref mB, .ref mO, .int (zI (tw))])), (mL, .inl (cI, 8, .inl (zA (eI lf)))), (mT, .inl (cI, 8, .inl (zA (eI rg))))] sg.heap.size = A at hD hFA ⊢
  have hA : ∀ q : Nat, sg.heap.size ≤ q → A q := fun q h => by rw [← hAe]; exact Or.inr h
  have hS : va_S A sg.heap sg.heap [] := va_S.rf
  have hF := hF0
  have hl : lv_has ls 6 [(0, .ref o), (1, .int (zI (x))), (2, .int (zI (y)))] := hl
  refine lv_aload_n hx hb qd_M_rule_0 rfl (lv_at hl 0 rfl) ?_
  refine lv_iload_n hx hb qd_M_rule_1 rfl (lv_at hl 1 rfl) ?_
  refine rd_callB (W.runV (As := [.int (zI (x))]) (rest := []) ⟨hx, hb, hml, hown, hg⟩ (c_M_isTerm l dC dI cI cZ cT cJ o mA mR mW mC mS mL mT mH mY mE mG mB mO sy tc rc tw ar rk wt co sz lf rg hi hv ef gr bd ol x htc h32x) ⟨callB_of 1 hg (gw_ok (fun _ h => h) wd_693) rfl rfl rfl (hg _ wd_6) (hg _ wd_690) (by decide +kernel) ⟨Nat.le_of_ble_eq_true rfl, Nat.le_of_ble_eq_true rfl⟩, hg _ wd_692, hg _ se_M_isTerm⟩ (rd_preV (va_recv (q0 := 0) hK hP rfl rfl) (pw_c (q := (o, .inr (6, [.int (zI (↑sy)), .ref mA, .ref mR, .ref mW, .int (zI (↑tc)), .ref mC, .ref mS, .int (zI (↑rc)), .ref mL, .ref mT, .ref mH, .ref mY, .ref mE, .ref mG, .ref mB, .ref mO, .int (zI (tw))]))) hP 0 rfl (pw_nil)) hK hN) rfl rfl hl.1 rfl (lv_room (Nat.le_of_ble_eq_true rfl)) qd_M_rule_2 ⟨Nat.le_of_ble_eq_true rfl, Nat.le_of_ble_eq_true rfl⟩) (fun r2 hr2 => ?_)
  refine zz_ifeqB (tgt := 32) hx hb qd_M_rule_5 (by decide) (fun h5 => ?_) (fun h5 => ?_)
  · skip
    have hnx : ¬ (0 ≤ x ∧ x < tc) := fun z9 => by rw [hr2.mpr z9] at h5; exact Bool.noConfusion h5
    refine lv_iconst (v := zI 0) hx hb qd_M_rule_32 rfl ?_
    refine lv_istore_n (lv' := [(3, .int (zI (bI (false)))), (0, .ref o), (1, .int (zI (x))), (2, .int (zI (y)))]) hx hb qd_M_rule_33 rfl hl (by decide) rfl (fun ls hl => ?_)
    refine lv_iconst (v := zI 0) hx hb qd_M_rule_34 rfl ?_
    refine lv_istore (lv' := [(4, .int (zI (0))), (3, .int (zI (bI (false)))), (0, .ref o), (1, .int (zI (x))), (2, .int (zI (y)))]) hx hb qd_M_rule_35 hl (by decide) rfl (fun ls hl => ?_)
    have L37 : ∀ (mu37 : Nat) (k : Nat) (gd : Bool), (gd = true → (0 ≤ x ∧ x < tc ∧ 0 ≤ y ∧ y < tc ∧ 0 ≤ TH x.toNat 0 ∧ k ≤ tn y.toNat ∧ ∀ q, q < k → TH y.toNat q < 0 → ∃ k, k < tn x.toNat ∧ TH x.toNat k = TH y.toNat q)) → (gd = false → ¬ (0 ≤ x ∧ x < tc ∧ 0 ≤ y ∧ y < tc ∧ 0 ≤ TH x.toNat 0 ∧ ∀ q, q < tn y.toNat → TH y.toNat q < 0 → ∃ k, k < tn x.toNat ∧ TH x.toNat k = TH y.toNat q)) → tn y.toNat - k = mu37 → ∀ ls : Array Slot, lv_has ls 6 [(4, .int (zI (↑k))), (3, .int (zI (bI (gd)))), (0, .ref o), (1, .int (zI (x))), (2, .int (zI (y)))] → W pg l eg (headSpec qw_M_rule ({ frames := 1, cells := 0, slots := 0, locals := 23 })).room sg mg ([.ref o, .int (zI (x)), .int (zI (y))] : List Value).toArray below meth cg sg.heap [] 0 0 (MQ below (mwI (S := (Int) × (Nat) × (Nat → Nat) × (Nat → Nat)) (fun r uq => (¬ (0 ≤ x ∧ x < tc ∧ 0 ≤ y ∧ y < tc ∧ 0 ≤ TH x.toNat 0 ∧ ∀ q, q < tn y.toNat → TH y.toNat q < 0 → ∃ k, k < tn x.toNat ∧ TH x.toNat k = TH y.toNat q) ∧ uq.1 = 1 ∧ uq.2.1 = rc ∧ uq.2.2.1 = lf ∧ uq.2.2.2 = rg) ∨ ((0 ≤ x ∧ x < tc ∧ 0 ≤ y ∧ y < tc ∧ 0 ≤ TH x.toNat 0 ∧ ∀ q, q < tn y.toNat → TH y.toNat q < 0 → ∃ k, k < tn x.toNat ∧ TH x.toNat k = TH y.toNat q) ∧ rc = 8 ∧ uq.1 = 2 ∧ uq.2.1 = rc ∧ uq.2.2.1 = lf ∧ uq.2.2.2 = rg) ∨ ((0 ≤ x ∧ x < tc ∧ 0 ≤ y ∧ y < tc ∧ 0 ≤ TH x.toNat 0 ∧ ∀ q, q < tn y.toNat → TH y.toNat q < 0 → ∃ k, k < tn x.toNat ∧ TH x.toNat k = TH y.toNat q) ∧ rc < 8 ∧ uq.1 = 0 ∧ uq.2.1 = rc + 1 ∧ uq.2.2.1 = un lf rc x.toNat ∧ uq.2.2.2 = un rg rc y.toNat ∧ r = ↑rc)) (fun uq tq => mwB (dC, dI) qcl (qty cI cZ cT cJ) A [(o, .inr (6, [.int (zI (↑sy)), .ref mA, .ref mR, .ref mW, .int (zI (↑tc)), .ref mC, .ref mS, .int (zI (↑uq.2.1)), .ref mL, .ref mT, .ref mH, .ref mY, .ref mE, .ref mG, .ref mB, .ref mO, .int (zI (uq.1))])), (mL, .inl (cI, 8, .inl (zA (eI uq.2.2.1)))), (mT, .inl (cI, 8, .inl (zA (eI uq.2.2.2))))] tq) A) ([.ref o, .int (zI (x)), .int (zI (y))] : List Value).toArray sg 0 0 A) (F0 mg 37 ls []) := by
      intro mu37
      induction mu37 using Nat.strongRecOn with
      | _ mu37 ih37 =>
        intro k gd hI1 hI2 hmu37 ls hl
        refine lv_iload_n hx hb qd_M_rule_37 rfl (lv_at hl 1 rfl) ?_
        refine zz_ifeqB (tgt := 93) hx hb qd_M_rule_38 (by decide) (fun h38 => ?_) (fun h38 => ?_)
        · skip
          refine lv_aload_n hx hb qd_M_rule_93 rfl (lv_at hl 2 rfl) ?_
          refine lv_iload_n hx hb qd_M_rule_94 rfl (lv_at hl 1 rfl) ?_
          refine zz_ifneB (tgt := 102) hx hb qd_M_rule_95 (by decide) (fun h95 => ?_) (fun h95 => ?_)
          · skip
            rw [h38] at h95
            exact Bool.noConfusion h95
          · skip
            refine lv_iconst (v := zI 1) hx hb qd_M_rule_98 rfl ?_
            refine lv_goto (tgt := 116) hx hb qd_M_rule_99 (by decide) ?_
            refine va_put (D := (dC, dI)) (ci := 6) (v := .int (zI (1))) (ty := .int) (C := "TermOrdersModel") (T := qT_M) (N := 17) hx hb hg qi_M qt_M qo_M qn_M hown hK hP hD hS 0 rfl rfl 16 (by decide) (hg _ wd_634) (fun _ h9 => h9) rfl (by decide +kernel) rfl rfl (Nat.le_of_ble_eq_true rfl) qd_M_rule_116 (fun H116_1 L116_1 hP hD hS => ?_)
            have hP : va_P (dC, dI) qcl [(o, .inr (6, [.int (zI (↑sy)), .ref mA, .ref mR, .ref mW, .int (zI (↑tc)), .ref mC, .ref mS, .int (zI (↑rc)), .ref mL, .ref mT, .ref mH, .ref mY, .ref mE, .ref mG, .ref mB, .ref mO, .int (zI (1))])), (mL, .inl (cI, 8, .inl (zA (eI lf)))), (mT, .inl (cI, 8, .inl (zA (eI rg))))] H116_1 := hP
            have hD : va_D A [(o, .inr (6, [.int (zI (↑sy)), .ref mA, .ref mR, .ref mW, .int (zI (↑tc)), .ref mC, .ref mS, .int (zI (↑rc)), .ref mL, .ref mT, .ref mH, .ref mY, .ref mE, .ref mG, .ref mB, .ref mO, .int (zI (1))])), (mL, .inl (cI, 8, .inl (zA (eI lf)))), (mT, .inl (cI, 8, .inl (zA (eI rg))))] := hD
            have hF := fz_keep hF0 hFA hS
            refine lv_aload_n hx hb qd_M_rule_119 rfl (lv_at hl 2 rfl) ?_
            refine va_get (D := (dC, dI)) (ci := 6) (v := .int (zI (1))) (C := "TermOrdersModel") (T := qT_M) (N := 17) hx hb hg qi_M hown hK hP 0 rfl rfl 16 (by decide) (hg _ wd_634) (fun _ h9 => h9) rfl qd_M_rule_120 ?_
            refine zz_if_eq (tgt := 128) hx hb qd_M_rule_123 (by decide) (by omega) (fun h123 => ?_) (fun h123 => ?_)
            · skip
              exfalso
              omega
            · skip
              refine lv_iconst (v := zI 0) hx hb qd_M_rule_126 rfl ?_
              exact W.iret (v := zI 0) hx hb hr (fun t9 ht9 hW9 => ⟨⟨0, (1, rc, lf, rg), rfl, (Or.inl ⟨hI2 h38, rfl, rfl, rfl, rfl⟩), mwB_i (by rw [ht9]; exact hP) (va_K.moved hW9.alike hK) hD⟩, hS.F ht9⟩) hS.2.2 qd_M_rule_127
        · skip
          obtain ⟨k1, k2, k3, k4, k5, k6, k7⟩ := hI1 h38
          obtain ⟨hox, hzx, hcx⟩ := htp x.toNat (by omega)
          obtain ⟨hoy, hzy, hcy⟩ := htp y.toNat (by omega)
          have h16y := hoy.2.1
          refine lv_iload hx hb qd_M_rule_41 (lv_at hl 0 rfl) ?_
          refine lv_aload_n hx hb qd_M_rule_43 rfl (lv_at hl 2 rfl) ?_
          refine va_get (D := (dC, dI)) (ci := 6) (v := .ref mS) (C := "TermOrdersModel") (T := qT_M) (N := 17) hx hb hg qi_M hown hK hP 0 rfl rfl 6 (by decide) (hg _ wd_624) (fun _ h9 => h9) rfl qd_M_rule_44 ?_
          refine lv_iload_n hx hb qd_M_rule_47 rfl (lv_at hl 4 rfl) ?_
          refine zz_eald hx hb hK hF 1 0 rfl rfl y.toNat (by omega) (by omega) (by omega) qd_M_rule_48 ?_
          refine zz_top (b := ↑(tn y.toNat)) (by rw [hzy]) ?_
          refine zz_icmp_ge (tgt := 93) hx hb qd_M_rule_49 (by decide) (by omega) (by omega) (fun h49 => ?_) (fun h49 => ?_)
          · skip
            have hGD : 0 ≤ x ∧ x < tc ∧ 0 ≤ y ∧ y < tc ∧ 0 ≤ TH x.toNat 0 ∧ ∀ q, q < tn y.toNat → TH y.toNat q < 0 → ∃ k, k < tn x.toNat ∧ TH x.toNat k = TH y.toNat q := ⟨k1, k2, k3, k4, k5, fun q hq => k7 q (by omega)⟩
            refine lv_aload_n hx hb qd_M_rule_93 rfl (lv_at hl 2 rfl) ?_
            refine lv_iload_n hx hb qd_M_rule_94 rfl (lv_at hl 1 rfl) ?_
            refine zz_ifneB (tgt := 102) hx hb qd_M_rule_95 (by decide) (fun h95 => ?_) (fun h95 => ?_)
            · skip
              refine lv_aload_n hx hb qd_M_rule_102 rfl (lv_at hl 2 rfl) ?_
              refine va_get (D := (dC, dI)) (ci := 6) (v := .int (zI (↑rc))) (C := "TermOrdersModel") (T := qT_M) (N := 17) hx hb hg qi_M hown hK hP 0 rfl rfl 7 (by decide) (hg _ wd_625) (fun _ h9 => h9) rfl qd_M_rule_103 ?_
              refine lv_bipush (v := zI 8) hx hb qd_M_rule_106 (by decide) ?_
              refine zz_icmp_ne (tgt := 115) hx hb qd_M_rule_108 (by decide) (by omega) (by omega) (fun h108 => ?_) (fun h108 => ?_)
              · skip
                refine lv_iconst (v := zI 0) hx hb qd_M_rule_115 rfl ?_
                refine va_put (D := (dC, dI)) (ci := 6) (v := .int (zI (0))) (ty := .int) (C := "TermOrdersModel") (T := qT_M) (N := 17) hx hb hg qi_M qt_M qo_M qn_M hown hK hP hD hS 0 rfl rfl 16 (by decide) (hg _ wd_634) (fun _ h9 => h9) rfl (by decide +kernel) rfl rfl (Nat.le_of_ble_eq_true rfl) qd_M_rule_116 (fun H116_2 L116_2 hP hD hS => ?_)
                have hP : va_P (dC, dI) qcl [(o, .inr (6, [.int (zI (↑sy)), .ref mA, .ref mR, .ref mW, .int (zI (↑tc)), .ref mC, .ref mS, .int (zI (↑rc)), .ref mL, .ref mT, .ref mH, .ref mY, .ref mE, .ref mG, .ref mB, .ref mO, .int (zI (0))])), (mL, .inl (cI, 8, .inl (zA (eI lf)))), (mT, .inl (cI, 8, .inl (zA (eI rg))))] H116_2 := hP
                have hD : va_D A [(o, .inr (6, [.int (zI (↑sy)), .ref mA, .ref mR, .ref mW, .int (zI (↑tc)), .ref mC, .ref mS, .int (zI (↑rc)), .ref mL, .ref mT, .ref mH, .ref mY, .ref mE, .ref mG, .ref mB, .ref mO, .int (zI (0))])), (mL, .inl (cI, 8, .inl (zA (eI lf)))), (mT, .inl (cI, 8, .inl (zA (eI rg))))] := hD
                have hF := fz_keep hF0 hFA hS
                refine lv_aload_n hx hb qd_M_rule_119 rfl (lv_at hl 2 rfl) ?_
                refine va_get (D := (dC, dI)) (ci := 6) (v := .int (zI (0))) (C := "TermOrdersModel") (T := qT_M) (N := 17) hx hb hg qi_M hown hK hP 0 rfl rfl 16 (by decide) (hg _ wd_634) (fun _ h9 => h9) rfl qd_M_rule_120 ?_
                refine zz_if_eq (tgt := 128) hx hb qd_M_rule_123 (by decide) (by omega) (fun h123 => ?_) (fun h123 => ?_)
                · skip
                  refine lv_aload_n hx hb qd_M_rule_128 rfl (lv_at hl 2 rfl) ?_
                  refine va_get (D := (dC, dI)) (ci := 6) (v := .ref mL) (C := "TermOrdersModel") (T := qT_M) (N := 17) hx hb hg qi_M hown hK hP 0 rfl rfl 8 (by decide) (hg _ wd_626) (fun _ h9 => h9) rfl qd_M_rule_129 ?_
                  refine lv_aload_n hx hb qd_M_rule_132 rfl (lv_at hl 2 rfl) ?_
                  refine va_get (D := (dC, dI)) (ci := 6) (v := .int (zI (↑rc))) (C := "TermOrdersModel") (T := qT_M) (N := 17) hx hb hg qi_M hown hK hP 0 rfl rfl 7 (by decide) (hg _ wd_625) (fun _ h9 => h9) rfl qd_M_rule_133 ?_
                  refine lv_iload_n hx hb qd_M_rule_136 rfl (lv_at hl 3 rfl) ?_
                  refine zz_east hx hb hK hP hD hS 1 0 rfl rfl rc rfl (by omega) (by omega) x.toNat (by omega) qd_M_rule_137 (fun H137_3 L137_3 hP hD hS => ?_)
                  have hP : va_P (dC, dI) qcl [(o, .inr (6, [.int (zI (↑sy)), .ref mA, .ref mR, .ref mW, .int (zI (↑tc)), .ref mC, .ref mS, .int (zI (↑rc)), .ref mL, .ref mT, .ref mH, .ref mY, .ref mE, .ref mG, .ref mB, .ref mO, .int (zI (0))])), (mL, .inl (cI, 8, .inl (zA (eI (un lf rc x.toNat))))), (mT, .inl (cI, 8, .inl (zA (eI rg))))] H137_3 := hP
                  have hD : va_D A [(o, .inr (6, [.int (zI (↑sy)), .ref mA, .ref mR, .ref mW, .int (zI (↑tc)), .ref mC, .ref mS, .int (zI (↑rc)), .ref mL, .ref mT, .ref mH, .ref mY, .ref mE, .ref mG, .ref mB, .ref mO, .int (zI (0))])), (mL, .inl (cI, 8, .inl (zA (eI (un lf rc x.toNat))))), (mT, .inl (cI, 8, .inl (zA (eI rg))))] := hD
                  have hF := fz_keep hF0 hFA hS
                  refine lv_aload_n hx hb qd_M_rule_138 rfl (lv_at hl 2 rfl) ?_
                  refine va_get (D := (dC, dI)) (ci := 6) (v := .ref mT) (C := "TermOrdersModel") (T := qT_M) (N := 17) hx hb hg qi_M hown hK hP 0 rfl rfl 9 (by decide) (hg _ wd_627) (fun _ h9 => h9) rfl qd_M_rule_139 ?_
                  refine lv_aload_n hx hb qd_M_rule_142 rfl (lv_at hl 2 rfl) ?_
                  refine va_get (D := (dC, dI)) (ci := 6) (v := .int (zI (↑rc))) (C := "TermOrdersModel") (T := qT_M) (N := 17) hx hb hg qi_M hown hK hP 0 rfl rfl 7 (by decide) (hg _ wd_625) (fun _ h9 => h9) rfl qd_M_rule_143 ?_
                  refine lv_iload_n hx hb qd_M_rule_146 rfl (lv_at hl 4 rfl) ?_
                  refine zz_east hx hb hK hP hD hS 2 0 rfl rfl rc rfl (by omega) (by omega) y.toNat (by omega) qd_M_rule_147 (fun H147_4 L147_4 hP hD hS => ?_)
                  have hP : va_P (dC, dI) qcl [(o, .inr (6, [.int (zI (↑sy)), .ref mA, .ref mR, .ref mW, .int (zI (↑tc)), .ref mC, .ref mS, .int (zI (↑rc)), .ref mL, .ref mT, .ref mH, .ref mY, .ref mE, .ref mG, .ref mB, .ref mO, .int (zI (0))])), (mL, .inl (cI, 8, .inl (zA (eI (un lf rc x.toNat))))), (mT, .inl (cI, 8, .inl (zA (eI (un rg rc y.toNat)))))] H147_4 := hP
                  have hD : va_D A [(o, .inr (6, [.int (zI (↑sy)), .ref mA, .ref mR, .ref mW, .int (zI (↑tc)), .ref mC, .ref mS, .int (zI (↑rc)), .ref mL, .ref mT, .ref mH, .ref mY, .ref mE, .ref mG, .ref mB, .ref mO, .int (zI (0))])), (mL, .inl (cI, 8, .inl (zA (eI (un lf rc x.toNat))))), (mT, .inl (cI, 8, .inl (zA (eI (un rg rc y.toNat)))))] := hD
                  have hF := fz_keep hF0 hFA hS
                  refine lv_aload_n hx hb qd_M_rule_148 rfl (lv_at hl 2 rfl) ?_
                  refine lv_dup hx hb qd_M_rule_149 rfl ?_
                  refine va_get (D := (dC, dI)) (ci := 6) (v := .int (zI (↑rc))) (C := "TermOrdersModel") (T := qT_M) (N := 17) hx hb hg qi_M hown hK hP 0 rfl rfl 7 (by decide) (hg _ wd_625) (fun _ h9 => h9) rfl qd_M_rule_150 ?_
                  refine lv_iconst (v := zI 1) hx hb qd_M_rule_153 rfl ?_
                  refine zz_iadd hx hb (↑(rc + 1)) (by omega) qd_M_rule_154 ?_
                  refine va_put (D := (dC, dI)) (ci := 6) (v := .int (zI (↑(rc + 1)))) (ty := .int) (C := "TermOrdersModel") (T := qT_M) (N := 17) hx hb hg qi_M qt_M qo_M qn_M hown hK hP hD hS 0 rfl rfl 7 (by decide) (hg _ wd_625) (fun _ h9 => h9) rfl (by decide +kernel) rfl rfl (Nat.le_of_ble_eq_true rfl) qd_M_rule_155 (fun H155_5 L155_5 hP hD hS => ?_)
                  have hP : va_P (dC, dI) qcl [(o, .inr (6, [.int (zI (↑sy)), .ref mA, .ref mR, .ref mW, .int (zI (↑tc)), .ref mC, .ref mS, .int (zI (↑(rc + 1))), .ref mL, .ref mT, .ref mH, .ref mY, .ref mE, .ref mG, .ref mB, .ref mO, .int (zI (0))])), (mL, .inl (cI, 8, .inl (zA (eI (un lf rc x.toNat))))), (mT, .inl (cI, 8, .inl (zA (eI (un rg rc y.toNat)))))] H155_5 := hP
                  have hD : va_D A [(o, .inr (6, [.int (zI (↑sy)), .ref mA, .ref mR, .ref mW, .int (zI (↑tc)), .ref mC, .ref mS, .int (zI (↑(rc + 1))), .ref mL, .ref mT, .ref mH, .ref mY, .ref mE, .ref mG, .ref mB, .ref mO, .int (zI (0))])), (mL, .inl (cI, 8, .inl (zA (eI (un lf rc x.toNat))))), (mT, .inl (cI, 8, .inl (zA (eI (un rg rc y.toNat)))))] := hD
                  have hF := fz_keep hF0 hFA hS
                  refine lv_aload_n hx hb qd_M_rule_158 rfl (lv_at hl 2 rfl) ?_
                  refine va_get (D := (dC, dI)) (ci := 6) (v := .int (zI (↑(rc + 1)))) (C := "TermOrdersModel") (T := qT_M) (N := 17) hx hb hg qi_M hown hK hP 0 rfl rfl 7 (by decide) (hg _ wd_625) (fun _ h9 => h9) rfl qd_M_rule_159 ?_
                  refine lv_iconst (v := zI 1) hx hb qd_M_rule_162 rfl ?_
                  refine zz_isub hx hb (↑rc) (by omega) qd_M_rule_163 ?_
                  exact W.iret (v := zI (↑rc)) hx hb hr (fun t9 ht9 hW9 => ⟨⟨↑rc, (0, rc + 1, un lf rc x.toNat, un rg rc y.toNat), rfl, (Or.inr (Or.inr ⟨hGD, by omega, rfl, rfl, rfl, rfl, rfl⟩)), mwB_i (by rw [ht9]; exact hP) (va_K.moved hW9.alike hK) hD⟩, hS.F ht9⟩) hS.2.2 qd_M_rule_164
                · skip
                  exfalso
                  omega
              · skip
                refine lv_iconst (v := zI 2) hx hb qd_M_rule_111 rfl ?_
                refine lv_goto (tgt := 116) hx hb qd_M_rule_112 (by decide) ?_
                refine va_put (D := (dC, dI)) (ci := 6) (v := .int (zI (2))) (ty := .int) (C := "TermOrdersModel") (T := qT_M) (N := 17) hx hb hg qi_M qt_M qo_M qn_M hown hK hP hD hS 0 rfl rfl 16 (by decide) (hg _ wd_634) (fun _ h9 => h9) rfl (by decide +kernel) rfl rfl (Nat.le_of_ble_eq_true rfl) qd_M_rule_116 (fun H116_6 L116_6 hP hD hS => ?_)
                have hP : va_P (dC, dI) qcl [(o, .inr (6, [.int (zI (↑sy)), .ref mA, .ref mR, .ref mW, .int (zI (↑tc)), .ref mC, .ref mS, .int (zI (↑rc)), .ref mL, .ref mT, .ref mH, .ref mY, .ref mE, .ref mG, .ref mB, .ref mO, .int (zI (2))])), (mL, .inl (cI, 8, .inl (zA (eI lf)))), (mT, .inl (cI, 8, .inl (zA (eI rg))))] H116_6 := hP
                have hD : va_D A [(o, .inr (6, [.int (zI (↑sy)), .ref mA, .ref mR, .ref mW, .int (zI (↑tc)), .ref mC, .ref mS, .int (zI (↑rc)), .ref mL, .ref mT, .ref mH, .ref mY, .ref mE, .ref mG, .ref mB, .ref mO, .int (zI (2))])), (mL, .inl (cI, 8, .inl (zA (eI lf)))), (mT, .inl (cI, 8, .inl (zA (eI rg))))] := hD
                have hF := fz_keep hF0 hFA hS
                refine lv_aload_n hx hb qd_M_rule_119 rfl (lv_at hl 2 rfl) ?_
                refine va_get (D := (dC, dI)) (ci := 6) (v := .int (zI (2))) (C := "TermOrdersModel") (T := qT_M) (N := 17) hx hb hg qi_M hown hK hP 0 rfl rfl 16 (by decide) (hg _ wd_634) (fun _ h9 => h9) rfl qd_M_rule_120 ?_
                refine zz_if_eq (tgt := 128) hx hb qd_M_rule_123 (by decide) (by omega) (fun h123 => ?_) (fun h123 => ?_)
                · skip
                  exfalso
                  omega
                · skip
                  refine lv_iconst (v := zI 0) hx hb qd_M_rule_126 rfl ?_
                  exact W.iret (v := zI 0) hx hb hr (fun t9 ht9 hW9 => ⟨⟨0, (2, rc, lf, rg), rfl, (Or.inr (Or.inl ⟨hGD, by omega, rfl, rfl, rfl, rfl⟩)), mwB_i (by rw [ht9]; exact hP) (va_K.moved hW9.alike hK) hD⟩, hS.F ht9⟩) hS.2.2 qd_M_rule_127
            · skip
              rw [h38] at h95
              exact Bool.noConfusion h95
          · skip
            have hyb := okT_hh hsy hoy k (by omega)
            refine lv_aload_n hx hb qd_M_rule_52 rfl (lv_at hl 2 rfl) ?_
            refine va_get (D := (dC, dI)) (ci := 6) (v := .ref mC) (C := "TermOrdersModel") (T := qT_M) (N := 17) hx hb hg qi_M hown hK hP 0 rfl rfl 5 (by decide) (hg _ wd_623) (fun _ h9 => h9) rfl qd_M_rule_53 ?_
            refine lv_bipush (v := zI 16) hx hb qd_M_rule_56 (by decide) ?_
            refine lv_iload_n hx hb qd_M_rule_58 rfl (lv_at hl 4 rfl) ?_
            refine zz_imul hx hb (16 * y) rfl qd_M_rule_59 ?_
            refine lv_iload hx hb qd_M_rule_60 (lv_at hl 0 rfl) ?_
            refine zz_iadd hx hb ((16 * y) + (↑k)) rfl qd_M_rule_62 ?_
            refine zz_iald hx hb hK hF 0 0 rfl rfl (16 * y.toNat + k) (by omega) (by omega) (by omega) qd_M_rule_63 ?_
            refine zz_top (b := TH y.toNat k) (hcy k (by omega)) ?_
            refine lv_istore (lv' := [(5, .int (zI (TH y.toNat k))), (4, .int (zI (↑k))), (3, .int (zI (bI (gd)))), (0, .ref o), (1, .int (zI (x))), (2, .int (zI (y)))]) hx hb qd_M_rule_64 hl (by decide) rfl (fun ls hl => ?_)
            refine lv_iload hx hb qd_M_rule_66 (lv_at hl 0 rfl) ?_
            refine zz_if_ge (tgt := 81) hx hb qd_M_rule_68 (by decide) (by omega) (fun h68 => ?_) (fun h68 => ?_)
            · skip
              refine lv_iconst (v := zI 1) hx hb qd_M_rule_81 rfl ?_
              refine lv_goto (tgt := 86) hx hb qd_M_rule_82 (by decide) ?_
              refine lv_istore_n (lv' := [(3, .int (zI (bI (true)))), (5, .int (zI (TH y.toNat k))), (4, .int (zI (↑k))), (0, .ref o), (1, .int (zI (x))), (2, .int (zI (y)))]) hx hb qd_M_rule_86 rfl hl (by decide) rfl (fun ls hl => ?_)
              refine lv_iinc (k := 2) (lv' := [(4, .int (zI (↑(k + 1)))), (3, .int (zI (bI (true)))), (5, .int (zI (TH y.toNat k))), (0, .ref o), (1, .int (zI (x))), (2, .int (zI (y)))]) hx hb qd_M_rule_87 hl rfl (zI_inc (v := ↑(k + 1)) (by omega)) (by decide) rfl (fun ls hl => ?_)
              refine lv_goto (tgt := 37) hx hb qd_M_rule_90 (by decide) ?_
              have hl := lv_sub (l' := [(4, .int (zI (↑(k + 1)))), (3, .int (zI (bI (true)))), (0, .ref o), (1, .int (zI (x))), (2, .int (zI (y)))]) hl [0, 1, 3, 4, 5] rfl
              exact ih37 _ (by omega) (k + 1) true (fun z9 => by first | exact Bool.noConfusion z9 | exact ⟨k1, k2, k3, k4, k5, by omega, fun q hq hv => if h8 : q < k then k7 q h8 hv else (by rw [show q = k by omega] at hv ⊢; first | (exfalso; omega) | exact hr75.mp h78)⟩) (fun z9 => by first | exact Bool.noConfusion z9 | exact fun hG => by (have z8 := hr75.mpr (hG.2.2.2.2.2 k (by omega) (by omega))); rw [z8] at h78; exact Bool.noConfusion h78) rfl ls hl
            · skip
              refine lv_aload_n hx hb qd_M_rule_71 rfl (lv_at hl 3 rfl) ?_
              refine lv_iload_n hx hb qd_M_rule_72 rfl (lv_at hl 4 rfl) ?_
              refine zz_top (b := ↑x.toNat) (by omega) ?_
              refine lv_iload hx hb qd_M_rule_73 (lv_at hl 0 rfl) ?_
              refine rd_callB (W.runV (As := [.int (zI (↑x.toNat)), .int (zI ((TH y.toNat k)))]) (rest := []) ⟨hx, hb, hml, hown, hg⟩ (c_M_has l dC dI cI cZ cT cJ o mA mR mW mC mS mL mT mH mY mE mG mB mO sy tc rc tw ar rk wt co sz lf rg hi hv ef gr bd ol x.toNat (tn x.toNat) (TH x.toNat) (TH y.toNat k) (by omega) hox.2.1 hzx hcx (okT_hh hsy hox) (by omega)) ⟨callB_of 2 hg (gw_ok (fun _ h => h) wd_721) rfl rfl rfl (hg _ wd_6) (hg _ wd_718) (by decide +kernel) ⟨Nat.le_of_ble_eq_true rfl, Nat.le_of_ble_eq_true rfl⟩, hg _ wd_720, hg _ se_M_has⟩ (rd_preV (va_recv (q0 := 0) hK hP rfl rfl) (pw_c (q := (o, .inr (6, [.int (zI (↑sy)), .ref mA, .ref mR, .ref mW, .int (zI (↑tc)), .ref mC, .ref mS, .int (zI (↑rc)), .ref mL, .ref mT, .ref mH, .ref mY, .ref mE, .ref mG, .ref mB, .ref mO, .int (zI (tw))]))) hP 0 rfl (pw_c (q := (mC, .inl (cI, 2608, .inl (zA co)))) hF 0 rfl (pw_c (q := (mS, .inl (cI, 163, .inl (zA (eI sz))))) hF 1 rfl (pw_nil)))) hK hN) rfl rfl hl.1 rfl (lv_room (Nat.le_of_ble_eq_true rfl)) qd_M_rule_75 ⟨Nat.le_of_ble_eq_true rfl, Nat.le_of_ble_eq_true rfl⟩) (fun r75 hr75 => ?_)
              refine zz_ifeqB (tgt := 85) hx hb qd_M_rule_78 (by decide) (fun h78 => ?_) (fun h78 => ?_)
              · skip
                refine lv_iconst (v := zI 0) hx hb qd_M_rule_85 rfl ?_
                refine lv_istore_n (lv' := [(3, .int (zI (bI (false)))), (5, .int (zI (TH y.toNat k))), (4, .int (zI (↑k))), (0, .ref o), (1, .int (zI (x))), (2, .int (zI (y)))]) hx hb qd_M_rule_86 rfl hl (by decide) rfl (fun ls hl => ?_)
                refine lv_iinc (k := 2) (lv' := [(4, .int (zI (↑(k + 1)))), (3, .int (zI (bI (false)))), (5, .int (zI (TH y.toNat k))), (0, .ref o), (1, .int (zI (x))), (2, .int (zI (y)))]) hx hb qd_M_rule_87 hl rfl (zI_inc (v := ↑(k + 1)) (by omega)) (by decide) rfl (fun ls hl => ?_)
                refine lv_goto (tgt := 37) hx hb qd_M_rule_90 (by decide) ?_
                have hl := lv_sub (l' := [(4, .int (zI (↑(k + 1)))), (3, .int (zI (bI (false)))), (0, .ref o), (1, .int (zI (x))), (2, .int (zI (y)))]) hl [0, 1, 3, 4, 5] rfl
                exact ih37 _ (by omega) (k + 1) false (fun z9 => by first | exact Bool.noConfusion z9 | exact ⟨k1, k2, k3, k4, k5, by omega, fun q hq hv => if h8 : q < k then k7 q h8 hv else (by rw [show q = k by omega] at hv ⊢; first | (exfalso; omega) | exact hr75.mp h78)⟩) (fun z9 => by first | exact Bool.noConfusion z9 | exact fun hG => by (have z8 := hr75.mpr (hG.2.2.2.2.2 k (by omega) (by omega))); rw [z8] at h78; exact Bool.noConfusion h78) rfl ls hl
              · skip
                refine lv_iconst (v := zI 1) hx hb qd_M_rule_81 rfl ?_
                refine lv_goto (tgt := 86) hx hb qd_M_rule_82 (by decide) ?_
                refine lv_istore_n (lv' := [(3, .int (zI (bI (true)))), (5, .int (zI (TH y.toNat k))), (4, .int (zI (↑k))), (0, .ref o), (1, .int (zI (x))), (2, .int (zI (y)))]) hx hb qd_M_rule_86 rfl hl (by decide) rfl (fun ls hl => ?_)
                refine lv_iinc (k := 2) (lv' := [(4, .int (zI (↑(k + 1)))), (3, .int (zI (bI (true)))), (5, .int (zI (TH y.toNat k))), (0, .ref o), (1, .int (zI (x))), (2, .int (zI (y)))]) hx hb qd_M_rule_87 hl rfl (zI_inc (v := ↑(k + 1)) (by omega)) (by decide) rfl (fun ls hl => ?_)
                refine lv_goto (tgt := 37) hx hb qd_M_rule_90 (by decide) ?_
                have hl := lv_sub (l' := [(4, .int (zI (↑(k + 1)))), (3, .int (zI (bI (true)))), (0, .ref o), (1, .int (zI (x))), (2, .int (zI (y)))]) hl [0, 1, 3, 4, 5] rfl
                exact ih37 _ (by omega) (k + 1) true (fun z9 => by first | exact Bool.noConfusion z9 | exact ⟨k1, k2, k3, k4, k5, by omega, fun q hq hv => if h8 : q < k then k7 q h8 hv else (by rw [show q = k by omega] at hv ⊢; first | (exfalso; omega) | exact hr75.mp h78)⟩) (fun z9 => by first | exact Bool.noConfusion z9 | exact fun hG => by (have z8 := hr75.mpr (hG.2.2.2.2.2 k (by omega) (by omega))); rw [z8] at h78; exact Bool.noConfusion h78) rfl ls hl
    exact L37 _ 0 false (fun z9 => by first | exact Bool.noConfusion z9 | exact ⟨by omega, by omega, by omega, by omega, by omega, by omega, fun q hq => by omega⟩) (fun z9 => by first | exact Bool.noConfusion z9 | exact fun hG => by obtain ⟨g1, g2, g3, g4, g5, _⟩ := hG; omega) rfl ls hl
  · skip
    have hyx := hr2.mp h5
    obtain ⟨hox, hzx, hcx⟩ := htp x.toNat (by omega)
    have h16x := hox.2.1
    have hpx := hox.1
    have hb0 := okT_hh hsy hox 0 hpx
    refine lv_aload_n hx hb qd_M_rule_8 rfl (lv_at hl 0 rfl) ?_
    refine lv_iload_n hx hb qd_M_rule_9 rfl (lv_at hl 2 rfl) ?_
    refine rd_callB (W.runV (As := [.int (zI (y))]) (rest := []) ⟨hx, hb, hml, hown, hg⟩ (c_M_isTerm l dC dI cI cZ cT cJ o mA mR mW mC mS mL mT mH mY mE mG mB mO sy tc rc tw ar rk wt co sz lf rg hi hv ef gr bd ol y htc h32y) ⟨callB_of 1 hg (gw_ok (fun _ h => h) wd_693) rfl rfl rfl (hg _ wd_6) (hg _ wd_690) (by decide +kernel) ⟨Nat.le_of_ble_eq_true rfl, Nat.le_of_ble_eq_true rfl⟩, hg _ wd_692, hg _ se_M_isTerm⟩ (rd_preV (va_recv (q0 := 0) hK hP rfl rfl) (pw_c (q := (o, .inr (6, [.int (zI (↑sy)), .ref mA, .ref mR, .ref mW, .int (zI (↑tc)), .ref mC, .ref mS, .int (zI (↑rc)), .ref mL, .ref mT, .ref mH, .ref mY, .ref mE, .ref mG, .ref mB, .ref mO, .int (zI (tw))]))) hP 0 rfl (pw_nil)) hK hN) rfl rfl hl.1 rfl (lv_room (Nat.le_of_ble_eq_true rfl)) qd_M_rule_10 ⟨Nat.le_of_ble_eq_true rfl, Nat.le_of_ble_eq_true rfl⟩) (fun r10 hr10 => ?_)
    refine zz_ifeqB (tgt := 32) hx hb qd_M_rule_13 (by decide) (fun h13 => ?_) (fun h13 => ?_)
    · skip
      have hny : ¬ (0 ≤ y ∧ y < tc) := fun z9 => by rw [hr10.mpr z9] at h13; exact Bool.noConfusion h13
      refine lv_iconst (v := zI 0) hx hb qd_M_rule_32 rfl ?_
      refine lv_istore_n (lv' := [(3, .int (zI (bI (false)))), (0, .ref o), (1, .int (zI (x))), (2, .int (zI (y)))]) hx hb qd_M_rule_33 rfl hl (by decide) rfl (fun ls hl => ?_)
      refine lv_iconst (v := zI 0) hx hb qd_M_rule_34 rfl ?_
      refine lv_istore (lv' := [(4, .int (zI (0))), (3, .int (zI (bI (false)))), (0, .ref o), (1, .int (zI (x))), (2, .int (zI (y)))]) hx hb qd_M_rule_35 hl (by decide) rfl (fun ls hl => ?_)
      have L37 : ∀ (mu37 : Nat) (k : Nat) (gd : Bool), (gd = true → (0 ≤ x ∧ x < tc ∧ 0 ≤ y ∧ y < tc ∧ 0 ≤ TH x.toNat 0 ∧ k ≤ tn y.toNat ∧ ∀ q, q < k → TH y.toNat q < 0 → ∃ k, k < tn x.toNat ∧ TH x.toNat k = TH y.toNat q)) → (gd = false → ¬ (0 ≤ x ∧ x < tc ∧ 0 ≤ y ∧ y < tc ∧ 0 ≤ TH x.toNat 0 ∧ ∀ q, q < tn y.toNat → TH y.toNat q < 0 → ∃ k, k < tn x.toNat ∧ TH x.toNat k = TH y.toNat q)) → tn y.toNat - k = mu37 → ∀ ls : Array Slot, lv_has ls 6 [(4, .int (zI (↑k))), (3, .int (zI (bI (gd)))), (0, .ref o), (1, .int (zI (x))), (2, .int (zI (y)))] → W pg l eg (headSpec qw_M_rule ({ frames := 1, cells := 0, slots := 0, locals := 23 })).room sg mg ([.ref o, .int (zI (x)), .int (zI (y))] : List Value).toArray below meth cg sg.heap [] 0 0 (MQ below (mwI (S := (Int) × (Nat) × (Nat → Nat) × (Nat → Nat)) (fun r uq => (¬ (0 ≤ x ∧ x < tc ∧ 0 ≤ y ∧ y < tc ∧ 0 ≤ TH x.toNat 0 ∧ ∀ q, q < tn y.toNat → TH y.toNat q < 0 → ∃ k, k < tn x.toNat ∧ TH x.toNat k = TH y.toNat q) ∧ uq.1 = 1 ∧ uq.2.1 = rc ∧ uq.2.2.1 = lf ∧ uq.2.2.2 = rg) ∨ ((0 ≤ x ∧ x < tc ∧ 0 ≤ y ∧ y < tc ∧ 0 ≤ TH x.toNat 0 ∧ ∀ q, q < tn y.toNat → TH y.toNat q < 0 → ∃ k, k < tn x.toNat ∧ TH x.toNat k = TH y.toNat q) ∧ rc = 8 ∧ uq.1 = 2 ∧ uq.2.1 = rc ∧ uq.2.2.1 = lf ∧ uq.2.2.2 = rg) ∨ ((0 ≤ x ∧ x < tc ∧ 0 ≤ y ∧ y < tc ∧ 0 ≤ TH x.toNat 0 ∧ ∀ q, q < tn y.toNat → TH y.toNat q < 0 → ∃ k, k < tn x.toNat ∧ TH x.toNat k = TH y.toNat q) ∧ rc < 8 ∧ uq.1 = 0 ∧ uq.2.1 = rc + 1 ∧ uq.2.2.1 = un lf rc x.toNat ∧ uq.2.2.2 = un rg rc y.toNat ∧ r = ↑rc)) (fun uq tq => mwB (dC, dI) qcl (qty cI cZ cT cJ) A [(o, .inr (6, [.int (zI (↑sy)), .ref mA, .ref mR, .ref mW, .int (zI (↑tc)), .ref mC, .ref mS, .int (zI (↑uq.2.1)), .ref mL, .ref mT, .ref mH, .ref mY, .ref mE, .ref mG, .ref mB, .ref mO, .int (zI (uq.1))])), (mL, .inl (cI, 8, .inl (zA (eI uq.2.2.1)))), (mT, .inl (cI, 8, .inl (zA (eI uq.2.2.2))))] tq) A) ([.ref o, .int (zI (x)), .int (zI (y))] : List Value).toArray sg 0 0 A) (F0 mg 37 ls []) := by
        intro mu37
        induction mu37 using Nat.strongRecOn with
        | _ mu37 ih37 =>
          intro k gd hI1 hI2 hmu37 ls hl
          refine lv_iload_n hx hb qd_M_rule_37 rfl (lv_at hl 1 rfl) ?_
          refine zz_ifeqB (tgt := 93) hx hb qd_M_rule_38 (by decide) (fun h38 => ?_) (fun h38 => ?_)
          · skip
            refine lv_aload_n hx hb qd_M_rule_93 rfl (lv_at hl 2 rfl) ?_
            refine lv_iload_n hx hb qd_M_rule_94 rfl (lv_at hl 1 rfl) ?_
            refine zz_ifneB (tgt := 102) hx hb qd_M_rule_95 (by decide) (fun h95 => ?_) (fun h95 => ?_)
            · skip
              rw [h38] at h95
              exact Bool.noConfusion h95
            · skip
              refine lv_iconst (v := zI 1) hx hb qd_M_rule_98 rfl ?_
              refine lv_goto (tgt := 116) hx hb qd_M_rule_99 (by decide) ?_
              refine va_put (D := (dC, dI)) (ci := 6) (v := .int (zI (1))) (ty := .int) (C := "TermOrdersModel") (T := qT_M) (N := 17) hx hb hg qi_M qt_M qo_M qn_M hown hK hP hD hS 0 rfl rfl 16 (by decide) (hg _ wd_634) (fun _ h9 => h9) rfl (by decide +kernel) rfl rfl (Nat.le_of_ble_eq_true rfl) qd_M_rule_116 (fun H116_7 L116_7 hP hD hS => ?_)
              have hP : va_P (dC, dI) qcl [(o, .inr (6, [.int (zI (↑sy)), .ref mA, .ref mR, .ref mW, .int (zI (↑tc)), .ref mC, .ref mS, .int (zI (↑rc)), .ref mL, .ref mT, .ref mH, .ref mY, .ref mE, .ref mG, .ref mB, .ref mO, .int (zI (1))])), (mL, .inl (cI, 8, .inl (zA (eI lf)))), (mT, .inl (cI, 8, .inl (zA (eI rg))))] H116_7 := hP
              have hD : va_D A [(o, .inr (6, [.int (zI (↑sy)), .ref mA, .ref mR, .ref mW, .int (zI (↑tc)), .ref mC, .ref mS, .int (zI (↑rc)), .ref mL, .ref mT, .ref mH, .ref mY, .ref mE, .ref mG, .ref mB, .ref mO, .int (zI (1))])), (mL, .inl (cI, 8, .inl (zA (eI lf)))), (mT, .inl (cI, 8, .inl (zA (eI rg))))] := hD
              have hF := fz_keep hF0 hFA hS
              refine lv_aload_n hx hb qd_M_rule_119 rfl (lv_at hl 2 rfl) ?_
              refine va_get (D := (dC, dI)) (ci := 6) (v := .int (zI (1))) (C := "TermOrdersModel") (T := qT_M) (N := 17) hx hb hg qi_M hown hK hP 0 rfl rfl 16 (by decide) (hg _ wd_634) (fun _ h9 => h9) rfl qd_M_rule_120 ?_
              refine zz_if_eq (tgt := 128) hx hb qd_M_rule_123 (by decide) (by omega) (fun h123 => ?_) (fun h123 => ?_)
              · skip
                exfalso
                omega
              · skip
                refine lv_iconst (v := zI 0) hx hb qd_M_rule_126 rfl ?_
                exact W.iret (v := zI 0) hx hb hr (fun t9 ht9 hW9 => ⟨⟨0, (1, rc, lf, rg), rfl, (Or.inl ⟨hI2 h38, rfl, rfl, rfl, rfl⟩), mwB_i (by rw [ht9]; exact hP) (va_K.moved hW9.alike hK) hD⟩, hS.F ht9⟩) hS.2.2 qd_M_rule_127
          · skip
            obtain ⟨k1, k2, k3, k4, k5, k6, k7⟩ := hI1 h38
            obtain ⟨hox, hzx, hcx⟩ := htp x.toNat (by omega)
            obtain ⟨hoy, hzy, hcy⟩ := htp y.toNat (by omega)
            have h16y := hoy.2.1
            refine lv_iload hx hb qd_M_rule_41 (lv_at hl 0 rfl) ?_
            refine lv_aload_n hx hb qd_M_rule_43 rfl (lv_at hl 2 rfl) ?_
            refine va_get (D := (dC, dI)) (ci := 6) (v := .ref mS) (C := "TermOrdersModel") (T := qT_M) (N := 17) hx hb hg qi_M hown hK hP 0 rfl rfl 6 (by decide) (hg _ wd_624) (fun _ h9 => h9) rfl qd_M_rule_44 ?_
            refine lv_iload_n hx hb qd_M_rule_47 rfl (lv_at hl 4 rfl) ?_
            refine zz_eald hx hb hK hF 1 0 rfl rfl y.toNat (by omega) (by omega) (by omega) qd_M_rule_48 ?_
            refine zz_top (b := ↑(tn y.toNat)) (by rw [hzy]) ?_
            refine zz_icmp_ge (tgt := 93) hx hb qd_M_rule_49 (by decide) (by omega) (by omega) (fun h49 => ?_) (fun h49 => ?_)
            · skip
              have hGD : 0 ≤ x ∧ x < tc ∧ 0 ≤ y ∧ y < tc ∧ 0 ≤ TH x.toNat 0 ∧ ∀ q, q < tn y.toNat → TH y.toNat q < 0 → ∃ k, k < tn x.toNat ∧ TH x.toNat k = TH y.toNat q := ⟨k1, k2, k3, k4, k5, fun q hq => k7 q (by omega)⟩
              refine lv_aload_n hx hb qd_M_rule_93 rfl (lv_at hl 2 rfl) ?_
              refine lv_iload_n hx hb qd_M_rule_94 rfl (lv_at hl 1 rfl) ?_
              refine zz_ifneB (tgt := 102) hx hb qd_M_rule_95 (by decide) (fun h95 => ?_) (fun h95 => ?_)
              · skip
                refine lv_aload_n hx hb qd_M_rule_102 rfl (lv_at hl 2 rfl) ?_
                refine va_get (D := (dC, dI)) (ci := 6) (v := .int (zI (↑rc))) (C := "TermOrdersModel") (T := qT_M) (N := 17) hx hb hg qi_M hown hK hP 0 rfl rfl 7 (by decide) (hg _ wd_625) (fun _ h9 => h9) rfl qd_M_rule_103 ?_
                refine lv_bipush (v := zI 8) hx hb qd_M_rule_106 (by decide) ?_
                refine zz_icmp_ne (tgt := 115) hx hb qd_M_rule_108 (by decide) (by omega) (by omega) (fun h108 => ?_) (fun h108 => ?_)
                · skip
                  refine lv_iconst (v := zI 0) hx hb qd_M_rule_115 rfl ?_
                  refine va_put (D := (dC, dI)) (ci := 6) (v := .int (zI (0))) (ty := .int) (C := "TermOrdersModel") (T := qT_M) (N := 17) hx hb hg qi_M qt_M qo_M qn_M hown hK hP hD hS 0 rfl rfl 16 (by decide) (hg _ wd_634) (fun _ h9 => h9) rfl (by decide +kernel) rfl rfl (Nat.le_of_ble_eq_true rfl) qd_M_rule_116 (fun H116_8 L116_8 hP hD hS => ?_)
                  have hP : va_P (dC, dI) qcl [(o, .inr (6, [.int (zI (↑sy)), .ref mA, .ref mR, .ref mW, .int (zI (↑tc)), .ref mC, .ref mS, .int (zI (↑rc)), .ref mL, .ref mT, .ref mH, .ref mY, .ref mE, .ref mG, .ref mB, .ref mO, .int (zI (0))])), (mL, .inl (cI, 8, .inl (zA (eI lf)))), (mT, .inl (cI, 8, .inl (zA (eI rg))))] H116_8 := hP
                  have hD : va_D A [(o, .inr (6, [.int (zI (↑sy)), .ref mA, .ref mR, .ref mW, .int (zI (↑tc)), .ref mC, .ref mS, .int (zI (↑rc)), .ref mL, .ref mT, .ref mH, .ref mY, .ref mE, .ref mG, .ref mB, .ref mO, .int (zI (0))])), (mL, .inl (cI, 8, .inl (zA (eI lf)))), (mT, .inl (cI, 8, .inl (zA (eI rg))))] := hD
                  have hF := fz_keep hF0 hFA hS
                  refine lv_aload_n hx hb qd_M_rule_119 rfl (lv_at hl 2 rfl) ?_
                  refine va_get (D := (dC, dI)) (ci := 6) (v := .int (zI (0))) (C := "TermOrdersModel") (T := qT_M) (N := 17) hx hb hg qi_M hown hK hP 0 rfl rfl 16 (by decide) (hg _ wd_634) (fun _ h9 => h9) rfl qd_M_rule_120 ?_
                  refine zz_if_eq (tgt := 128) hx hb qd_M_rule_123 (by decide) (by omega) (fun h123 => ?_) (fun h123 => ?_)
                  · skip
                    refine lv_aload_n hx hb qd_M_rule_128 rfl (lv_at hl 2 rfl) ?_
                    refine va_get (D := (dC, dI)) (ci := 6) (v := .ref mL) (C := "TermOrdersModel") (T := qT_M) (N := 17) hx hb hg qi_M hown hK hP 0 rfl rfl 8 (by decide) (hg _ wd_626) (fun _ h9 => h9) rfl qd_M_rule_129 ?_
                    refine lv_aload_n hx hb qd_M_rule_132 rfl (lv_at hl 2 rfl) ?_
                    refine va_get (D := (dC, dI)) (ci := 6) (v := .int (zI (↑rc))) (C := "TermOrdersModel") (T := qT_M) (N := 17) hx hb hg qi_M hown hK hP 0 rfl rfl 7 (by decide) (hg _ wd_625) (fun _ h9 => h9) rfl qd_M_rule_133 ?_
                    refine lv_iload_n hx hb qd_M_rule_136 rfl (lv_at hl 3 rfl) ?_
                    refine zz_east hx hb hK hP hD hS 1 0 rfl rfl rc rfl (by omega) (by omega) x.toNat (by omega) qd_M_rule_137 (fun H137_9 L137_9 hP hD hS => ?_)
                    have hP : va_P (dC, dI) qcl [(o, .inr (6, [.int (zI (↑sy)), .ref mA, .ref mR, .ref mW, .int (zI (↑tc)), .ref mC, .ref mS, .int (zI (↑rc)), .ref mL, .ref mT, .ref mH, .ref mY, .ref mE, .ref mG, .ref mB, .ref mO, .int (zI (0))])), (mL, .inl (cI, 8, .inl (zA (eI (un lf rc x.toNat))))), (mT, .inl (cI, 8, .inl (zA (eI rg))))] H137_9 := hP
                    have hD : va_D A [(o, .inr (6, [.int (zI (↑sy)), .ref mA, .ref mR, .ref mW, .int (zI (↑tc)), .ref mC, .ref mS, .int (zI (↑rc)), .ref mL, .ref mT, .ref mH, .ref mY, .ref mE, .ref mG, .ref mB, .ref mO, .int (zI (0))])), (mL, .inl (cI, 8, .inl (zA (eI (un lf rc x.toNat))))), (mT, .inl (cI, 8, .inl (zA (eI rg))))] := hD
                    have hF := fz_keep hF0 hFA hS
                    refine lv_aload_n hx hb qd_M_rule_138 rfl (lv_at hl 2 rfl) ?_
                    refine va_get (D := (dC, dI)) (ci := 6) (v := .ref mT) (C := "TermOrdersModel") (T := qT_M) (N := 17) hx hb hg qi_M hown hK hP 0 rfl rfl 9 (by decide) (hg _ wd_627) (fun _ h9 => h9) rfl qd_M_rule_139 ?_
                    refine lv_aload_n hx hb qd_M_rule_142 rfl (lv_at hl 2 rfl) ?_
                    refine va_get (D := (dC, dI)) (ci := 6) (v := .int (zI (↑rc))) (C := "TermOrdersModel") (T := qT_M) (N := 17) hx hb hg qi_M hown hK hP 0 rfl rfl 7 (by decide) (hg _ wd_625) (fun _ h9 => h9) rfl qd_M_rule_143 ?_
                    refine lv_iload_n hx hb qd_M_rule_146 rfl (lv_at hl 4 rfl) ?_
                    refine zz_east hx hb hK hP hD hS 2 0 rfl rfl rc rfl (by omega) (by omega) y.toNat (by omega) qd_M_rule_147 (fun H147_10 L147_10 hP hD hS => ?_)
                    have hP : va_P (dC, dI) qcl [(o, .inr (6, [.int (zI (↑sy)), .ref mA, .ref mR, .ref mW, .int (zI (↑tc)), .ref mC, .ref mS, .int (zI (↑rc)), .ref mL, .ref mT, .ref mH, .ref mY, .ref mE, .ref mG, .ref mB, .ref mO, .int (zI (0))])), (mL, .inl (cI, 8, .inl (zA (eI (un lf rc x.toNat))))), (mT, .inl (cI, 8, .inl (zA (eI (un rg rc y.toNat)))))] H147_10 := hP
                    have hD : va_D A [(o, .inr (6, [.int (zI (↑sy)), .ref mA, .ref mR, .ref mW, .int (zI (↑tc)), .ref mC, .ref mS, .int (zI (↑rc)), .ref mL, .ref mT, .ref mH, .ref mY, .ref mE, .ref mG, .ref mB, .ref mO, .int (zI (0))])), (mL, .inl (cI, 8, .inl (zA (eI (un lf rc x.toNat))))), (mT, .inl (cI, 8, .inl (zA (eI (un rg rc y.toNat)))))] := hD
                    have hF := fz_keep hF0 hFA hS
                    refine lv_aload_n hx hb qd_M_rule_148 rfl (lv_at hl 2 rfl) ?_
                    refine lv_dup hx hb qd_M_rule_149 rfl ?_
                    refine va_get (D := (dC, dI)) (ci := 6) (v := .int (zI (↑rc))) (C := "TermOrdersModel") (T := qT_M) (N := 17) hx hb hg qi_M hown hK hP 0 rfl rfl 7 (by decide) (hg _ wd_625) (fun _ h9 => h9) rfl qd_M_rule_150 ?_
                    refine lv_iconst (v := zI 1) hx hb qd_M_rule_153 rfl ?_
                    refine zz_iadd hx hb (↑(rc + 1)) (by omega) qd_M_rule_154 ?_
                    refine va_put (D := (dC, dI)) (ci := 6) (v := .int (zI (↑(rc + 1)))) (ty := .int) (C := "TermOrdersModel") (T := qT_M) (N := 17) hx hb hg qi_M qt_M qo_M qn_M hown hK hP hD hS 0 rfl rfl 7 (by decide) (hg _ wd_625) (fun _ h9 => h9) rfl (by decide +kernel) rfl rfl (Nat.le_of_ble_eq_true rfl) qd_M_rule_155 (fun H155_11 L155_11 hP hD hS => ?_)
                    have hP : va_P (dC, dI) qcl [(o, .inr (6, [.int (zI (↑sy)), .ref mA, .ref mR, .ref mW, .int (zI (↑tc)), .ref mC, .ref mS, .int (zI (↑(rc + 1))), .ref mL, .ref mT, .ref mH, .ref mY, .ref mE, .ref mG, .ref mB, .ref mO, .int (zI (0))])), (mL, .inl (cI, 8, .inl (zA (eI (un lf rc x.toNat))))), (mT, .inl (cI, 8, .inl (zA (eI (un rg rc y.toNat)))))] H155_11 := hP
                    have hD : va_D A [(o, .inr (6, [.int (zI (↑sy)), .ref mA, .ref mR, .ref mW, .int (zI (↑tc)), .ref mC, .ref mS, .int (zI (↑(rc + 1))), .ref mL, .ref mT, .ref mH, .ref mY, .ref mE, .ref mG, .ref mB, .ref mO, .int (zI (0))])), (mL, .inl (cI, 8, .inl (zA (eI (un lf rc x.toNat))))), (mT, .inl (cI, 8, .inl (zA (eI (un rg rc y.toNat)))))] := hD
                    have hF := fz_keep hF0 hFA hS
                    refine lv_aload_n hx hb qd_M_rule_158 rfl (lv_at hl 2 rfl) ?_
                    refine va_get (D := (dC, dI)) (ci := 6) (v := .int (zI (↑(rc + 1)))) (C := "TermOrdersModel") (T := qT_M) (N := 17) hx hb hg qi_M hown hK hP 0 rfl rfl 7 (by decide) (hg _ wd_625) (fun _ h9 => h9) rfl qd_M_rule_159 ?_
                    refine lv_iconst (v := zI 1) hx hb qd_M_rule_162 rfl ?_
                    refine zz_isub hx hb (↑rc) (by omega) qd_M_rule_163 ?_
                    exact W.iret (v := zI (↑rc)) hx hb hr (fun t9 ht9 hW9 => ⟨⟨↑rc, (0, rc + 1, un lf rc x.toNat, un rg rc y.toNat), rfl, (Or.inr (Or.inr ⟨hGD, by omega, rfl, rfl, rfl, rfl, rfl⟩)), mwB_i (by rw [ht9]; exact hP) (va_K.moved hW9.alike hK) hD⟩, hS.F ht9⟩) hS.2.2 qd_M_rule_164
                  · skip
                    exfalso
                    omega
                · skip
                  refine lv_iconst (v := zI 2) hx hb qd_M_rule_111 rfl ?_
                  refine lv_goto (tgt := 116) hx hb qd_M_rule_112 (by decide) ?_
                  refine va_put (D := (dC, dI)) (ci := 6) (v := .int (zI (2))) (ty := .int) (C := "TermOrdersModel") (T := qT_M) (N := 17) hx hb hg qi_M qt_M qo_M qn_M hown hK hP hD hS 0 rfl rfl 16 (by decide) (hg _ wd_634) (fun _ h9 => h9) rfl (by decide +kernel) rfl rfl (Nat.le_of_ble_eq_true rfl) qd_M_rule_116 (fun H116_12 L116_12 hP hD hS => ?_)
                  have hP : va_P (dC, dI) qcl [(o, .inr (6, [.int (zI (↑sy)), .ref mA, .ref mR, .ref mW, .int (zI (↑tc)), .ref mC, .ref mS, .int (zI (↑rc)), .ref mL, .ref mT, .ref mH, .ref mY, .ref mE, .ref mG, .ref mB, .ref mO, .int (zI (2))])), (mL, .inl (cI, 8, .inl (zA (eI lf)))), (mT, .inl (cI, 8, .inl (zA (eI rg))))] H116_12 := hP
                  have hD : va_D A [(o, .inr (6, [.int (zI (↑sy)), .ref mA, .ref mR, .ref mW, .int (zI (↑tc)), .ref mC, .ref mS, .int (zI (↑rc)), .ref mL, .ref mT, .ref mH, .ref mY, .ref mE, .ref mG, .ref mB, .ref mO, .int (zI (2))])), (mL, .inl (cI, 8, .inl (zA (eI lf)))), (mT, .inl (cI, 8, .inl (zA (eI rg))))] := hD
                  have hF := fz_keep hF0 hFA hS
                  refine lv_aload_n hx hb qd_M_rule_119 rfl (lv_at hl 2 rfl) ?_
                  refine va_get (D := (dC, dI)) (ci := 6) (v := .int (zI (2))) (C := "TermOrdersModel") (T := qT_M) (N := 17) hx hb hg qi_M hown hK hP 0 rfl rfl 16 (by decide) (hg _ wd_634) (fun _ h9 => h9) rfl qd_M_rule_120 ?_
                  refine zz_if_eq (tgt := 128) hx hb qd_M_rule_123 (by decide) (by omega) (fun h123 => ?_) (fun h123 => ?_)
                  · skip
                    exfalso
                    omega
                  · skip
                    refine lv_iconst (v := zI 0) hx hb qd_M_rule_126 rfl ?_
                    exact W.iret (v := zI 0) hx hb hr (fun t9 ht9 hW9 => ⟨⟨0, (2, rc, lf, rg), rfl, (Or.inr (Or.inl ⟨hGD, by omega, rfl, rfl, rfl, rfl⟩)), mwB_i (by rw [ht9]; exact hP) (va_K.moved hW9.alike hK) hD⟩, hS.F ht9⟩) hS.2.2 qd_M_rule_127
              · skip
                rw [h38] at h95
                exact Bool.noConfusion h95
            · skip
              have hyb := okT_hh hsy hoy k (by omega)
              refine lv_aload_n hx hb qd_M_rule_52 rfl (lv_at hl 2 rfl) ?_
              refine va_get (D := (dC, dI)) (ci := 6) (v := .ref mC) (C := "TermOrdersModel") (T := qT_M) (N := 17) hx hb hg qi_M hown hK hP 0 rfl rfl 5 (by decide) (hg _ wd_623) (fun _ h9 => h9) rfl qd_M_rule_53 ?_
              refine lv_bipush (v := zI 16) hx hb qd_M_rule_56 (by decide) ?_
              refine lv_iload_n hx hb qd_M_rule_58 rfl (lv_at hl 4 rfl) ?_
              refine zz_imul hx hb (16 * y) rfl qd_M_rule_59 ?_
              refine lv_iload hx hb qd_M_rule_60 (lv_at hl 0 rfl) ?_
              refine zz_iadd hx hb ((16 * y) + (↑k)) rfl qd_M_rule_62 ?_
              refine zz_iald hx hb hK hF 0 0 rfl rfl (16 * y.toNat + k) (by omega) (by omega) (by omega) qd_M_rule_63 ?_
              refine zz_top (b := TH y.toNat k) (hcy k (by omega)) ?_
              refine lv_istore (lv' := [(5, .int (zI (TH y.toNat k))), (4, .int (zI (↑k))), (3, .int (zI (bI (gd)))), (0, .ref o), (1, .int (zI (x))), (2, .int (zI (y)))]) hx hb qd_M_rule_64 hl (by decide) rfl (fun ls hl => ?_)
              refine lv_iload hx hb qd_M_rule_66 (lv_at hl 0 rfl) ?_
              refine zz_if_ge (tgt := 81) hx hb qd_M_rule_68 (by decide) (by omega) (fun h68 => ?_) (fun h68 => ?_)
              · skip
                refine lv_iconst (v := zI 1) hx hb qd_M_rule_81 rfl ?_
                refine lv_goto (tgt := 86) hx hb qd_M_rule_82 (by decide) ?_
                refine lv_istore_n (lv' := [(3, .int (zI (bI (true)))), (5, .int (zI (TH y.toNat k))), (4, .int (zI (↑k))), (0, .ref o), (1, .int (zI (x))), (2, .int (zI (y)))]) hx hb qd_M_rule_86 rfl hl (by decide) rfl (fun ls hl => ?_)
                refine lv_iinc (k := 2) (lv' := [(4, .int (zI (↑(k + 1)))), (3, .int (zI (bI (true)))), (5, .int (zI (TH y.toNat k))), (0, .ref o), (1, .int (zI (x))), (2, .int (zI (y)))]) hx hb qd_M_rule_87 hl rfl (zI_inc (v := ↑(k + 1)) (by omega)) (by decide) rfl (fun ls hl => ?_)
                refine lv_goto (tgt := 37) hx hb qd_M_rule_90 (by decide) ?_
                have hl := lv_sub (l' := [(4, .int (zI (↑(k + 1)))), (3, .int (zI (bI (true)))), (0, .ref o), (1, .int (zI (x))), (2, .int (zI (y)))]) hl [0, 1, 3, 4, 5] rfl
                exact ih37 _ (by omega) (k + 1) true (fun z9 => by first | exact Bool.noConfusion z9 | exact ⟨k1, k2, k3, k4, k5, by omega, fun q hq hv => if h8 : q < k then k7 q h8 hv else (by rw [show q = k by omega] at hv ⊢; first | (exfalso; omega) | exact hr75.mp h78)⟩) (fun z9 => by first | exact Bool.noConfusion z9 | exact fun hG => by (have z8 := hr75.mpr (hG.2.2.2.2.2 k (by omega) (by omega))); rw [z8] at h78; exact Bool.noConfusion h78) rfl ls hl
              · skip
                refine lv_aload_n hx hb qd_M_rule_71 rfl (lv_at hl 3 rfl) ?_
                refine lv_iload_n hx hb qd_M_rule_72 rfl (lv_at hl 4 rfl) ?_
                refine zz_top (b := ↑x.toNat) (by omega) ?_
                refine lv_iload hx hb qd_M_rule_73 (lv_at hl 0 rfl) ?_
                refine rd_callB (W.runV (As := [.int (zI (↑x.toNat)), .int (zI ((TH y.toNat k)))]) (rest := []) ⟨hx, hb, hml, hown, hg⟩ (c_M_has l dC dI cI cZ cT cJ o mA mR mW mC mS mL mT mH mY mE mG mB mO sy tc rc tw ar rk wt co sz lf rg hi hv ef gr bd ol x.toNat (tn x.toNat) (TH x.toNat) (TH y.toNat k) (by omega) hox.2.1 hzx hcx (okT_hh hsy hox) (by omega)) ⟨callB_of 2 hg (gw_ok (fun _ h => h) wd_721) rfl rfl rfl (hg _ wd_6) (hg _ wd_718) (by decide +kernel) ⟨Nat.le_of_ble_eq_true rfl, Nat.le_of_ble_eq_true rfl⟩, hg _ wd_720, hg _ se_M_has⟩ (rd_preV (va_recv (q0 := 0) hK hP rfl rfl) (pw_c (q := (o, .inr (6, [.int (zI (↑sy)), .ref mA, .ref mR, .ref mW, .int (zI (↑tc)), .ref mC, .ref mS, .int (zI (↑rc)), .ref mL, .ref mT, .ref mH, .ref mY, .ref mE, .ref mG, .ref mB, .ref mO, .int (zI (tw))]))) hP 0 rfl (pw_c (q := (mC, .inl (cI, 2608, .inl (zA co)))) hF 0 rfl (pw_c (q := (mS, .inl (cI, 163, .inl (zA (eI sz))))) hF 1 rfl (pw_nil)))) hK hN) rfl rfl hl.1 rfl (lv_room (Nat.le_of_ble_eq_true rfl)) qd_M_rule_75 ⟨Nat.le_of_ble_eq_true rfl, Nat.le_of_ble_eq_true rfl⟩) (fun r75 hr75 => ?_)
                refine zz_ifeqB (tgt := 85) hx hb qd_M_rule_78 (by decide) (fun h78 => ?_) (fun h78 => ?_)
                · skip
                  refine lv_iconst (v := zI 0) hx hb qd_M_rule_85 rfl ?_
                  refine lv_istore_n (lv' := [(3, .int (zI (bI (false)))), (5, .int (zI (TH y.toNat k))), (4, .int (zI (↑k))), (0, .ref o), (1, .int (zI (x))), (2, .int (zI (y)))]) hx hb qd_M_rule_86 rfl hl (by decide) rfl (fun ls hl => ?_)
                  refine lv_iinc (k := 2) (lv' := [(4, .int (zI (↑(k + 1)))), (3, .int (zI (bI (false)))), (5, .int (zI (TH y.toNat k))), (0, .ref o), (1, .int (zI (x))), (2, .int (zI (y)))]) hx hb qd_M_rule_87 hl rfl (zI_inc (v := ↑(k + 1)) (by omega)) (by decide) rfl (fun ls hl => ?_)
                  refine lv_goto (tgt := 37) hx hb qd_M_rule_90 (by decide) ?_
                  have hl := lv_sub (l' := [(4, .int (zI (↑(k + 1)))), (3, .int (zI (bI (false)))), (0, .ref o), (1, .int (zI (x))), (2, .int (zI (y)))]) hl [0, 1, 3, 4, 5] rfl
                  exact ih37 _ (by omega) (k + 1) false (fun z9 => by first | exact Bool.noConfusion z9 | exact ⟨k1, k2, k3, k4, k5, by omega, fun q hq hv => if h8 : q < k then k7 q h8 hv else (by rw [show q = k by omega] at hv ⊢; first | (exfalso; omega) | exact hr75.mp h78)⟩) (fun z9 => by first | exact Bool.noConfusion z9 | exact fun hG => by (have z8 := hr75.mpr (hG.2.2.2.2.2 k (by omega) (by omega))); rw [z8] at h78; exact Bool.noConfusion h78) rfl ls hl
                · skip
                  refine lv_iconst (v := zI 1) hx hb qd_M_rule_81 rfl ?_
                  refine lv_goto (tgt := 86) hx hb qd_M_rule_82 (by decide) ?_
                  refine lv_istore_n (lv' := [(3, .int (zI (bI (true)))), (5, .int (zI (TH y.toNat k))), (4, .int (zI (↑k))), (0, .ref o), (1, .int (zI (x))), (2, .int (zI (y)))]) hx hb qd_M_rule_86 rfl hl (by decide) rfl (fun ls hl => ?_)
                  refine lv_iinc (k := 2) (lv' := [(4, .int (zI (↑(k + 1)))), (3, .int (zI (bI (true)))), (5, .int (zI (TH y.toNat k))), (0, .ref o), (1, .int (zI (x))), (2, .int (zI (y)))]) hx hb qd_M_rule_87 hl rfl (zI_inc (v := ↑(k + 1)) (by omega)) (by decide) rfl (fun ls hl => ?_)
                  refine lv_goto (tgt := 37) hx hb qd_M_rule_90 (by decide) ?_
                  have hl := lv_sub (l' := [(4, .int (zI (↑(k + 1)))), (3, .int (zI (bI (true)))), (0, .ref o), (1, .int (zI (x))), (2, .int (zI (y)))]) hl [0, 1, 3, 4, 5] rfl
                  exact ih37 _ (by omega) (k + 1) true (fun z9 => by first | exact Bool.noConfusion z9 | exact ⟨k1, k2, k3, k4, k5, by omega, fun q hq hv => if h8 : q < k then k7 q h8 hv else (by rw [show q = k by omega] at hv ⊢; first | (exfalso; omega) | exact hr75.mp h78)⟩) (fun z9 => by first | exact Bool.noConfusion z9 | exact fun hG => by (have z8 := hr75.mpr (hG.2.2.2.2.2 k (by omega) (by omega))); rw [z8] at h78; exact Bool.noConfusion h78) rfl ls hl
      exact L37 _ 0 false (fun z9 => by first | exact Bool.noConfusion z9 | exact ⟨by omega, by omega, by omega, by omega, by omega, by omega, fun q hq => by omega⟩) (fun z9 => by first | exact Bool.noConfusion z9 | exact fun hG => by obtain ⟨g1, g2, g3, g4, g5, _⟩ := hG; omega) rfl ls hl
    · skip
      have hyy := hr10.mp h13
      refine lv_aload_n hx hb qd_M_rule_16 rfl (lv_at hl 0 rfl) ?_
      refine va_get (D := (dC, dI)) (ci := 6) (v := .ref mC) (C := "TermOrdersModel") (T := qT_M) (N := 17) hx hb hg qi_M hown hK hP 0 rfl rfl 5 (by decide) (hg _ wd_623) (fun _ h9 => h9) rfl qd_M_rule_17 ?_
      refine lv_bipush (v := zI 16) hx hb qd_M_rule_20 (by decide) ?_
      refine lv_iload_n hx hb qd_M_rule_22 rfl (lv_at hl 1 rfl) ?_
      refine zz_imul hx hb (16 * x) rfl qd_M_rule_23 ?_
      refine zz_iald hx hb hK hF 0 0 rfl rfl (16 * x.toNat) (by omega) (by omega) (by omega) qd_M_rule_24 ?_
      refine zz_top (b := TH x.toNat 0) (hcx 0 hpx) ?_
      refine zz_if_lt (tgt := 32) hx hb qd_M_rule_25 (by decide) (by omega) (fun h25 => ?_) (fun h25 => ?_)
      · skip
        refine lv_iconst (v := zI 0) hx hb qd_M_rule_32 rfl ?_
        refine lv_istore_n (lv' := [(3, .int (zI (bI (false)))), (0, .ref o), (1, .int (zI (x))), (2, .int (zI (y)))]) hx hb qd_M_rule_33 rfl hl (by decide) rfl (fun ls hl => ?_)
        refine lv_iconst (v := zI 0) hx hb qd_M_rule_34 rfl ?_
        refine lv_istore (lv' := [(4, .int (zI (0))), (3, .int (zI (bI (false)))), (0, .ref o), (1, .int (zI (x))), (2, .int (zI (y)))]) hx hb qd_M_rule_35 hl (by decide) rfl (fun ls hl => ?_)
        have L37 : ∀ (mu37 : Nat) (k : Nat) (gd : Bool), (gd = true → (0 ≤ x ∧ x < tc ∧ 0 ≤ y ∧ y < tc ∧ 0 ≤ TH x.toNat 0 ∧ k ≤ tn y.toNat ∧ ∀ q, q < k → TH y.toNat q < 0 → ∃ k, k < tn x.toNat ∧ TH x.toNat k = TH y.toNat q)) → (gd = false → ¬ (0 ≤ x ∧ x < tc ∧ 0 ≤ y ∧ y < tc ∧ 0 ≤ TH x.toNat 0 ∧ ∀ q, q < tn y.toNat → TH y.toNat q < 0 → ∃ k, k < tn x.toNat ∧ TH x.toNat k = TH y.toNat q)) → tn y.toNat - k = mu37 → ∀ ls : Array Slot, lv_has ls 6 [(4, .int (zI (↑k))), (3, .int (zI (bI (gd)))), (0, .ref o), (1, .int (zI (x))), (2, .int (zI (y)))] → W pg l eg (headSpec qw_M_rule ({ frames := 1, cells := 0, slots := 0, locals := 23 })).room sg mg ([.ref o, .int (zI (x)), .int (zI (y))] : List Value).toArray below meth cg sg.heap [] 0 0 (MQ below (mwI (S := (Int) × (Nat) × (Nat → Nat) × (Nat → Nat)) (fun r uq => (¬ (0 ≤ x ∧ x < tc ∧ 0 ≤ y ∧ y < tc ∧ 0 ≤ TH x.toNat 0 ∧ ∀ q, q < tn y.toNat → TH y.toNat q < 0 → ∃ k, k < tn x.toNat ∧ TH x.toNat k = TH y.toNat q) ∧ uq.1 = 1 ∧ uq.2.1 = rc ∧ uq.2.2.1 = lf ∧ uq.2.2.2 = rg) ∨ ((0 ≤ x ∧ x < tc ∧ 0 ≤ y ∧ y < tc ∧ 0 ≤ TH x.toNat 0 ∧ ∀ q, q < tn y.toNat → TH y.toNat q < 0 → ∃ k, k < tn x.toNat ∧ TH x.toNat k = TH y.toNat q) ∧ rc = 8 ∧ uq.1 = 2 ∧ uq.2.1 = rc ∧ uq.2.2.1 = lf ∧ uq.2.2.2 = rg) ∨ ((0 ≤ x ∧ x < tc ∧ 0 ≤ y ∧ y < tc ∧ 0 ≤ TH x.toNat 0 ∧ ∀ q, q < tn y.toNat → TH y.toNat q < 0 → ∃ k, k < tn x.toNat ∧ TH x.toNat k = TH y.toNat q) ∧ rc < 8 ∧ uq.1 = 0 ∧ uq.2.1 = rc + 1 ∧ uq.2.2.1 = un lf rc x.toNat ∧ uq.2.2.2 = un rg rc y.toNat ∧ r = ↑rc)) (fun uq tq => mwB (dC, dI) qcl (qty cI cZ cT cJ) A [(o, .inr (6, [.int (zI (↑sy)), .ref mA, .ref mR, .ref mW, .int (zI (↑tc)), .ref mC, .ref mS, .int (zI (↑uq.2.1)), .ref mL, .ref mT, .ref mH, .ref mY, .ref mE, .ref mG, .ref mB, .ref mO, .int (zI (uq.1))])), (mL, .inl (cI, 8, .inl (zA (eI uq.2.2.1)))), (mT, .inl (cI, 8, .inl (zA (eI uq.2.2.2))))] tq) A) ([.ref o, .int (zI (x)), .int (zI (y))] : List Value).toArray sg 0 0 A) (F0 mg 37 ls []) := by
          intro mu37
          induction mu37 using Nat.strongRecOn with
          | _ mu37 ih37 =>
            intro k gd hI1 hI2 hmu37 ls hl
            refine lv_iload_n hx hb qd_M_rule_37 rfl (lv_at hl 1 rfl) ?_
            refine zz_ifeqB (tgt := 93) hx hb qd_M_rule_38 (by decide) (fun h38 => ?_) (fun h38 => ?_)
            · skip
              refine lv_aload_n hx hb qd_M_rule_93 rfl (lv_at hl 2 rfl) ?_
              refine lv_iload_n hx hb qd_M_rule_94 rfl (lv_at hl 1 rfl) ?_
              refine zz_ifneB (tgt := 102) hx hb qd_M_rule_95 (by decide) (fun h95 => ?_) (fun h95 => ?_)
              · skip
                rw [h38] at h95
                exact Bool.noConfusion h95
              · skip
                refine lv_iconst (v := zI 1) hx hb qd_M_rule_98 rfl ?_
                refine lv_goto (tgt := 116) hx hb qd_M_rule_99 (by decide) ?_
                refine va_put (D := (dC, dI)) (ci := 6) (v := .int (zI (1))) (ty := .int) (C := "TermOrdersModel") (T := qT_M) (N := 17) hx hb hg qi_M qt_M qo_M qn_M hown hK hP hD hS 0 rfl rfl 16 (by decide) (hg _ wd_634) (fun _ h9 => h9) rfl (by decide +kernel) rfl rfl (Nat.le_of_ble_eq_true rfl) qd_M_rule_116 (fun H116_13 L116_13 hP hD hS => ?_)
                have hP : va_P (dC, dI) qcl [(o, .inr (6, [.int (zI (↑sy)), .ref mA, .ref mR, .ref mW, .int (zI (↑tc)), .ref mC, .ref mS, .int (zI (↑rc)), .ref mL, .ref mT, .ref mH, .ref mY, .ref mE, .ref mG, .ref mB, .ref mO, .int (zI (1))])), (mL, .inl (cI, 8, .inl (zA (eI lf)))), (mT, .inl (cI, 8, .inl (zA (eI rg))))] H116_13 := hP
                have hD : va_D A [(o, .inr (6, [.int (zI (↑sy)), .ref mA, .ref mR, .ref mW, .int (zI (↑tc)), .ref mC, .ref mS, .int (zI (↑rc)), .ref mL, .ref mT, .ref mH, .ref mY, .ref mE, .ref mG, .ref mB, .ref mO, .int (zI (1))])), (mL, .inl (cI, 8, .inl (zA (eI lf)))), (mT, .inl (cI, 8, .inl (zA (eI rg))))] := hD
                have hF := fz_keep hF0 hFA hS
                refine lv_aload_n hx hb qd_M_rule_119 rfl (lv_at hl 2 rfl) ?_
                refine va_get (D := (dC, dI)) (ci := 6) (v := .int (zI (1))) (C := "TermOrdersModel") (T := qT_M) (N := 17) hx hb hg qi_M hown hK hP 0 rfl rfl 16 (by decide) (hg _ wd_634) (fun _ h9 => h9) rfl qd_M_rule_120 ?_
                refine zz_if_eq (tgt := 128) hx hb qd_M_rule_123 (by decide) (by omega) (fun h123 => ?_) (fun h123 => ?_)
                · skip
                  exfalso
                  omega
                · skip
                  refine lv_iconst (v := zI 0) hx hb qd_M_rule_126 rfl ?_
                  exact W.iret (v := zI 0) hx hb hr (fun t9 ht9 hW9 => ⟨⟨0, (1, rc, lf, rg), rfl, (Or.inl ⟨hI2 h38, rfl, rfl, rfl, rfl⟩), mwB_i (by rw [ht9]; exact hP) (va_K.moved hW9.alike hK) hD⟩, hS.F ht9⟩) hS.2.2 qd_M_rule_127
            · skip
              obtain ⟨k1, k2, k3, k4, k5, k6, k7⟩ := hI1 h38
              obtain ⟨hox, hzx, hcx⟩ := htp x.toNat (by omega)
              obtain ⟨hoy, hzy, hcy⟩ := htp y.toNat (by omega)
              have h16y := hoy.2.1
              refine lv_iload hx hb qd_M_rule_41 (lv_at hl 0 rfl) ?_
              refine lv_aload_n hx hb qd_M_rule_43 rfl (lv_at hl 2 rfl) ?_
              refine va_get (D := (dC, dI)) (ci := 6) (v := .ref mS) (C := "TermOrdersModel") (T := qT_M) (N := 17) hx hb hg qi_M hown hK hP 0 rfl rfl 6 (by decide) (hg _ wd_624) (fun _ h9 => h9) rfl qd_M_rule_44 ?_
              refine lv_iload_n hx hb qd_M_rule_47 rfl (lv_at hl 4 rfl) ?_
              refine zz_eald hx hb hK hF 1 0 rfl rfl y.toNat (by omega) (by omega) (by omega) qd_M_rule_48 ?_
              refine zz_top (b := ↑(tn y.toNat)) (by rw [hzy]) ?_
              refine zz_icmp_ge (tgt := 93) hx hb qd_M_rule_49 (by decide) (by omega) (by omega) (fun h49 => ?_) (fun h49 => ?_)
              · skip
                have hGD : 0 ≤ x ∧ x < tc ∧ 0 ≤ y ∧ y < tc ∧ 0 ≤ TH x.toNat 0 ∧ ∀ q, q < tn y.toNat → TH y.toNat q < 0 → ∃ k, k < tn x.toNat ∧ TH x.toNat k = TH y.toNat q := ⟨k1, k2, k3, k4, k5, fun q hq => k7 q (by omega)⟩
                refine lv_aload_n hx hb qd_M_rule_93 rfl (lv_at hl 2 rfl) ?_
                refine lv_iload_n hx hb qd_M_rule_94 rfl (lv_at hl 1 rfl) ?_
                refine zz_ifneB (tgt := 102) hx hb qd_M_rule_95 (by decide) (fun h95 => ?_) (fun h95 => ?_)
                · skip
                  refine lv_aload_n hx hb qd_M_rule_102 rfl (lv_at hl 2 rfl) ?_
                  refine va_get (D := (dC, dI)) (ci := 6) (v := .int (zI (↑rc))) (C := "TermOrdersModel") (T := qT_M) (N := 17) hx hb hg qi_M hown hK hP 0 rfl rfl 7 (by decide) (hg _ wd_625) (fun _ h9 => h9) rfl qd_M_rule_103 ?_
                  refine lv_bipush (v := zI 8) hx hb qd_M_rule_106 (by decide) ?_
                  refine zz_icmp_ne (tgt := 115) hx hb qd_M_rule_108 (by decide) (by omega) (by omega) (fun h108 => ?_) (fun h108 => ?_)
                  · skip
                    refine lv_iconst (v := zI 0) hx hb qd_M_rule_115 rfl ?_
                    refine va_put (D := (dC, dI)) (ci := 6) (v := .int (zI (0))) (ty := .int) (C := "TermOrdersModel") (T := qT_M) (N := 17) hx hb hg qi_M qt_M qo_M qn_M hown hK hP hD hS 0 rfl rfl 16 (by decide) (hg _ wd_634) (fun _ h9 => h9) rfl (by decide +kernel) rfl rfl (Nat.le_of_ble_eq_true rfl) qd_M_rule_116 (fun H116_14 L116_14 hP hD hS => ?_)
                    have hP : va_P (dC, dI) qcl [(o, .inr (6, [.int (zI (↑sy)), .ref mA, .ref mR, .ref mW, .int (zI (↑tc)), .ref mC, .ref mS, .int (zI (↑rc)), .ref mL, .ref mT, .ref mH, .ref mY, .ref mE, .ref mG, .ref mB, .ref mO, .int (zI (0))])), (mL, .inl (cI, 8, .inl (zA (eI lf)))), (mT, .inl (cI, 8, .inl (zA (eI rg))))] H116_14 := hP
                    have hD : va_D A [(o, .inr (6, [.int (zI (↑sy)), .ref mA, .ref mR, .ref mW, .int (zI (↑tc)), .ref mC, .ref mS, .int (zI (↑rc)), .ref mL, .ref mT, .ref mH, .ref mY, .ref mE, .ref mG, .ref mB, .ref mO, .int (zI (0))])), (mL, .inl (cI, 8, .inl (zA (eI lf)))), (mT, .inl (cI, 8, .inl (zA (eI rg))))] := hD
                    have hF := fz_keep hF0 hFA hS
                    refine lv_aload_n hx hb qd_M_rule_119 rfl (lv_at hl 2 rfl) ?_
                    refine va_get (D := (dC, dI)) (ci := 6) (v := .int (zI (0))) (C := "TermOrdersModel") (T := qT_M) (N := 17) hx hb hg qi_M hown hK hP 0 rfl rfl 16 (by decide) (hg _ wd_634) (fun _ h9 => h9) rfl qd_M_rule_120 ?_
                    refine zz_if_eq (tgt := 128) hx hb qd_M_rule_123 (by decide) (by omega) (fun h123 => ?_) (fun h123 => ?_)
                    · skip
                      refine lv_aload_n hx hb qd_M_rule_128 rfl (lv_at hl 2 rfl) ?_
                      refine va_get (D := (dC, dI)) (ci := 6) (v := .ref mL) (C := "TermOrdersModel") (T := qT_M) (N := 17) hx hb hg qi_M hown hK hP 0 rfl rfl 8 (by decide) (hg _ wd_626) (fun _ h9 => h9) rfl qd_M_rule_129 ?_
                      refine lv_aload_n hx hb qd_M_rule_132 rfl (lv_at hl 2 rfl) ?_
                      refine va_get (D := (dC, dI)) (ci := 6) (v := .int (zI (↑rc))) (C := "TermOrdersModel") (T := qT_M) (N := 17) hx hb hg qi_M hown hK hP 0 rfl rfl 7 (by decide) (hg _ wd_625) (fun _ h9 => h9) rfl qd_M_rule_133 ?_
                      refine lv_iload_n hx hb qd_M_rule_136 rfl (lv_at hl 3 rfl) ?_
                      refine zz_east hx hb hK hP hD hS 1 0 rfl rfl rc rfl (by omega) (by omega) x.toNat (by omega) qd_M_rule_137 (fun H137_15 L137_15 hP hD hS => ?_)
                      have hP : va_P (dC, dI) qcl [(o, .inr (6, [.int (zI (↑sy)), .ref mA, .ref mR, .ref mW, .int (zI (↑tc)), .ref mC, .ref mS, .int (zI (↑rc)), .ref mL, .ref mT, .ref mH, .ref mY, .ref mE, .ref mG, .ref mB, .ref mO, .int (zI (0))])), (mL, .inl (cI, 8, .inl (zA (eI (un lf rc x.toNat))))), (mT, .inl (cI, 8, .inl (zA (eI rg))))] H137_15 := hP
                      have hD : va_D A [(o, .inr (6, [.int (zI (↑sy)), .ref mA, .ref mR, .ref mW, .int (zI (↑tc)), .ref mC, .ref mS, .int (zI (↑rc)), .ref mL, .ref mT, .ref mH, .ref mY, .ref mE, .ref mG, .ref mB, .ref mO, .int (zI (0))])), (mL, .inl (cI, 8, .inl (zA (eI (un lf rc x.toNat))))), (mT, .inl (cI, 8, .inl (zA (eI rg))))] := hD
                      have hF := fz_keep hF0 hFA hS
                      refine lv_aload_n hx hb qd_M_rule_138 rfl (lv_at hl 2 rfl) ?_
                      refine va_get (D := (dC, dI)) (ci := 6) (v := .ref mT) (C := "TermOrdersModel") (T := qT_M) (N := 17) hx hb hg qi_M hown hK hP 0 rfl rfl 9 (by decide) (hg _ wd_627) (fun _ h9 => h9) rfl qd_M_rule_139 ?_
                      refine lv_aload_n hx hb qd_M_rule_142 rfl (lv_at hl 2 rfl) ?_
                      refine va_get (D := (dC, dI)) (ci := 6) (v := .int (zI (↑rc))) (C := "TermOrdersModel") (T := qT_M) (N := 17) hx hb hg qi_M hown hK hP 0 rfl rfl 7 (by decide) (hg _ wd_625) (fun _ h9 => h9) rfl qd_M_rule_143 ?_
                      refine lv_iload_n hx hb qd_M_rule_146 rfl (lv_at hl 4 rfl) ?_
                      refine zz_east hx hb hK hP hD hS 2 0 rfl rfl rc rfl (by omega) (by omega) y.toNat (by omega) qd_M_rule_147 (fun H147_16 L147_16 hP hD hS => ?_)
                      have hP : va_P (dC, dI) qcl [(o, .inr (6, [.int (zI (↑sy)), .ref mA, .ref mR, .ref mW, .int (zI (↑tc)), .ref mC, .ref mS, .int (zI (↑rc)), .ref mL, .ref mT, .ref mH, .ref mY, .ref mE, .ref mG, .ref mB, .ref mO, .int (zI (0))])), (mL, .inl (cI, 8, .inl (zA (eI (un lf rc x.toNat))))), (mT, .inl (cI, 8, .inl (zA (eI (un rg rc y.toNat)))))] H147_16 := hP
                      have hD : va_D A [(o, .inr (6, [.int (zI (↑sy)), .ref mA, .ref mR, .ref mW, .int (zI (↑tc)), .ref mC, .ref mS, .int (zI (↑rc)), .ref mL, .ref mT, .ref mH, .ref mY, .ref mE, .ref mG, .ref mB, .ref mO, .int (zI (0))])), (mL, .inl (cI, 8, .inl (zA (eI (un lf rc x.toNat))))), (mT, .inl (cI, 8, .inl (zA (eI (un rg rc y.toNat)))))] := hD
                      have hF := fz_keep hF0 hFA hS
                      refine lv_aload_n hx hb qd_M_rule_148 rfl (lv_at hl 2 rfl) ?_
                      refine lv_dup hx hb qd_M_rule_149 rfl ?_
                      refine va_get (D := (dC, dI)) (ci := 6) (v := .int (zI (↑rc))) (C := "TermOrdersModel") (T := qT_M) (N := 17) hx hb hg qi_M hown hK hP 0 rfl rfl 7 (by decide) (hg _ wd_625) (fun _ h9 => h9) rfl qd_M_rule_150 ?_
                      refine lv_iconst (v := zI 1) hx hb qd_M_rule_153 rfl ?_
                      refine zz_iadd hx hb (↑(rc + 1)) (by omega) qd_M_rule_154 ?_
                      refine va_put (D := (dC, dI)) (ci := 6) (v := .int (zI (↑(rc + 1)))) (ty := .int) (C := "TermOrdersModel") (T := qT_M) (N := 17) hx hb hg qi_M qt_M qo_M qn_M hown hK hP hD hS 0 rfl rfl 7 (by decide) (hg _ wd_625) (fun _ h9 => h9) rfl (by decide +kernel) rfl rfl (Nat.le_of_ble_eq_true rfl) qd_M_rule_155 (fun H155_17 L155_17 hP hD hS => ?_)
                      have hP : va_P (dC, dI) qcl [(o, .inr (6, [.int (zI (↑sy)), .ref mA, .ref mR, .ref mW, .int (zI (↑tc)), .ref mC, .ref mS, .int (zI (↑(rc + 1))), .ref mL, .ref mT, .ref mH, .ref mY, .ref mE, .ref mG, .ref mB, .ref mO, .int (zI (0))])), (mL, .inl (cI, 8, .inl (zA (eI (un lf rc x.toNat))))), (mT, .inl (cI, 8, .inl (zA (eI (un rg rc y.toNat)))))] H155_17 := hP
                      have hD : va_D A [(o, .inr (6, [.int (zI (↑sy)), .ref mA, .ref mR, .ref mW, .int (zI (↑tc)), .ref mC, .ref mS, .int (zI (↑(rc + 1))), .ref mL, .ref mT, .ref mH, .ref mY, .ref mE, .ref mG, .ref mB, .ref mO, .int (zI (0))])), (mL, .inl (cI, 8, .inl (zA (eI (un lf rc x.toNat))))), (mT, .inl (cI, 8, .inl (zA (eI (un rg rc y.toNat)))))] := hD
                      have hF := fz_keep hF0 hFA hS
                      refine lv_aload_n hx hb qd_M_rule_158 rfl (lv_at hl 2 rfl) ?_
                      refine va_get (D := (dC, dI)) (ci := 6) (v := .int (zI (↑(rc + 1)))) (C := "TermOrdersModel") (T := qT_M) (N := 17) hx hb hg qi_M hown hK hP 0 rfl rfl 7 (by decide) (hg _ wd_625) (fun _ h9 => h9) rfl qd_M_rule_159 ?_
                      refine lv_iconst (v := zI 1) hx hb qd_M_rule_162 rfl ?_
                      refine zz_isub hx hb (↑rc) (by omega) qd_M_rule_163 ?_
                      exact W.iret (v := zI (↑rc)) hx hb hr (fun t9 ht9 hW9 => ⟨⟨↑rc, (0, rc + 1, un lf rc x.toNat, un rg rc y.toNat), rfl, (Or.inr (Or.inr ⟨hGD, by omega, rfl, rfl, rfl, rfl, rfl⟩)), mwB_i (by rw [ht9]; exact hP) (va_K.moved hW9.alike hK) hD⟩, hS.F ht9⟩) hS.2.2 qd_M_rule_164
                    · skip
                      exfalso
                      omega
                  · skip
                    refine lv_iconst (v := zI 2) hx hb qd_M_rule_111 rfl ?_
                    refine lv_goto (tgt := 116) hx hb qd_M_rule_112 (by decide) ?_
                    refine va_put (D := (dC, dI)) (ci := 6) (v := .int (zI (2))) (ty := .int) (C := "TermOrdersModel") (T := qT_M) (N := 17) hx hb hg qi_M qt_M qo_M qn_M hown hK hP hD hS 0 rfl rfl 16 (by decide) (hg _ wd_634) (fun _ h9 => h9) rfl (by decide +kernel) rfl rfl (Nat.le_of_ble_eq_true rfl) qd_M_rule_116 (fun H116_18 L116_18 hP hD hS => ?_)
                    have hP : va_P (dC, dI) qcl [(o, .inr (6, [.int (zI (↑sy)), .ref mA, .ref mR, .ref mW, .int (zI (↑tc)), .ref mC, .ref mS, .int (zI (↑rc)), .ref mL, .ref mT, .ref mH, .ref mY, .ref mE, .ref mG, .ref mB, .ref mO, .int (zI (2))])), (mL, .inl (cI, 8, .inl (zA (eI lf)))), (mT, .inl (cI, 8, .inl (zA (eI rg))))] H116_18 := hP
                    have hD : va_D A [(o, .inr (6, [.int (zI (↑sy)), .ref mA, .ref mR, .ref mW, .int (zI (↑tc)), .ref mC, .ref mS, .int (zI (↑rc)), .ref mL, .ref mT, .ref mH, .ref mY, .ref mE, .ref mG, .ref mB, .ref mO, .int (zI (2))])), (mL, .inl (cI, 8, .inl (zA (eI lf)))), (mT, .inl (cI, 8, .inl (zA (eI rg))))] := hD
                    have hF := fz_keep hF0 hFA hS
                    refine lv_aload_n hx hb qd_M_rule_119 rfl (lv_at hl 2 rfl) ?_
                    refine va_get (D := (dC, dI)) (ci := 6) (v := .int (zI (2))) (C := "TermOrdersModel") (T := qT_M) (N := 17) hx hb hg qi_M hown hK hP 0 rfl rfl 16 (by decide) (hg _ wd_634) (fun _ h9 => h9) rfl qd_M_rule_120 ?_
                    refine zz_if_eq (tgt := 128) hx hb qd_M_rule_123 (by decide) (by omega) (fun h123 => ?_) (fun h123 => ?_)
                    · skip
                      exfalso
                      omega
                    · skip
                      refine lv_iconst (v := zI 0) hx hb qd_M_rule_126 rfl ?_
                      exact W.iret (v := zI 0) hx hb hr (fun t9 ht9 hW9 => ⟨⟨0, (2, rc, lf, rg), rfl, (Or.inr (Or.inl ⟨hGD, by omega, rfl, rfl, rfl, rfl⟩)), mwB_i (by rw [ht9]; exact hP) (va_K.moved hW9.alike hK) hD⟩, hS.F ht9⟩) hS.2.2 qd_M_rule_127
                · skip
                  rw [h38] at h95
                  exact Bool.noConfusion h95
              · skip
                have hyb := okT_hh hsy hoy k (by omega)
                refine lv_aload_n hx hb qd_M_rule_52 rfl (lv_at hl 2 rfl) ?_
                refine va_get (D := (dC, dI)) (ci := 6) (v := .ref mC) (C := "TermOrdersModel") (T := qT_M) (N := 17) hx hb hg qi_M hown hK hP 0 rfl rfl 5 (by decide) (hg _ wd_623) (fun _ h9 => h9) rfl qd_M_rule_53 ?_
                refine lv_bipush (v := zI 16) hx hb qd_M_rule_56 (by decide) ?_
                refine lv_iload_n hx hb qd_M_rule_58 rfl (lv_at hl 4 rfl) ?_
                refine zz_imul hx hb (16 * y) rfl qd_M_rule_59 ?_
                refine lv_iload hx hb qd_M_rule_60 (lv_at hl 0 rfl) ?_
                refine zz_iadd hx hb ((16 * y) + (↑k)) rfl qd_M_rule_62 ?_
                refine zz_iald hx hb hK hF 0 0 rfl rfl (16 * y.toNat + k) (by omega) (by omega) (by omega) qd_M_rule_63 ?_
                refine zz_top (b := TH y.toNat k) (hcy k (by omega)) ?_
                refine lv_istore (lv' := [(5, .int (zI (TH y.toNat k))), (4, .int (zI (↑k))), (3, .int (zI (bI (gd)))), (0, .ref o), (1, .int (zI (x))), (2, .int (zI (y)))]) hx hb qd_M_rule_64 hl (by decide) rfl (fun ls hl => ?_)
                refine lv_iload hx hb qd_M_rule_66 (lv_at hl 0 rfl) ?_
                refine zz_if_ge (tgt := 81) hx hb qd_M_rule_68 (by decide) (by omega) (fun h68 => ?_) (fun h68 => ?_)
                · skip
                  refine lv_iconst (v := zI 1) hx hb qd_M_rule_81 rfl ?_
                  refine lv_goto (tgt := 86) hx hb qd_M_rule_82 (by decide) ?_
                  refine lv_istore_n (lv' := [(3, .int (zI (bI (true)))), (5, .int (zI (TH y.toNat k))), (4, .int (zI (↑k))), (0, .ref o), (1, .int (zI (x))), (2, .int (zI (y)))]) hx hb qd_M_rule_86 rfl hl (by decide) rfl (fun ls hl => ?_)
                  refine lv_iinc (k := 2) (lv' := [(4, .int (zI (↑(k + 1)))), (3, .int (zI (bI (true)))), (5, .int (zI (TH y.toNat k))), (0, .ref o), (1, .int (zI (x))), (2, .int (zI (y)))]) hx hb qd_M_rule_87 hl rfl (zI_inc (v := ↑(k + 1)) (by omega)) (by decide) rfl (fun ls hl => ?_)
                  refine lv_goto (tgt := 37) hx hb qd_M_rule_90 (by decide) ?_
                  have hl := lv_sub (l' := [(4, .int (zI (↑(k + 1)))), (3, .int (zI (bI (true)))), (0, .ref o), (1, .int (zI (x))), (2, .int (zI (y)))]) hl [0, 1, 3, 4, 5] rfl
                  exact ih37 _ (by omega) (k + 1) true (fun z9 => by first | exact Bool.noConfusion z9 | exact ⟨k1, k2, k3, k4, k5, by omega, fun q hq hv => if h8 : q < k then k7 q h8 hv else (by rw [show q = k by omega] at hv ⊢; first | (exfalso; omega) | exact hr75.mp h78)⟩) (fun z9 => by first | exact Bool.noConfusion z9 | exact fun hG => by (have z8 := hr75.mpr (hG.2.2.2.2.2 k (by omega) (by omega))); rw [z8] at h78; exact Bool.noConfusion h78) rfl ls hl
                · skip
                  refine lv_aload_n hx hb qd_M_rule_71 rfl (lv_at hl 3 rfl) ?_
                  refine lv_iload_n hx hb qd_M_rule_72 rfl (lv_at hl 4 rfl) ?_
                  refine zz_top (b := ↑x.toNat) (by omega) ?_
                  refine lv_iload hx hb qd_M_rule_73 (lv_at hl 0 rfl) ?_
                  refine rd_callB (W.runV (As := [.int (zI (↑x.toNat)), .int (zI ((TH y.toNat k)))]) (rest := []) ⟨hx, hb, hml, hown, hg⟩ (c_M_has l dC dI cI cZ cT cJ o mA mR mW mC mS mL mT mH mY mE mG mB mO sy tc rc tw ar rk wt co sz lf rg hi hv ef gr bd ol x.toNat (tn x.toNat) (TH x.toNat) (TH y.toNat k) (by omega) hox.2.1 hzx hcx (okT_hh hsy hox) (by omega)) ⟨callB_of 2 hg (gw_ok (fun _ h => h) wd_721) rfl rfl rfl (hg _ wd_6) (hg _ wd_718) (by decide +kernel) ⟨Nat.le_of_ble_eq_true rfl, Nat.le_of_ble_eq_true rfl⟩, hg _ wd_720, hg _ se_M_has⟩ (rd_preV (va_recv (q0 := 0) hK hP rfl rfl) (pw_c (q := (o, .inr (6, [.int (zI (↑sy)), .ref mA, .ref mR, .ref mW, .int (zI (↑tc)), .ref mC, .ref mS, .int (zI (↑rc)), .ref mL, .ref mT, .ref mH, .ref mY, .ref mE, .ref mG, .ref mB, .ref mO, .int (zI (tw))]))) hP 0 rfl (pw_c (q := (mC, .inl (cI, 2608, .inl (zA co)))) hF 0 rfl (pw_c (q := (mS, .inl (cI, 163, .inl (zA (eI sz))))) hF 1 rfl (pw_nil)))) hK hN) rfl rfl hl.1 rfl (lv_room (Nat.le_of_ble_eq_true rfl)) qd_M_rule_75 ⟨Nat.le_of_ble_eq_true rfl, Nat.le_of_ble_eq_true rfl⟩) (fun r75 hr75 => ?_)
                  refine zz_ifeqB (tgt := 85) hx hb qd_M_rule_78 (by decide) (fun h78 => ?_) (fun h78 => ?_)
                  · skip
                    refine lv_iconst (v := zI 0) hx hb qd_M_rule_85 rfl ?_
                    refine lv_istore_n (lv' := [(3, .int (zI (bI (false)))), (5, .int (zI (TH y.toNat k))), (4, .int (zI (↑k))), (0, .ref o), (1, .int (zI (x))), (2, .int (zI (y)))]) hx hb qd_M_rule_86 rfl hl (by decide) rfl (fun ls hl => ?_)
                    refine lv_iinc (k := 2) (lv' := [(4, .int (zI (↑(k + 1)))), (3, .int (zI (bI (false)))), (5, .int (zI (TH y.toNat k))), (0, .ref o), (1, .int (zI (x))), (2, .int (zI (y)))]) hx hb qd_M_rule_87 hl rfl (zI_inc (v := ↑(k + 1)) (by omega)) (by decide) rfl (fun ls hl => ?_)
                    refine lv_goto (tgt := 37) hx hb qd_M_rule_90 (by decide) ?_
                    have hl := lv_sub (l' := [(4, .int (zI (↑(k + 1)))), (3, .int (zI (bI (false)))), (0, .ref o), (1, .int (zI (x))), (2, .int (zI (y)))]) hl [0, 1, 3, 4, 5] rfl
                    exact ih37 _ (by omega) (k + 1) false (fun z9 => by first | exact Bool.noConfusion z9 | exact ⟨k1, k2, k3, k4, k5, by omega, fun q hq hv => if h8 : q < k then k7 q h8 hv else (by rw [show q = k by omega] at hv ⊢; first | (exfalso; omega) | exact hr75.mp h78)⟩) (fun z9 => by first | exact Bool.noConfusion z9 | exact fun hG => by (have z8 := hr75.mpr (hG.2.2.2.2.2 k (by omega) (by omega))); rw [z8] at h78; exact Bool.noConfusion h78) rfl ls hl
                  · skip
                    refine lv_iconst (v := zI 1) hx hb qd_M_rule_81 rfl ?_
                    refine lv_goto (tgt := 86) hx hb qd_M_rule_82 (by decide) ?_
                    refine lv_istore_n (lv' := [(3, .int (zI (bI (true)))), (5, .int (zI (TH y.toNat k))), (4, .int (zI (↑k))), (0, .ref o), (1, .int (zI (x))), (2, .int (zI (y)))]) hx hb qd_M_rule_86 rfl hl (by decide) rfl (fun ls hl => ?_)
                    refine lv_iinc (k := 2) (lv' := [(4, .int (zI (↑(k + 1)))), (3, .int (zI (bI (true)))), (5, .int (zI (TH y.toNat k))), (0, .ref o), (1, .int (zI (x))), (2, .int (zI (y)))]) hx hb qd_M_rule_87 hl rfl (zI_inc (v := ↑(k + 1)) (by omega)) (by decide) rfl (fun ls hl => ?_)
                    refine lv_goto (tgt := 37) hx hb qd_M_rule_90 (by decide) ?_
                    have hl := lv_sub (l' := [(4, .int (zI (↑(k + 1)))), (3, .int (zI (bI (true)))), (0, .ref o), (1, .int (zI (x))), (2, .int (zI (y)))]) hl [0, 1, 3, 4, 5] rfl
                    exact ih37 _ (by omega) (k + 1) true (fun z9 => by first | exact Bool.noConfusion z9 | exact ⟨k1, k2, k3, k4, k5, by omega, fun q hq hv => if h8 : q < k then k7 q h8 hv else (by rw [show q = k by omega] at hv ⊢; first | (exfalso; omega) | exact hr75.mp h78)⟩) (fun z9 => by first | exact Bool.noConfusion z9 | exact fun hG => by (have z8 := hr75.mpr (hG.2.2.2.2.2 k (by omega) (by omega))); rw [z8] at h78; exact Bool.noConfusion h78) rfl ls hl
        exact L37 _ 0 false (fun z9 => by first | exact Bool.noConfusion z9 | exact ⟨by omega, by omega, by omega, by omega, by omega, by omega, fun q hq => by omega⟩) (fun z9 => by first | exact Bool.noConfusion z9 | exact fun hG => by obtain ⟨g1, g2, g3, g4, g5, _⟩ := hG; omega) rfl ls hl
      · skip
        refine lv_iconst (v := zI 1) hx hb qd_M_rule_28 rfl ?_
        refine lv_goto (tgt := 33) hx hb qd_M_rule_29 (by decide) ?_
        refine lv_istore_n (lv' := [(3, .int (zI (bI (true)))), (0, .ref o), (1, .int (zI (x))), (2, .int (zI (y)))]) hx hb qd_M_rule_33 rfl hl (by decide) rfl (fun ls hl => ?_)
        refine lv_iconst (v := zI 0) hx hb qd_M_rule_34 rfl ?_
        refine lv_istore (lv' := [(4, .int (zI (0))), (3, .int (zI (bI (true)))), (0, .ref o), (1, .int (zI (x))), (2, .int (zI (y)))]) hx hb qd_M_rule_35 hl (by decide) rfl (fun ls hl => ?_)
        have L37 : ∀ (mu37 : Nat) (k : Nat) (gd : Bool), (gd = true → (0 ≤ x ∧ x < tc ∧ 0 ≤ y ∧ y < tc ∧ 0 ≤ TH x.toNat 0 ∧ k ≤ tn y.toNat ∧ ∀ q, q < k → TH y.toNat q < 0 → ∃ k, k < tn x.toNat ∧ TH x.toNat k = TH y.toNat q)) → (gd = false → ¬ (0 ≤ x ∧ x < tc ∧ 0 ≤ y ∧ y < tc ∧ 0 ≤ TH x.toNat 0 ∧ ∀ q, q < tn y.toNat → TH y.toNat q < 0 → ∃ k, k < tn x.toNat ∧ TH x.toNat k = TH y.toNat q)) → tn y.toNat - k = mu37 → ∀ ls : Array Slot, lv_has ls 6 [(4, .int (zI (↑k))), (3, .int (zI (bI (gd)))), (0, .ref o), (1, .int (zI (x))), (2, .int (zI (y)))] → W pg l eg (headSpec qw_M_rule ({ frames := 1, cells := 0, slots := 0, locals := 23 })).room sg mg ([.ref o, .int (zI (x)), .int (zI (y))] : List Value).toArray below meth cg sg.heap [] 0 0 (MQ below (mwI (S := (Int) × (Nat) × (Nat → Nat) × (Nat → Nat)) (fun r uq => (¬ (0 ≤ x ∧ x < tc ∧ 0 ≤ y ∧ y < tc ∧ 0 ≤ TH x.toNat 0 ∧ ∀ q, q < tn y.toNat → TH y.toNat q < 0 → ∃ k, k < tn x.toNat ∧ TH x.toNat k = TH y.toNat q) ∧ uq.1 = 1 ∧ uq.2.1 = rc ∧ uq.2.2.1 = lf ∧ uq.2.2.2 = rg) ∨ ((0 ≤ x ∧ x < tc ∧ 0 ≤ y ∧ y < tc ∧ 0 ≤ TH x.toNat 0 ∧ ∀ q, q < tn y.toNat → TH y.toNat q < 0 → ∃ k, k < tn x.toNat ∧ TH x.toNat k = TH y.toNat q) ∧ rc = 8 ∧ uq.1 = 2 ∧ uq.2.1 = rc ∧ uq.2.2.1 = lf ∧ uq.2.2.2 = rg) ∨ ((0 ≤ x ∧ x < tc ∧ 0 ≤ y ∧ y < tc ∧ 0 ≤ TH x.toNat 0 ∧ ∀ q, q < tn y.toNat → TH y.toNat q < 0 → ∃ k, k < tn x.toNat ∧ TH x.toNat k = TH y.toNat q) ∧ rc < 8 ∧ uq.1 = 0 ∧ uq.2.1 = rc + 1 ∧ uq.2.2.1 = un lf rc x.toNat ∧ uq.2.2.2 = un rg rc y.toNat ∧ r = ↑rc)) (fun uq tq => mwB (dC, dI) qcl (qty cI cZ cT cJ) A [(o, .inr (6, [.int (zI (↑sy)), .ref mA, .ref mR, .ref mW, .int (zI (↑tc)), .ref mC, .ref mS, .int (zI (↑uq.2.1)), .ref mL, .ref mT, .ref mH, .ref mY, .ref mE, .ref mG, .ref mB, .ref mO, .int (zI (uq.1))])), (mL, .inl (cI, 8, .inl (zA (eI uq.2.2.1)))), (mT, .inl (cI, 8, .inl (zA (eI uq.2.2.2))))] tq) A) ([.ref o, .int (zI (x)), .int (zI (y))] : List Value).toArray sg 0 0 A) (F0 mg 37 ls []) := by
          intro mu37
          induction mu37 using Nat.strongRecOn with
          | _ mu37 ih37 =>
            intro k gd hI1 hI2 hmu37 ls hl
            refine lv_iload_n hx hb qd_M_rule_37 rfl (lv_at hl 1 rfl) ?_
            refine zz_ifeqB (tgt := 93) hx hb qd_M_rule_38 (by decide) (fun h38 => ?_) (fun h38 => ?_)
            · skip
              refine lv_aload_n hx hb qd_M_rule_93 rfl (lv_at hl 2 rfl) ?_
              refine lv_iload_n hx hb qd_M_rule_94 rfl (lv_at hl 1 rfl) ?_
              refine zz_ifneB (tgt := 102) hx hb qd_M_rule_95 (by decide) (fun h95 => ?_) (fun h95 => ?_)
              · skip
                rw [h38] at h95
                exact Bool.noConfusion h95
              · skip
                refine lv_iconst (v := zI 1) hx hb qd_M_rule_98 rfl ?_
                refine lv_goto (tgt := 116) hx hb qd_M_rule_99 (by decide) ?_
                refine va_put (D := (dC, dI)) (ci := 6) (v := .int (zI (1))) (ty := .int) (C := "TermOrdersModel") (T := qT_M) (N := 17) hx hb hg qi_M qt_M qo_M qn_M hown hK hP hD hS 0 rfl rfl 16 (by decide) (hg _ wd_634) (fun _ h9 => h9) rfl (by decide +kernel) rfl rfl (Nat.le_of_ble_eq_true rfl) qd_M_rule_116 (fun H116_19 L116_19 hP hD hS => ?_)
                have hP : va_P (dC, dI) qcl [(o, .inr (6, [.int (zI (↑sy)), .ref mA, .ref mR, .ref mW, .int (zI (↑tc)), .ref mC, .ref mS, .int (zI (↑rc)), .ref mL, .ref mT, .ref mH, .ref mY, .ref mE, .ref mG, .ref mB, .ref mO, .int (zI (1))])), (mL, .inl (cI, 8, .inl (zA (eI lf)))), (mT, .inl (cI, 8, .inl (zA (eI rg))))] H116_19 := hP
                have hD : va_D A [(o, .inr (6, [.int (zI (↑sy)), .ref mA, .ref mR, .ref mW, .int (zI (↑tc)), .ref mC, .ref mS, .int (zI (↑rc)), .ref mL, .ref mT, .ref mH, .ref mY, .ref mE, .ref mG, .ref mB, .ref mO, .int (zI (1))])), (mL, .inl (cI, 8, .inl (zA (eI lf)))), (mT, .inl (cI, 8, .inl (zA (eI rg))))] := hD
                have hF := fz_keep hF0 hFA hS
                refine lv_aload_n hx hb qd_M_rule_119 rfl (lv_at hl 2 rfl) ?_
                refine va_get (D := (dC, dI)) (ci := 6) (v := .int (zI (1))) (C := "TermOrdersModel") (T := qT_M) (N := 17) hx hb hg qi_M hown hK hP 0 rfl rfl 16 (by decide) (hg _ wd_634) (fun _ h9 => h9) rfl qd_M_rule_120 ?_
                refine zz_if_eq (tgt := 128) hx hb qd_M_rule_123 (by decide) (by omega) (fun h123 => ?_) (fun h123 => ?_)
                · skip
                  exfalso
                  omega
                · skip
                  refine lv_iconst (v := zI 0) hx hb qd_M_rule_126 rfl ?_
                  exact W.iret (v := zI 0) hx hb hr (fun t9 ht9 hW9 => ⟨⟨0, (1, rc, lf, rg), rfl, (Or.inl ⟨hI2 h38, rfl, rfl, rfl, rfl⟩), mwB_i (by rw [ht9]; exact hP) (va_K.moved hW9.alike hK) hD⟩, hS.F ht9⟩) hS.2.2 qd_M_rule_127
            · skip
              obtain ⟨k1, k2, k3, k4, k5, k6, k7⟩ := hI1 h38
              obtain ⟨hox, hzx, hcx⟩ := htp x.toNat (by omega)
              obtain ⟨hoy, hzy, hcy⟩ := htp y.toNat (by omega)
              have h16y := hoy.2.1
              refine lv_iload hx hb qd_M_rule_41 (lv_at hl 0 rfl) ?_
              refine lv_aload_n hx hb qd_M_rule_43 rfl (lv_at hl 2 rfl) ?_
              refine va_get (D := (dC, dI)) (ci := 6) (v := .ref mS) (C := "TermOrdersModel") (T := qT_M) (N := 17) hx hb hg qi_M hown hK hP 0 rfl rfl 6 (by decide) (hg _ wd_624) (fun _ h9 => h9) rfl qd_M_rule_44 ?_
              refine lv_iload_n hx hb qd_M_rule_47 rfl (lv_at hl 4 rfl) ?_
              refine zz_eald hx hb hK hF 1 0 rfl rfl y.toNat (by omega) (by omega) (by omega) qd_M_rule_48 ?_
              refine zz_top (b := ↑(tn y.toNat)) (by rw [hzy]) ?_
              refine zz_icmp_ge (tgt := 93) hx hb qd_M_rule_49 (by decide) (by omega) (by omega) (fun h49 => ?_) (fun h49 => ?_)
              · skip
                have hGD : 0 ≤ x ∧ x < tc ∧ 0 ≤ y ∧ y < tc ∧ 0 ≤ TH x.toNat 0 ∧ ∀ q, q < tn y.toNat → TH y.toNat q < 0 → ∃ k, k < tn x.toNat ∧ TH x.toNat k = TH y.toNat q := ⟨k1, k2, k3, k4, k5, fun q hq => k7 q (by omega)⟩
                refine lv_aload_n hx hb qd_M_rule_93 rfl (lv_at hl 2 rfl) ?_
                refine lv_iload_n hx hb qd_M_rule_94 rfl (lv_at hl 1 rfl) ?_
                refine zz_ifneB (tgt := 102) hx hb qd_M_rule_95 (by decide) (fun h95 => ?_) (fun h95 => ?_)
                · skip
                  refine lv_aload_n hx hb qd_M_rule_102 rfl (lv_at hl 2 rfl) ?_
                  refine va_get (D := (dC, dI)) (ci := 6) (v := .int (zI (↑rc))) (C := "TermOrdersModel") (T := qT_M) (N := 17) hx hb hg qi_M hown hK hP 0 rfl rfl 7 (by decide) (hg _ wd_625) (fun _ h9 => h9) rfl qd_M_rule_103 ?_
                  refine lv_bipush (v := zI 8) hx hb qd_M_rule_106 (by decide) ?_
                  refine zz_icmp_ne (tgt := 115) hx hb qd_M_rule_108 (by decide) (by omega) (by omega) (fun h108 => ?_) (fun h108 => ?_)
                  · skip
                    refine lv_iconst (v := zI 0) hx hb qd_M_rule_115 rfl ?_
                    refine va_put (D := (dC, dI)) (ci := 6) (v := .int (zI (0))) (ty := .int) (C := "TermOrdersModel") (T := qT_M) (N := 17) hx hb hg qi_M qt_M qo_M qn_M hown hK hP hD hS 0 rfl rfl 16 (by decide) (hg _ wd_634) (fun _ h9 => h9) rfl (by decide +kernel) rfl rfl (Nat.le_of_ble_eq_true rfl) qd_M_rule_116 (fun H116_20 L116_20 hP hD hS => ?_)
                    have hP : va_P (dC, dI) qcl [(o, .inr (6, [.int (zI (↑sy)), .ref mA, .ref mR, .ref mW, .int (zI (↑tc)), .ref mC, .ref mS, .int (zI (↑rc)), .ref mL, .ref mT, .ref mH, .ref mY, .ref mE, .ref mG, .ref mB, .ref mO, .int (zI (0))])), (mL, .inl (cI, 8, .inl (zA (eI lf)))), (mT, .inl (cI, 8, .inl (zA (eI rg))))] H116_20 := hP
                    have hD : va_D A [(o, .inr (6, [.int (zI (↑sy)), .ref mA, .ref mR, .ref mW, .int (zI (↑tc)), .ref mC, .ref mS, .int (zI (↑rc)), .ref mL, .ref mT, .ref mH, .ref mY, .ref mE, .ref mG, .ref mB, .ref mO, .int (zI (0))])), (mL, .inl (cI, 8, .inl (zA (eI lf)))), (mT, .inl (cI, 8, .inl (zA (eI rg))))] := hD
                    have hF := fz_keep hF0 hFA hS
                    refine lv_aload_n hx hb qd_M_rule_119 rfl (lv_at hl 2 rfl) ?_
                    refine va_get (D := (dC, dI)) (ci := 6) (v := .int (zI (0))) (C := "TermOrdersModel") (T := qT_M) (N := 17) hx hb hg qi_M hown hK hP 0 rfl rfl 16 (by decide) (hg _ wd_634) (fun _ h9 => h9) rfl qd_M_rule_120 ?_
                    refine zz_if_eq (tgt := 128) hx hb qd_M_rule_123 (by decide) (by omega) (fun h123 => ?_) (fun h123 => ?_)
                    · skip
                      refine lv_aload_n hx hb qd_M_rule_128 rfl (lv_at hl 2 rfl) ?_
                      refine va_get (D := (dC, dI)) (ci := 6) (v := .ref mL) (C := "TermOrdersModel") (T := qT_M) (N := 17) hx hb hg qi_M hown hK hP 0 rfl rfl 8 (by decide) (hg _ wd_626) (fun _ h9 => h9) rfl qd_M_rule_129 ?_
                      refine lv_aload_n hx hb qd_M_rule_132 rfl (lv_at hl 2 rfl) ?_
                      refine va_get (D := (dC, dI)) (ci := 6) (v := .int (zI (↑rc))) (C := "TermOrdersModel") (T := qT_M) (N := 17) hx hb hg qi_M hown hK hP 0 rfl rfl 7 (by decide) (hg _ wd_625) (fun _ h9 => h9) rfl qd_M_rule_133 ?_
                      refine lv_iload_n hx hb qd_M_rule_136 rfl (lv_at hl 3 rfl) ?_
                      refine zz_east hx hb hK hP hD hS 1 0 rfl rfl rc rfl (by omega) (by omega) x.toNat (by omega) qd_M_rule_137 (fun H137_21 L137_21 hP hD hS => ?_)
                      have hP : va_P (dC, dI) qcl [(o, .inr (6, [.int (zI (↑sy)), .ref mA, .ref mR, .ref mW, .int (zI (↑tc)), .ref mC, .ref mS, .int (zI (↑rc)), .ref mL, .ref mT, .ref mH, .ref mY, .ref mE, .ref mG, .ref mB, .ref mO, .int (zI (0))])), (mL, .inl (cI, 8, .inl (zA (eI (un lf rc x.toNat))))), (mT, .inl (cI, 8, .inl (zA (eI rg))))] H137_21 := hP
                      have hD : va_D A [(o, .inr (6, [.int (zI (↑sy)), .ref mA, .ref mR, .ref mW, .int (zI (↑tc)), .ref mC, .ref mS, .int (zI (↑rc)), .ref mL, .ref mT, .ref mH, .ref mY, .ref mE, .ref mG, .ref mB, .ref mO, .int (zI (0))])), (mL, .inl (cI, 8, .inl (zA (eI (un lf rc x.toNat))))), (mT, .inl (cI, 8, .inl (zA (eI rg))))] := hD
                      have hF := fz_keep hF0 hFA hS
                      refine lv_aload_n hx hb qd_M_rule_138 rfl (lv_at hl 2 rfl) ?_
                      refine va_get (D := (dC, dI)) (ci := 6) (v := .ref mT) (C := "TermOrdersModel") (T := qT_M) (N := 17) hx hb hg qi_M hown hK hP 0 rfl rfl 9 (by decide) (hg _ wd_627) (fun _ h9 => h9) rfl qd_M_rule_139 ?_
                      refine lv_aload_n hx hb qd_M_rule_142 rfl (lv_at hl 2 rfl) ?_
                      refine va_get (D := (dC, dI)) (ci := 6) (v := .int (zI (↑rc))) (C := "TermOrdersModel") (T := qT_M) (N := 17) hx hb hg qi_M hown hK hP 0 rfl rfl 7 (by decide) (hg _ wd_625) (fun _ h9 => h9) rfl qd_M_rule_143 ?_
                      refine lv_iload_n hx hb qd_M_rule_146 rfl (lv_at hl 4 rfl) ?_
                      refine zz_east hx hb hK hP hD hS 2 0 rfl rfl rc rfl (by omega) (by omega) y.toNat (by omega) qd_M_rule_147 (fun H147_22 L147_22 hP hD hS => ?_)
                      have hP : va_P (dC, dI) qcl [(o, .inr (6, [.int (zI (↑sy)), .ref mA, .ref mR, .ref mW, .int (zI (↑tc)), .ref mC, .ref mS, .int (zI (↑rc)), .ref mL, .ref mT, .ref mH, .ref mY, .ref mE, .ref mG, .ref mB, .ref mO, .int (zI (0))])), (mL, .inl (cI, 8, .inl (zA (eI (un lf rc x.toNat))))), (mT, .inl (cI, 8, .inl (zA (eI (un rg rc y.toNat)))))] H147_22 := hP
                      have hD : va_D A [(o, .inr (6, [.int (zI (↑sy)), .ref mA, .ref mR, .ref mW, .int (zI (↑tc)), .ref mC, .ref mS, .int (zI (↑rc)), .ref mL, .ref mT, .ref mH, .ref mY, .ref mE, .ref mG, .ref mB, .ref mO, .int (zI (0))])), (mL, .inl (cI, 8, .inl (zA (eI (un lf rc x.toNat))))), (mT, .inl (cI, 8, .inl (zA (eI (un rg rc y.toNat)))))] := hD
                      have hF := fz_keep hF0 hFA hS
                      refine lv_aload_n hx hb qd_M_rule_148 rfl (lv_at hl 2 rfl) ?_
                      refine lv_dup hx hb qd_M_rule_149 rfl ?_
                      refine va_get (D := (dC, dI)) (ci := 6) (v := .int (zI (↑rc))) (C := "TermOrdersModel") (T := qT_M) (N := 17) hx hb hg qi_M hown hK hP 0 rfl rfl 7 (by decide) (hg _ wd_625) (fun _ h9 => h9) rfl qd_M_rule_150 ?_
                      refine lv_iconst (v := zI 1) hx hb qd_M_rule_153 rfl ?_
                      refine zz_iadd hx hb (↑(rc + 1)) (by omega) qd_M_rule_154 ?_
                      refine va_put (D := (dC, dI)) (ci := 6) (v := .int (zI (↑(rc + 1)))) (ty := .int) (C := "TermOrdersModel") (T := qT_M) (N := 17) hx hb hg qi_M qt_M qo_M qn_M hown hK hP hD hS 0 rfl rfl 7 (by decide) (hg _ wd_625) (fun _ h9 => h9) rfl (by decide +kernel) rfl rfl (Nat.le_of_ble_eq_true rfl) qd_M_rule_155 (fun H155_23 L155_23 hP hD hS => ?_)
                      have hP : va_P (dC, dI) qcl [(o, .inr (6, [.int (zI (↑sy)), .ref mA, .ref mR, .ref mW, .int (zI (↑tc)), .ref mC, .ref mS, .int (zI (↑(rc + 1))), .ref mL, .ref mT, .ref mH, .ref mY, .ref mE, .ref mG, .ref mB, .ref mO, .int (zI (0))])), (mL, .inl (cI, 8, .inl (zA (eI (un lf rc x.toNat))))), (mT, .inl (cI, 8, .inl (zA (eI (un rg rc y.toNat)))))] H155_23 := hP
                      have hD : va_D A [(o, .inr (6, [.int (zI (↑sy)), .ref mA, .ref mR, .ref mW, .int (zI (↑tc)), .ref mC, .ref mS, .int (zI (↑(rc + 1))), .ref mL, .ref mT, .ref mH, .ref mY, .ref mE, .ref mG, .ref mB, .ref mO, .int (zI (0))])), (mL, .inl (cI, 8, .inl (zA (eI (un lf rc x.toNat))))), (mT, .inl (cI, 8, .inl (zA (eI (un rg rc y.toNat)))))] := hD
                      have hF := fz_keep hF0 hFA hS
                      refine lv_aload_n hx hb qd_M_rule_158 rfl (lv_at hl 2 rfl) ?_
                      refine va_get (D := (dC, dI)) (ci := 6) (v := .int (zI (↑(rc + 1)))) (C := "TermOrdersModel") (T := qT_M) (N := 17) hx hb hg qi_M hown hK hP 0 rfl rfl 7 (by decide) (hg _ wd_625) (fun _ h9 => h9) rfl qd_M_rule_159 ?_
                      refine lv_iconst (v := zI 1) hx hb qd_M_rule_162 rfl ?_
                      refine zz_isub hx hb (↑rc) (by omega) qd_M_rule_163 ?_
                      exact W.iret (v := zI (↑rc)) hx hb hr (fun t9 ht9 hW9 => ⟨⟨↑rc, (0, rc + 1, un lf rc x.toNat, un rg rc y.toNat), rfl, (Or.inr (Or.inr ⟨hGD, by omega, rfl, rfl, rfl, rfl, rfl⟩)), mwB_i (by rw [ht9]; exact hP) (va_K.moved hW9.alike hK) hD⟩, hS.F ht9⟩) hS.2.2 qd_M_rule_164
                    · skip
                      exfalso
                      omega
                  · skip
                    refine lv_iconst (v := zI 2) hx hb qd_M_rule_111 rfl ?_
                    refine lv_goto (tgt := 116) hx hb qd_M_rule_112 (by decide) ?_
                    refine va_put (D := (dC, dI)) (ci := 6) (v := .int (zI (2))) (ty := .int) (C := "TermOrdersModel") (T := qT_M) (N := 17) hx hb hg qi_M qt_M qo_M qn_M hown hK hP hD hS 0 rfl rfl 16 (by decide) (hg _ wd_634) (fun _ h9 => h9) rfl (by decide +kernel) rfl rfl (Nat.le_of_ble_eq_true rfl) qd_M_rule_116 (fun H116_24 L116_24 hP hD hS => ?_)
                    have hP : va_P (dC, dI) qcl [(o, .inr (6, [.int (zI (↑sy)), .ref mA, .ref mR, .ref mW, .int (zI (↑tc)), .ref mC, .ref mS, .int (zI (↑rc)), .ref mL, .ref mT, .ref mH, .ref mY, .ref mE, .ref mG, .ref mB, .ref mO, .int (zI (2))])), (mL, .inl (cI, 8, .inl (zA (eI lf)))), (mT, .inl (cI, 8, .inl (zA (eI rg))))] H116_24 := hP
                    have hD : va_D A [(o, .inr (6, [.int (zI (↑sy)), .ref mA, .ref mR, .ref mW, .int (zI (↑tc)), .ref mC, .ref mS, .int (zI (↑rc)), .ref mL, .ref mT, .ref mH, .ref mY, .ref mE, .ref mG, .ref mB, .ref mO, .int (zI (2))])), (mL, .inl (cI, 8, .inl (zA (eI lf)))), (mT, .inl (cI, 8, .inl (zA (eI rg))))] := hD
                    have hF := fz_keep hF0 hFA hS
                    refine lv_aload_n hx hb qd_M_rule_119 rfl (lv_at hl 2 rfl) ?_
                    refine va_get (D := (dC, dI)) (ci := 6) (v := .int (zI (2))) (C := "TermOrdersModel") (T := qT_M) (N := 17) hx hb hg qi_M hown hK hP 0 rfl rfl 16 (by decide) (hg _ wd_634) (fun _ h9 => h9) rfl qd_M_rule_120 ?_
                    refine zz_if_eq (tgt := 128) hx hb qd_M_rule_123 (by decide) (by omega) (fun h123 => ?_) (fun h123 => ?_)
                    · skip
                      exfalso
                      omega
                    · skip
                      refine lv_iconst (v := zI 0) hx hb qd_M_rule_126 rfl ?_
                      exact W.iret (v := zI 0) hx hb hr (fun t9 ht9 hW9 => ⟨⟨0, (2, rc, lf, rg), rfl, (Or.inr (Or.inl ⟨hGD, by omega, rfl, rfl, rfl, rfl⟩)), mwB_i (by rw [ht9]; exact hP) (va_K.moved hW9.alike hK) hD⟩, hS.F ht9⟩) hS.2.2 qd_M_rule_127
                · skip
                  rw [h38] at h95
                  exact Bool.noConfusion h95
              · skip
                have hyb := okT_hh hsy hoy k (by omega)
                refine lv_aload_n hx hb qd_M_rule_52 rfl (lv_at hl 2 rfl) ?_
                refine va_get (D := (dC, dI)) (ci := 6) (v := .ref mC) (C := "TermOrdersModel") (T := qT_M) (N := 17) hx hb hg qi_M hown hK hP 0 rfl rfl 5 (by decide) (hg _ wd_623) (fun _ h9 => h9) rfl qd_M_rule_53 ?_
                refine lv_bipush (v := zI 16) hx hb qd_M_rule_56 (by decide) ?_
                refine lv_iload_n hx hb qd_M_rule_58 rfl (lv_at hl 4 rfl) ?_
                refine zz_imul hx hb (16 * y) rfl qd_M_rule_59 ?_
                refine lv_iload hx hb qd_M_rule_60 (lv_at hl 0 rfl) ?_
                refine zz_iadd hx hb ((16 * y) + (↑k)) rfl qd_M_rule_62 ?_
                refine zz_iald hx hb hK hF 0 0 rfl rfl (16 * y.toNat + k) (by omega) (by omega) (by omega) qd_M_rule_63 ?_
                refine zz_top (b := TH y.toNat k) (hcy k (by omega)) ?_
                refine lv_istore (lv' := [(5, .int (zI (TH y.toNat k))), (4, .int (zI (↑k))), (3, .int (zI (bI (gd)))), (0, .ref o), (1, .int (zI (x))), (2, .int (zI (y)))]) hx hb qd_M_rule_64 hl (by decide) rfl (fun ls hl => ?_)
                refine lv_iload hx hb qd_M_rule_66 (lv_at hl 0 rfl) ?_
                refine zz_if_ge (tgt := 81) hx hb qd_M_rule_68 (by decide) (by omega) (fun h68 => ?_) (fun h68 => ?_)
                · skip
                  refine lv_iconst (v := zI 1) hx hb qd_M_rule_81 rfl ?_
                  refine lv_goto (tgt := 86) hx hb qd_M_rule_82 (by decide) ?_
                  refine lv_istore_n (lv' := [(3, .int (zI (bI (true)))), (5, .int (zI (TH y.toNat k))), (4, .int (zI (↑k))), (0, .ref o), (1, .int (zI (x))), (2, .int (zI (y)))]) hx hb qd_M_rule_86 rfl hl (by decide) rfl (fun ls hl => ?_)
                  refine lv_iinc (k := 2) (lv' := [(4, .int (zI (↑(k + 1)))), (3, .int (zI (bI (true)))), (5, .int (zI (TH y.toNat k))), (0, .ref o), (1, .int (zI (x))), (2, .int (zI (y)))]) hx hb qd_M_rule_87 hl rfl (zI_inc (v := ↑(k + 1)) (by omega)) (by decide) rfl (fun ls hl => ?_)
                  refine lv_goto (tgt := 37) hx hb qd_M_rule_90 (by decide) ?_
                  have hl := lv_sub (l' := [(4, .int (zI (↑(k + 1)))), (3, .int (zI (bI (true)))), (0, .ref o), (1, .int (zI (x))), (2, .int (zI (y)))]) hl [0, 1, 3, 4, 5] rfl
                  exact ih37 _ (by omega) (k + 1) true (fun z9 => by first | exact Bool.noConfusion z9 | exact ⟨k1, k2, k3, k4, k5, by omega, fun q hq hv => if h8 : q < k then k7 q h8 hv else (by rw [show q = k by omega] at hv ⊢; first | (exfalso; omega) | exact hr75.mp h78)⟩) (fun z9 => by first | exact Bool.noConfusion z9 | exact fun hG => by (have z8 := hr75.mpr (hG.2.2.2.2.2 k (by omega) (by omega))); rw [z8] at h78; exact Bool.noConfusion h78) rfl ls hl
                · skip
                  refine lv_aload_n hx hb qd_M_rule_71 rfl (lv_at hl 3 rfl) ?_
                  refine lv_iload_n hx hb qd_M_rule_72 rfl (lv_at hl 4 rfl) ?_
                  refine zz_top (b := ↑x.toNat) (by omega) ?_
                  refine lv_iload hx hb qd_M_rule_73 (lv_at hl 0 rfl) ?_
                  refine rd_callB (W.runV (As := [.int (zI (↑x.toNat)), .int (zI ((TH y.toNat k)))]) (rest := []) ⟨hx, hb, hml, hown, hg⟩ (c_M_has l dC dI cI cZ cT cJ o mA mR mW mC mS mL mT mH mY mE mG mB mO sy tc rc tw ar rk wt co sz lf rg hi hv ef gr bd ol x.toNat (tn x.toNat) (TH x.toNat) (TH y.toNat k) (by omega) hox.2.1 hzx hcx (okT_hh hsy hox) (by omega)) ⟨callB_of 2 hg (gw_ok (fun _ h => h) wd_721) rfl rfl rfl (hg _ wd_6) (hg _ wd_718) (by decide +kernel) ⟨Nat.le_of_ble_eq_true rfl, Nat.le_of_ble_eq_true rfl⟩, hg _ wd_720, hg _ se_M_has⟩ (rd_preV (va_recv (q0 := 0) hK hP rfl rfl) (pw_c (q := (o, .inr (6, [.int (zI (↑sy)), .ref mA, .ref mR, .ref mW, .int (zI (↑tc)), .ref mC, .ref mS, .int (zI (↑rc)), .ref mL, .ref mT, .ref mH, .ref mY, .ref mE, .ref mG, .ref mB, .ref mO, .int (zI (tw))]))) hP 0 rfl (pw_c (q := (mC, .inl (cI, 2608, .inl (zA co)))) hF 0 rfl (pw_c (q := (mS, .inl (cI, 163, .inl (zA (eI sz))))) hF 1 rfl (pw_nil)))) hK hN) rfl rfl hl.1 rfl (lv_room (Nat.le_of_ble_eq_true rfl)) qd_M_rule_75 ⟨Nat.le_of_ble_eq_true rfl, Nat.le_of_ble_eq_true rfl⟩) (fun r75 hr75 => ?_)
                  refine zz_ifeqB (tgt := 85) hx hb qd_M_rule_78 (by decide) (fun h78 => ?_) (fun h78 => ?_)
                  · skip
                    refine lv_iconst (v := zI 0) hx hb qd_M_rule_85 rfl ?_
                    refine lv_istore_n (lv' := [(3, .int (zI (bI (false)))), (5, .int (zI (TH y.toNat k))), (4, .int (zI (↑k))), (0, .ref o), (1, .int (zI (x))), (2, .int (zI (y)))]) hx hb qd_M_rule_86 rfl hl (by decide) rfl (fun ls hl => ?_)
                    refine lv_iinc (k := 2) (lv' := [(4, .int (zI (↑(k + 1)))), (3, .int (zI (bI (false)))), (5, .int (zI (TH y.toNat k))), (0, .ref o), (1, .int (zI (x))), (2, .int (zI (y)))]) hx hb qd_M_rule_87 hl rfl (zI_inc (v := ↑(k + 1)) (by omega)) (by decide) rfl (fun ls hl => ?_)
                    refine lv_goto (tgt := 37) hx hb qd_M_rule_90 (by decide) ?_
                    have hl := lv_sub (l' := [(4, .int (zI (↑(k + 1)))), (3, .int (zI (bI (false)))), (0, .ref o), (1, .int (zI (x))), (2, .int (zI (y)))]) hl [0, 1, 3, 4, 5] rfl
                    exact ih37 _ (by omega) (k + 1) false (fun z9 => by first | exact Bool.noConfusion z9 | exact ⟨k1, k2, k3, k4, k5, by omega, fun q hq hv => if h8 : q < k then k7 q h8 hv else (by rw [show q = k by omega] at hv ⊢; first | (exfalso; omega) | exact hr75.mp h78)⟩) (fun z9 => by first | exact Bool.noConfusion z9 | exact fun hG => by (have z8 := hr75.mpr (hG.2.2.2.2.2 k (by omega) (by omega))); rw [z8] at h78; exact Bool.noConfusion h78) rfl ls hl
                  · skip
                    refine lv_iconst (v := zI 1) hx hb qd_M_rule_81 rfl ?_
                    refine lv_goto (tgt := 86) hx hb qd_M_rule_82 (by decide) ?_
                    refine lv_istore_n (lv' := [(3, .int (zI (bI (true)))), (5, .int (zI (TH y.toNat k))), (4, .int (zI (↑k))), (0, .ref o), (1, .int (zI (x))), (2, .int (zI (y)))]) hx hb qd_M_rule_86 rfl hl (by decide) rfl (fun ls hl => ?_)
                    refine lv_iinc (k := 2) (lv' := [(4, .int (zI (↑(k + 1)))), (3, .int (zI (bI (true)))), (5, .int (zI (TH y.toNat k))), (0, .ref o), (1, .int (zI (x))), (2, .int (zI (y)))]) hx hb qd_M_rule_87 hl rfl (zI_inc (v := ↑(k + 1)) (by omega)) (by decide) rfl (fun ls hl => ?_)
                    refine lv_goto (tgt := 37) hx hb qd_M_rule_90 (by decide) ?_
                    have hl := lv_sub (l' := [(4, .int (zI (↑(k + 1)))), (3, .int (zI (bI (true)))), (0, .ref o), (1, .int (zI (x))), (2, .int (zI (y)))]) hl [0, 1, 3, 4, 5] rfl
                    exact ih37 _ (by omega) (k + 1) true (fun z9 => by first | exact Bool.noConfusion z9 | exact ⟨k1, k2, k3, k4, k5, by omega, fun q hq hv => if h8 : q < k then k7 q h8 hv else (by rw [show q = k by omega] at hv ⊢; first | (exfalso; omega) | exact hr75.mp h78)⟩) (fun z9 => by first | exact Bool.noConfusion z9 | exact fun hG => by (have z8 := hr75.mpr (hG.2.2.2.2.2 k (by omega) (by omega))); rw [z8] at h78; exact Bool.noConfusion h78) rfl ls hl
        exact L37 _ 0 true (fun z9 => by first | exact Bool.noConfusion z9 | exact ⟨by omega, by omega, by omega, by omega, by omega, by omega, fun q hq => by omega⟩) (fun z9 => by first | exact Bool.noConfusion z9 | exact fun hG => by obtain ⟨g1, g2, g3, g4, g5, _⟩ := hG; omega) rfl ls hl
set_option maxHeartbeats 4000000 in
set_option maxRecDepth 100000 in
theorem c_M_term (l : Launch) (dC : Nat → ClassId) (dI : Nat → Nat → Nat) (cI cZ cT cJ : ClassId) (o mA mR mW mC mS mL mT mH mY mE mG mB mO sy tc rc : Nat) (tw : Int) (ar rk wt co : Nat → Int) (sz lf rg : Nat → Nat) (hi hv : Nat → Int) (ef : Nat → Nat) (gr : Nat → Bool) (bd ol : Nat → Int) (tn : Nat → Nat) (TH TM : Nat → Nat → Int) (TE : Nat → Nat → Nat) (HT : Nat → Nat → Int) (xs x1 x2 x3 : Int) (tm : Nat → Int) (te : Nat → Nat) (t : Nat → Int) (zh : Nat) (har : ∀ q, q < 5 → 0 ≤ ar q ∧ ar q ≤ 3) (hsy : sy ≤ 5) (htc : tc ≤ 160) (htp : ∀ t, t < tc → okT sy ar (tn t) (TH t) (TM t) (TE t) (HT t) ∧ sz t = tn t ∧ ∀ q, q < tn t → co (16 * t + q) = TH t q) (h32xs : -2147483648 ≤ xs ∧ xs < 2147483648) (h32x1 : -2147483648 ≤ x1 ∧ x1 < 2147483648) (h32x2 : -2147483648 ≤ x2 ∧ x2 < 2147483648) (h32x3 : -2147483648 ≤ x3 ∧ x3 < 2147483648) (hnt : ((0 ≤ xs ∧ xs < sy) ∧ ∀ j, j < (ar xs.toNat).toNat → 0 ≤ prtA x1 x2 x3 j ∧ prtA x1 x2 x3 j < tc) → newT sy ar (tR TH tn xs x1 x2 x3 ((ar xs.toNat).toNat)) tm te t) : Met l qy_M_term qw_M_term ({ frames := 4, cells := 0, slots := 0, locals := 94 }) (mwP (dC, dI) qcl (qty cI cZ cT cJ) nwL [(o, .inr (6, [.int (zI (↑sy)), .ref mA, .ref mR, .ref mW, .int (zI (↑tc)), .ref mC, .ref mS, .int (zI (↑rc)), .ref mL, .ref mT, .ref mH, .ref mY, .ref mE, .ref mG, .ref mB, .ref mO, .int (zI (tw))])), (mC, .inl (cI, 2608, .inl (zA co))), (mS, .inl (cI, 163, .inl (zA (eI sz)))), (mH, .inl (cI, 16, .inl (zA hi)))] [(mA, .inl (cI, 5, .inl (zA ar)))] zh [.ref o, .int (zI (xs)), .int (zI (x1)), .int (zI (x2)), .int (zI (x3))]) (mwI (S := (Int) × (Nat) × (Nat → Int) × (Nat → Nat) × (Nat → Int)) (fun r uq => (¬ ((0 ≤ xs ∧ xs < sy) ∧ ∀ j, j < (ar xs.toNat).toNat → 0 ≤ prtA x1 x2 x3 j ∧ prtA x1 x2 x3 j < tc) ∧ uq.1 = 1 ∧ uq.2.1 = tc ∧ uq.2.2.2.1 = sz ∧ ∀ j, j < 2560 → uq.2.2.1 j = co j) ∨ (((0 ≤ xs ∧ xs < sy) ∧ ∀ j, j < (ar xs.toNat).toNat → 0 ≤ prtA x1 x2 x3 j ∧ prtA x1 x2 x3 j < tc) ∧ kpM (tR TH tn xs x1 x2 x3 ((ar xs.toNat).toNat)) (t 0) tc co sz uq.1 uq.2.1 uq.2.2.1 uq.2.2.2.1 r)) (fun uq tq => mwB (dC, dI) qcl (qty cI cZ cT cJ) (va_A [(o, .inr (6, [.int (zI (↑sy)), .ref mA, .ref mR, .ref mW, .int (zI (↑tc)), .ref mC, .ref mS, .int (zI (↑rc)), .ref mL, .ref mT, .ref mH, .ref mY, .ref mE, .ref mG, .ref mB, .ref mO, .int (zI (tw))])), (mC, .inl (cI, 2608, .inl (zA co))), (mS, .inl (cI, 163, .inl (zA (eI sz)))), (mH, .inl (cI, 16, .inl (zA hi)))] zh) [(o, .inr (6, [.int (zI (↑sy)), .ref mA, .ref mR, .ref mW, .int (zI (↑uq.2.1)), .ref mC, .ref mS, .int (zI (↑rc)), .ref mL, .ref mT, .ref mH, .ref mY, .ref mE, .ref mG, .ref mB, .ref mO, .int (zI (uq.1))])), (mC, .inl (cI, 2608, .inl (zA uq.2.2.1))), (mS, .inl (cI, 163, .inl (zA (eI uq.2.2.2.1)))), (mH, .inl (cI, 16, .inl (zA uq.2.2.2.2)))] tq) (va_A [(o, .inr (6, [.int (zI (↑sy)), .ref mA, .ref mR, .ref mW, .int (zI (↑tc)), .ref mC, .ref mS, .int (zI (↑rc)), .ref mL, .ref mT, .ref mH, .ref mY, .ref mE, .ref mG, .ref mB, .ref mO, .int (zI (tw))])), (mC, .inl (cI, 2608, .inl (zA co))), (mS, .inl (cI, 163, .inl (zA (eI sz)))), (mH, .inl (cI, 16, .inl (zA hi)))] zh)) 0 0 (va_A [(o, .inr (6, [.int (zI (↑sy)), .ref mA, .ref mR, .ref mW, .int (zI (↑tc)), .ref mC, .ref mS, .int (zI (↑rc)), .ref mL, .ref mT, .ref mH, .ref mY, .ref mE, .ref mG, .ref mB, .ref mO, .int (zI (tw))])), (mC, .inl (cI, 2608, .inl (zA co))), (mS, .inl (cI, 163, .inl (zA (eI sz)))), (mH, .inl (cI, 16, .inl (zA hi)))] zh) := by
  refine Met.ofW (cc := qc_M_term) (maxL := 10) (ret := (Option.some Jvm.ClassFile.FieldType.int)) (by decide) rfl ?_
  intro pg eg sg mg args below meth cg s₁ B hml hv
  obtain ⟨rfl, hsz, hP, hF0, hK, hN, hD0, hap⟩ := hv
  have hx := B.exec
  have hb := B.bytes
  have hr := B.returns
  have hts := atoms_spec (ws := qw_M_term) B.pre
  have hg : ∀ w ∈ gw, w.before _ sg = true := fun w h => hts w (List.mem_cons_of_mem _ h)
  have hown : sg.vm.findClass "TermOrdersModel" = some mg.cls := findClass_of_methodNamed B.named
  have hlocks := B.notSynchronized
  have hl := lv_entry ([.ref o, .int (zI (xs)), .int (zI (x1)), .int (zI (x2)), .int (zI (x3))]) (n := 10) (Nat.le_of_ble_eq_true rfl)
  rw [lg_entry_eq]
  generalize (lg_sl ([.ref o, .int (zI (xs)), .int (zI (x1)), .int (zI (x2)), .int (zI (x3))]) ++ List.replicate (10 - (lg_sl ([.ref o, .int (zI (xs)), .int (zI (x1)), .int (zI (x2)), .int (zI (x3))])).length) Slot.unset).toArray = ls at hl ⊢
  subst hsz
  have hD := hD0.self (sz := sg.heap.size)
  have hFA := apw_A hap (fun k q hk => (hF0 k q hk).lt)
  generalize hAe : va_A [(o, .inr (6, [.int (zI (↑sy)), .ref mA, .ref mR, .ref mW, .int (zI (↑tc)), .ref mC, .ref mS, .int (zI (↑rc)), .ref mL, .ref mT, .ref mH, .ref mY, .ref mE, .ref mG, .ref mB, .ref mO, .int (zI (tw))])), (mC, .inl (cI, 2608, .inl (zA co))), (mS, .inl (cI, 163, .inl (zA (eI sz)))), (mH, .inl (cI, 16, .inl (zA hi)))] sg.heap.size = A at hD hFA ⊢
  have hA : ∀ q : Nat, sg.heap.size ≤ q → A q := fun q h => by rw [← hAe]; exact Or.inr h
  have hS : va_S A sg.heap sg.heap [] := va_S.rf
  have hF := hF0
  have hl : lv_has ls 10 [(0, .ref o), (1, .int (zI (xs))), (2, .int (zI (x1))), (3, .int (zI (x2))), (4, .int (zI (x3)))] := hl
  have hpb := prtA_b h32x1 h32x2 h32x3
  refine lv_iconst (v := zI 1) hx hb qd_M_term_0 rfl ?_
  refine lv_istore (lv' := [(5, .int (zI (1))), (0, .ref o), (1, .int (zI (xs))), (2, .int (zI (x1))), (3, .int (zI (x2))), (4, .int (zI (x3)))]) hx hb qd_M_term_1 hl (by decide) rfl (fun ls hl => ?_)
  refine lv_aload_n hx hb qd_M_term_3 rfl (lv_at hl 1 rfl) ?_
  refine lv_iload_n hx hb qd_M_term_4 rfl (lv_at hl 2 rfl) ?_
  refine rd_callB (W.runV (As := [.int (zI (xs))]) (rest := []) ⟨hx, hb, hml, hown, hg⟩ (c_M_isSymbol l dC dI cI cZ cT cJ o mA mR mW mC mS mL mT mH mY mE mG mB mO sy tc rc tw ar rk wt co sz lf rg hi hv ef gr bd ol xs hsy h32xs) ⟨callB_of 1 hg (gw_ok (fun _ h => h) wd_689) rfl rfl rfl (hg _ wd_6) (hg _ wd_686) (by decide +kernel) ⟨Nat.le_of_ble_eq_true rfl, Nat.le_of_ble_eq_true rfl⟩, hg _ wd_688, hg _ se_M_isSymbol⟩ (rd_preV (va_recv (q0 := 0) hK hP rfl rfl) (pw_c (q := (o, .inr (6, [.int (zI (↑sy)), .ref mA, .ref mR, .ref mW, .int (zI (↑tc)), .ref mC, .ref mS, .int (zI (↑rc)), .ref mL, .ref mT, .ref mH, .ref mY, .ref mE, .ref mG, .ref mB, .ref mO, .int (zI (tw))]))) hP 0 rfl (pw_nil)) hK hN) rfl rfl hl.1 rfl (lv_room (Nat.le_of_ble_eq_true rfl)) qd_M_term_5 ⟨Nat.le_of_ble_eq_true rfl, Nat.le_of_ble_eq_true rfl⟩) (fun r5 hr5 => ?_)
  refine lv_istore (lv' := [(6, .int (zI (bI (r5)))), (5, .int (zI (1))), (0, .ref o), (1, .int (zI (xs))), (2, .int (zI (x1))), (3, .int (zI (x2))), (4, .int (zI (x3)))]) hx hb qd_M_term_8 hl (by decide) rfl (fun ls hl => ?_)
  refine lv_iconst (v := zI 0) hx hb qd_M_term_10 rfl ?_
  refine lv_istore (lv' := [(7, .int (zI (0))), (6, .int (zI (bI (r5)))), (5, .int (zI (1))), (0, .ref o), (1, .int (zI (xs))), (2, .int (zI (x1))), (3, .int (zI (x2))), (4, .int (zI (x3)))]) hx hb qd_M_term_11 hl (by decide) rfl (fun ls hl => ?_)
  have L13 : ∀ (mu13 : Nat) (k : Nat) (gd : Bool) (m : Nat), (k ≤ 3) → (m ≤ 1 + 16 * k) → (gd = true → (0 ≤ xs ∧ xs < sy) ∧ k ≤ (ar xs.toNat).toNat ∧ m = (tR TH tn xs x1 x2 x3 k).length ∧ ∀ j, j < k → 0 ≤ prtA x1 x2 x3 j ∧ prtA x1 x2 x3 j < tc) → (gd = false → ¬ ((0 ≤ xs ∧ xs < sy) ∧ ∀ j, j < (ar xs.toNat).toNat → 0 ≤ prtA x1 x2 x3 j ∧ prtA x1 x2 x3 j < tc)) → 3 - k = mu13 → ∀ ls : Array Slot, lv_has ls 10 [(7, .int (zI (↑k))), (6, .int (zI (bI (gd)))), (5, .int (zI (↑m))), (0, .ref o), (1, .int (zI (xs))), (2, .int (zI (x1))), (3, .int (zI (x2))), (4, .int (zI (x3)))] → W pg l eg (headSpec qw_M_term ({ frames := 4, cells := 0, slots := 0, locals := 94 })).room sg mg ([.ref o, .int (zI (xs)), .int (zI (x1)), .int (zI (x2)), .int (zI (x3))] : List Value).toArray below meth cg sg.heap [] 0 0 (MQ below (mwI (S := (Int) × (Nat) × (Nat → Int) × (Nat → Nat) × (Nat → Int)) (fun r uq => (¬ ((0 ≤ xs ∧ xs < sy) ∧ ∀ j, j < (ar xs.toNat).toNat → 0 ≤ prtA x1 x2 x3 j ∧ prtA x1 x2 x3 j < tc) ∧ uq.1 = 1 ∧ uq.2.1 = tc ∧ uq.2.2.2.1 = sz ∧ ∀ j, j < 2560 → uq.2.2.1 j = co j) ∨ (((0 ≤ xs ∧ xs < sy) ∧ ∀ j, j < (ar xs.toNat).toNat → 0 ≤ prtA x1 x2 x3 j ∧ prtA x1 x2 x3 j < tc) ∧ kpM (tR TH tn xs x1 x2 x3 ((ar xs.toNat).toNat)) (t 0) tc co sz uq.1 uq.2.1 uq.2.2.1 uq.2.2.2.1 r)) (fun uq tq => mwB (dC, dI) qcl (qty cI cZ cT cJ) A [(o, .inr (6, [.int (zI (↑sy)), .ref mA, .ref mR, .ref mW, .int (zI (↑uq.2.1)), .ref mC, .ref mS, .int (zI (↑rc)), .ref mL, .ref mT, .ref mH, .ref mY, .ref mE, .ref mG, .ref mB, .ref mO, .int (zI (uq.1))])), (mC, .inl (cI, 2608, .inl (zA uq.2.2.1))), (mS, .inl (cI, 163, .inl (zA (eI uq.2.2.2.1)))), (mH, .inl (cI, 16, .inl (zA uq.2.2.2.2)))] tq) A) ([.ref o, .int (zI (xs)), .int (zI (x1)), .int (zI (x2)), .int (zI (x3))] : List Value).toArray sg 0 0 A) (F0 mg 13 ls []) := by
    intro mu13
    induction mu13 using Nat.strongRecOn with
    | _ mu13 ih13 =>
      intro k gd m hk3 hmb hI1 hI2 hmu13 ls hl
      refine lv_iload hx hb qd_M_term_13 (lv_at hl 1 rfl) ?_
      refine zz_ifeqB (tgt := 88) hx hb qd_M_term_15 (by decide) (fun h15 => ?_) (fun h15 => ?_)
      · skip
        refine lv_aload_n hx hb qd_M_term_88 rfl (lv_at hl 3 rfl) ?_
        refine lv_iload hx hb qd_M_term_89 (lv_at hl 1 rfl) ?_
        refine zz_ifeqB (tgt := 101) hx hb qd_M_term_91 (by decide) (fun h91 => ?_) (fun h91 => ?_)
        · skip
          refine lv_iconst (v := zI 1) hx hb qd_M_term_101 rfl ?_
          refine lv_goto (tgt := 106) hx hb qd_M_term_102 (by decide) ?_
          refine va_put (D := (dC, dI)) (ci := 6) (v := .int (zI (1))) (ty := .int) (C := "TermOrdersModel") (T := qT_M) (N := 17) hx hb hg qi_M qt_M qo_M qn_M hown hK hP hD hS 0 rfl rfl 16 (by decide) (hg _ wd_634) (fun _ h9 => h9) rfl (by decide +kernel) rfl rfl (Nat.le_of_ble_eq_true rfl) qd_M_term_106 (fun H106_1 L106_1 hP hD hS => ?_)
          have hP : va_P (dC, dI) qcl [(o, .inr (6, [.int (zI (↑sy)), .ref mA, .ref mR, .ref mW, .int (zI (↑tc)), .ref mC, .ref mS, .int (zI (↑rc)), .ref mL, .ref mT, .ref mH, .ref mY, .ref mE, .ref mG, .ref mB, .ref mO, .int (zI (1))])), (mC, .inl (cI, 2608, .inl (zA co))), (mS, .inl (cI, 163, .inl (zA (eI sz)))), (mH, .inl (cI, 16, .inl (zA hi)))] H106_1 := hP
          have hD : va_D A [(o, .inr (6, [.int (zI (↑sy)), .ref mA, .ref mR, .ref mW, .int (zI (↑tc)), .ref mC, .ref mS, .int (zI (↑rc)), .ref mL, .ref mT, .ref mH, .ref mY, .ref mE, .ref mG, .ref mB, .ref mO, .int (zI (1))])), (mC, .inl (cI, 2608, .inl (zA co))), (mS, .inl (cI, 163, .inl (zA (eI sz)))), (mH, .inl (cI, 16, .inl (zA hi)))] := hD
          have hF := fz_keep hF0 hFA hS
          refine lv_aload_n hx hb qd_M_term_109 rfl (lv_at hl 3 rfl) ?_
          refine va_get (D := (dC, dI)) (ci := 6) (v := .int (zI (1))) (C := "TermOrdersModel") (T := qT_M) (N := 17) hx hb hg qi_M hown hK hP 0 rfl rfl 16 (by decide) (hg _ wd_634) (fun _ h9 => h9) rfl qd_M_term_110 ?_
          refine zz_if_eq (tgt := 118) hx hb qd_M_term_113 (by decide) (by omega) (fun h113 => ?_) (fun h113 => ?_)
          · skip
            exfalso
            omega
          · skip
            refine lv_iconst (v := zI 0) hx hb qd_M_term_116 rfl ?_
            exact W.iret (v := zI 0) hx hb hr (fun t9 ht9 hW9 => ⟨⟨0, (1, tc, co, sz, hi), rfl, (Or.inl ⟨hI2 h15, rfl, rfl, rfl, fun _ _ => rfl⟩), mwB_i (by rw [ht9]; exact hP) (va_K.moved hW9.alike hK) hD⟩, hS.F ht9⟩) hS.2.2 qd_M_term_117
        · skip
          rw [h15] at h91
          exact Bool.noConfusion h91
      · skip
        obtain ⟨k1, k2, k3, k4⟩ := hI1 h15
        have har9 := har xs.toNat (by omega)
        refine lv_iload hx hb qd_M_term_18 (lv_at hl 0 rfl) ?_
        refine lv_aload_n hx hb qd_M_term_20 rfl (lv_at hl 3 rfl) ?_
        refine va_get (D := (dC, dI)) (ci := 6) (v := .ref mA) (C := "TermOrdersModel") (T := qT_M) (N := 17) hx hb hg qi_M hown hK hP 0 rfl rfl 1 (by decide) (hg _ wd_619) (fun _ h9 => h9) rfl qd_M_term_21 ?_
        refine lv_iload_n hx hb qd_M_term_24 rfl (lv_at hl 4 rfl) ?_
        refine zz_iald hx hb hK hF 0 0 rfl rfl xs.toNat (by omega) (by omega) (by omega) qd_M_term_25 ?_
        refine zz_icmp_ge (tgt := 88) hx hb qd_M_term_26 (by decide) (by omega) (by omega) (fun h26 => ?_) (fun h26 => ?_)
        · skip
          have hka : k = (ar xs.toNat).toNat := by omega
          have hGD : (0 ≤ xs ∧ xs < sy) ∧ ∀ j, j < (ar xs.toNat).toNat → 0 ≤ prtA x1 x2 x3 j ∧ prtA x1 x2 x3 j < tc := ⟨k1, fun j hj => k4 j (by omega)⟩
          have hml9 : m = (tR TH tn xs x1 x2 x3 ((ar xs.toNat).toNat)).length := by rw [k3, hka]
          refine lv_aload_n hx hb qd_M_term_88 rfl (lv_at hl 3 rfl) ?_
          refine lv_iload hx hb qd_M_term_89 (lv_at hl 1 rfl) ?_
          refine zz_ifeqB (tgt := 101) hx hb qd_M_term_91 (by decide) (fun h91 => ?_) (fun h91 => ?_)
          · skip
            rw [h15] at h91
            exact Bool.noConfusion h91
          · skip
            refine lv_iload hx hb qd_M_term_94 (lv_at hl 2 rfl) ?_
            refine lv_bipush (v := zI 16) hx hb qd_M_term_96 (by decide) ?_
            refine zz_icmp_le (tgt := 105) hx hb qd_M_term_98 (by decide) (by omega) (by omega) (fun h98 => ?_) (fun h98 => ?_)
            · skip
              refine lv_iconst (v := zI 0) hx hb qd_M_term_105 rfl ?_
              refine va_put (D := (dC, dI)) (ci := 6) (v := .int (zI (0))) (ty := .int) (C := "TermOrdersModel") (T := qT_M) (N := 17) hx hb hg qi_M qt_M qo_M qn_M hown hK hP hD hS 0 rfl rfl 16 (by decide) (hg _ wd_634) (fun _ h9 => h9) rfl (by decide +kernel) rfl rfl (Nat.le_of_ble_eq_true rfl) qd_M_term_106 (fun H106_2 L106_2 hP hD hS => ?_)
              have hP : va_P (dC, dI) qcl [(o, .inr (6, [.int (zI (↑sy)), .ref mA, .ref mR, .ref mW, .int (zI (↑tc)), .ref mC, .ref mS, .int (zI (↑rc)), .ref mL, .ref mT, .ref mH, .ref mY, .ref mE, .ref mG, .ref mB, .ref mO, .int (zI (0))])), (mC, .inl (cI, 2608, .inl (zA co))), (mS, .inl (cI, 163, .inl (zA (eI sz)))), (mH, .inl (cI, 16, .inl (zA hi)))] H106_2 := hP
              have hD : va_D A [(o, .inr (6, [.int (zI (↑sy)), .ref mA, .ref mR, .ref mW, .int (zI (↑tc)), .ref mC, .ref mS, .int (zI (↑rc)), .ref mL, .ref mT, .ref mH, .ref mY, .ref mE, .ref mG, .ref mB, .ref mO, .int (zI (0))])), (mC, .inl (cI, 2608, .inl (zA co))), (mS, .inl (cI, 163, .inl (zA (eI sz)))), (mH, .inl (cI, 16, .inl (zA hi)))] := hD
              have hF := fz_keep hF0 hFA hS
              refine lv_aload_n hx hb qd_M_term_109 rfl (lv_at hl 3 rfl) ?_
              refine va_get (D := (dC, dI)) (ci := 6) (v := .int (zI (0))) (C := "TermOrdersModel") (T := qT_M) (N := 17) hx hb hg qi_M hown hK hP 0 rfl rfl 16 (by decide) (hg _ wd_634) (fun _ h9 => h9) rfl qd_M_term_110 ?_
              refine zz_if_eq (tgt := 118) hx hb qd_M_term_113 (by decide) (by omega) (fun h113 => ?_) (fun h113 => ?_)
              · skip
                refine lv_aload_n hx hb qd_M_term_118 rfl (lv_at hl 3 rfl) ?_
                refine va_get (D := (dC, dI)) (ci := 6) (v := .ref mC) (C := "TermOrdersModel") (T := qT_M) (N := 17) hx hb hg qi_M hown hK hP 0 rfl rfl 5 (by decide) (hg _ wd_623) (fun _ h9 => h9) rfl qd_M_term_119 ?_
                refine lv_sipush (v := zI 2560) hx hb qd_M_term_122 (by decide) ?_
                refine lv_iload_n hx hb qd_M_term_125 rfl (lv_at hl 4 rfl) ?_
                refine zz_iast hx hb hK hP hD hS 1 0 rfl rfl 2560 (by omega) (by omega) (by omega) qd_M_term_126 (fun H126_3 L126_3 hP hD hS => ?_)
                have hP : va_P (dC, dI) qcl [(o, .inr (6, [.int (zI (↑sy)), .ref mA, .ref mR, .ref mW, .int (zI (↑tc)), .ref mC, .ref mS, .int (zI (↑rc)), .ref mL, .ref mT, .ref mH, .ref mY, .ref mE, .ref mG, .ref mB, .ref mO, .int (zI (0))])), (mC, .inl (cI, 2608, .inl (zA (uz co 2560 xs)))), (mS, .inl (cI, 163, .inl (zA (eI sz)))), (mH, .inl (cI, 16, .inl (zA hi)))] H126_3 := hP
                have hD : va_D A [(o, .inr (6, [.int (zI (↑sy)), .ref mA, .ref mR, .ref mW, .int (zI (↑tc)), .ref mC, .ref mS, .int (zI (↑rc)), .ref mL, .ref mT, .ref mH, .ref mY, .ref mE, .ref mG, .ref mB, .ref mO, .int (zI (0))])), (mC, .inl (cI, 2608, .inl (zA (uz co 2560 xs)))), (mS, .inl (cI, 163, .inl (zA (eI sz)))), (mH, .inl (cI, 16, .inl (zA hi)))] := hD
                have hF := fz_keep hF0 hFA hS
                refine lv_iconst (v := zI 1) hx hb qd_M_term_127 rfl ?_
                refine lv_istore (lv' := [(7, .int (zI (1))), (6, .int (zI (bI (gd)))), (5, .int (zI (↑m))), (0, .ref o), (1, .int (zI (xs))), (2, .int (zI (x1))), (3, .int (zI (x2))), (4, .int (zI (x3)))]) hx hb qd_M_term_128 hl (by decide) rfl (fun ls hl => ?_)
                refine lv_iconst (v := zI 0) hx hb qd_M_term_130 rfl ?_
                refine lv_istore (lv' := [(8, .int (zI (0))), (7, .int (zI (1))), (6, .int (zI (bI (gd)))), (5, .int (zI (↑m))), (0, .ref o), (1, .int (zI (xs))), (2, .int (zI (x1))), (3, .int (zI (x2))), (4, .int (zI (x3)))]) hx hb qd_M_term_131 hl (by decide) rfl (fun ls hl => ?_)
                have L133 : ∀ (mu133 : Nat) (i : Nat) (cz : Nat → Int), (i ≤ (ar xs.toNat).toNat) → (scr (tR TH tn xs x1 x2 x3 i) cz) → (∀ j, j < 2560 → cz j = co j) → (ar xs.toNat).toNat - i = mu133 → ∀ (H133_4 : Heap) (L133_4 : List Loc), va_P (dC, dI) qcl [(o, .inr (6, [.int (zI (↑sy)), .ref mA, .ref mR, .ref mW, .int (zI (↑tc)), .ref mC, .ref mS, .int (zI (↑rc)), .ref mL, .ref mT, .ref mH, .ref mY, .ref mE, .ref mG, .ref mB, .ref mO, .int (zI (0))])), (mC, .inl (cI, 2608, .inl (zA cz))), (mS, .inl (cI, 163, .inl (zA (eI sz)))), (mH, .inl (cI, 16, .inl (zA hi)))] H133_4 → va_D A [(o, .inr (6, [.int (zI (↑sy)), .ref mA, .ref mR, .ref mW, .int (zI (↑tc)), .ref mC, .ref mS, .int (zI (↑rc)), .ref mL, .ref mT, .ref mH, .ref mY, .ref mE, .ref mG, .ref mB, .ref mO, .int (zI (0))])), (mC, .inl (cI, 2608, .inl (zA cz))), (mS, .inl (cI, 163, .inl (zA (eI sz)))), (mH, .inl (cI, 16, .inl (zA hi)))] → va_S A sg.heap H133_4 L133_4 → ∀ ls : Array Slot, lv_has ls 10 [(8, .int (zI (↑i))), (7, .int (zI (↑(tR TH tn xs x1 x2 x3 i).length))), (6, .int (zI (bI (gd)))), (5, .int (zI (↑m))), (0, .ref o), (1, .int (zI (xs))), (2, .int (zI (x1))), (3, .int (zI (x2))), (4, .int (zI (x3)))] → W pg l eg (headSpec qw_M_term ({ frames := 4, cells := 0, slots := 0, locals := 94 })).room sg mg ([.ref o, .int (zI (xs)), .int (zI (x1)), .int (zI (x2)), .int (zI (x3))] : List Value).toArray below meth cg H133_4 L133_4 0 0 (MQ below (mwI (S := (Int) × (Nat) × (Nat → Int) × (Nat → Nat) × (Nat → Int)) (fun r uq => (¬ ((0 ≤ xs ∧ xs < sy) ∧ ∀ j, j < (ar xs.toNat).toNat → 0 ≤ prtA x1 x2 x3 j ∧ prtA x1 x2 x3 j < tc) ∧ uq.1 = 1 ∧ uq.2.1 = tc ∧ uq.2.2.2.1 = sz ∧ ∀ j, j < 2560 → uq.2.2.1 j = co j) ∨ (((0 ≤ xs ∧ xs < sy) ∧ ∀ j, j < (ar xs.toNat).toNat → 0 ≤ prtA x1 x2 x3 j ∧ prtA x1 x2 x3 j < tc) ∧ kpM (tR TH tn xs x1 x2 x3 ((ar xs.toNat).toNat)) (t 0) tc co sz uq.1 uq.2.1 uq.2.2.1 uq.2.2.2.1 r)) (fun uq tq => mwB (dC, dI) qcl (qty cI cZ cT cJ) A [(o, .inr (6, [.int (zI (↑sy)), .ref mA, .ref mR, .ref mW, .int (zI (↑uq.2.1)), .ref mC, .ref mS, .int (zI (↑rc)), .ref mL, .ref mT, .ref mH, .ref mY, .ref mE, .ref mG, .ref mB, .ref mO, .int (zI (uq.1))])), (mC, .inl (cI, 2608, .inl (zA uq.2.2.1))), (mS, .inl (cI, 163, .inl (zA (eI uq.2.2.2.1)))), (mH, .inl (cI, 16, .inl (zA uq.2.2.2.2)))] tq) A) ([.ref o, .int (zI (xs)), .int (zI (x1)), .int (zI (x2)), .int (zI (x3))] : List Value).toArray sg 0 0 A) (F0 mg 133 ls []) := by
                  intro mu133
                  induction mu133 using Nat.strongRecOn with
                  | _ mu133 ih133 =>
                    intro i cz hi8 hsc hcz hmu133 H133_4 L133_4 hP hD hS ls hl
                    have hF := fz_keep hF0 hFA hS
                    refine lv_iload hx hb qd_M_term_133 (lv_at hl 0 rfl) ?_
                    refine lv_aload_n hx hb qd_M_term_135 rfl (lv_at hl 4 rfl) ?_
                    refine va_get (D := (dC, dI)) (ci := 6) (v := .ref mA) (C := "TermOrdersModel") (T := qT_M) (N := 17) hx hb hg qi_M hown hK hP 0 rfl rfl 1 (by decide) (hg _ wd_619) (fun _ h9 => h9) rfl qd_M_term_136 ?_
                    refine lv_iload_n hx hb qd_M_term_139 rfl (lv_at hl 5 rfl) ?_
                    refine zz_iald hx hb hK hF 0 0 rfl rfl xs.toNat (by omega) (by omega) (by omega) qd_M_term_140 ?_
                    refine zz_icmp_ge (tgt := 194) hx hb qd_M_term_141 (by decide) (by omega) (by omega) (fun h141 => ?_) (fun h141 => ?_)
                    · skip
                      have hia : i = (ar xs.toNat).toNat := by omega
                      subst hia
                      have hNt := hnt hGD
                      refine lv_aload_n hx hb qd_M_term_194 rfl (lv_at hl 4 rfl) ?_
                      refine lv_iload hx hb qd_M_term_195 (lv_at hl 3 rfl) ?_
                      refine zz_top (b := ↑(tR TH tn xs x1 x2 x3 ((ar xs.toNat).toNat)).length) (by rw [hml9]) ?_
                      have hPc := hP.sub (ws' := [(o, .inr (6, [.int (zI (↑sy)), .ref mA, .ref mR, .ref mW, .int (zI (↑tc)), .ref mC, .ref mS, .int (zI (↑rc)), .ref mL, .ref mT, .ref mH, .ref mY, .ref mE, .ref mG, .ref mB, .ref mO, .int (zI (0))])), (mC, .inl (cI, 2608, .inl (zA cz))), (mS, .inl (cI, 163, .inl (zA (eI sz)))), (mH, .inl (cI, 16, .inl (zA hi)))]) [0, 1, 2, 3] rfl
                      have hDc := hD.sub (ws' := [(o, .inr (6, [.int (zI (↑sy)), .ref mA, .ref mR, .ref mW, .int (zI (↑tc)), .ref mC, .ref mS, .int (zI (↑rc)), .ref mL, .ref mT, .ref mH, .ref mY, .ref mE, .ref mG, .ref mB, .ref mO, .int (zI (0))])), (mC, .inl (cI, 2608, .inl (zA cz))), (mS, .inl (cI, 163, .inl (zA (eI sz)))), (mH, .inl (cI, 16, .inl (zA hi)))]) [0, 1, 2, 3] (by decide) rfl
                      have hFr := va_free (wc := [(o, .inr (6, [.int (zI (↑sy)), .ref mA, .ref mR, .ref mW, .int (zI (↑tc)), .ref mC, .ref mS, .int (zI (↑rc)), .ref mL, .ref mT, .ref mH, .ref mY, .ref mE, .ref mG, .ref mB, .ref mO, .int (zI (0))])), (mC, .inl (cI, 2608, .inl (zA cz))), (mS, .inl (cI, 163, .inl (zA (eI sz)))), (mH, .inl (cI, 16, .inl (zA hi)))]) hD hS hA [0, 1, 2, 3] rfl
                      refine mw_callI (va_runV (As := [.int (zI (↑((tR TH tn xs x1 x2 x3 ((ar xs.toNat).toNat)).length)))]) (rest := []) ⟨hx, hb, hml, hown, hg⟩ (c_M_keep l dC dI cI cZ cT cJ o mA mR mW mC mS mL mT mH mY mE mG mB mO sy tc rc 0 ar rk wt cz sz lf rg hi hv ef gr bd ol (tR TH tn xs x1 x2 x3 ((ar xs.toNat).toNat)) tm te t ((tR TH tn xs x1 x2 x3 ((ar xs.toNat).toNat)).length) H133_4.size har htc rfl hNt.1 (by omega) hsc (fun q hq => by have z9 := hNt.2.1 q hq; omega) hNt.2.2.1 hNt.2.2.2.1 hNt.2.2.2.2.2) ⟨callB_of 1 hg (gw_ok (fun _ h => h) wd_701) rfl rfl rfl (hg _ wd_6) (hg _ wd_698) (by decide +kernel) ⟨Nat.le_of_ble_eq_true rfl, Nat.le_of_ble_eq_true rfl⟩, hg _ wd_700, hg _ se_M_keep⟩ (mw_preV (va_recv (q0 := 0) hK hP rfl rfl) hPc (pw_c (q := (mA, .inl (cI, 5, .inl (zA ar)))) hF 0 rfl (pw_nil)) hK hN hDc (apw_c (q := (mA, .inl (cI, 5, .inl (zA ar)))) (apw_f hD [0, 1, 2, 3] rfl (hFA 0 _ rfl)) (apw_nil))) rfl rfl hl.1 rfl (lv_room (Nat.le_of_ble_eq_true rfl)) qd_M_term_197 ⟨Nat.le_of_ble_eq_true rfl, Nat.le_of_ble_eq_true rfl⟩) hS (fun q _ h => hFr q h) hFr (fun r197 u9 t9 H197_5 L197_5 ht9 hv9 hr197 hB9 hz9 hk9 hS => ?_)
                      obtain ⟨tw3, tc3, c4, sz3, hi3⟩ := u9
                      try dsimp only at hr197 hB9
                      obtain ⟨hP, hD⟩ := mw_join (wr := []) (w1 := [(o, .inr (6, [.int (zI (↑sy)), .ref mA, .ref mR, .ref mW, .int (zI (↑tc3)), .ref mC, .ref mS, .int (zI (↑rc)), .ref mL, .ref mT, .ref mH, .ref mY, .ref mE, .ref mG, .ref mB, .ref mO, .int (zI (tw3))])), (mC, .inl (cI, 2608, .inl (zA c4))), (mS, .inl (cI, 163, .inl (zA (eI sz3)))), (mH, .inl (cI, 16, .inl (zA hi3)))]) hP hD [0, 1, 2, 3] [] rfl rfl (by decide) (by decide) hk9 hFr ht9 hB9
                      have hP := hP.sub (ws' := [(o, .inr (6, [.int (zI (↑sy)), .ref mA, .ref mR, .ref mW, .int (zI (↑tc3)), .ref mC, .ref mS, .int (zI (↑rc)), .ref mL, .ref mT, .ref mH, .ref mY, .ref mE, .ref mG, .ref mB, .ref mO, .int (zI (tw3))])), (mC, .inl (cI, 2608, .inl (zA c4))), (mS, .inl (cI, 163, .inl (zA (eI sz3)))), (mH, .inl (cI, 16, .inl (zA hi3)))]) [0, 1, 2, 3] rfl
                      have hD := hD.sub (ws' := [(o, .inr (6, [.int (zI (↑sy)), .ref mA, .ref mR, .ref mW, .int (zI (↑tc3)), .ref mC, .ref mS, .int (zI (↑rc)), .ref mL, .ref mT, .ref mH, .ref mY, .ref mE, .ref mG, .ref mB, .ref mO, .int (zI (tw3))])), (mC, .inl (cI, 2608, .inl (zA c4))), (mS, .inl (cI, 163, .inl (zA (eI sz3)))), (mH, .inl (cI, 16, .inl (zA hi3)))]) [0, 1, 2, 3] (by decide) rfl
                      have hF := fz_keep hF0 hFA hS
                      exact W.iret (v := zI r197) hx hb hr (fun t9 ht9 hW9 => ⟨⟨r197, (tw3, tc3, c4, sz3, hi3), rfl, (Or.inr ⟨hGD, kp_of (by omega) hcz hr197⟩), mwB_i (by rw [ht9]; exact hP) (va_K.moved hW9.alike hK) hD⟩, hS.F ht9⟩) hS.2.2 qd_M_term_200
                    · skip
                      have hpk := hGD.2 i (by omega)
                      obtain ⟨hop, hzp, hcp⟩ := htp (prtA x1 x2 x3 i).toNat (by omega)
                      have h16p := hop.2.1
                      have hl1 := tR_len TH tn xs x1 x2 x3 i
                      have hl2 := tR_mono (TH := TH) (tn := tn) (s := xs) (x := x1) (y := x2) (z := x3) (show i + 1 ≤ (ar xs.toNat).toNat by omega)
                      refine lv_iload hx hb qd_M_term_144 (lv_at hl 0 rfl) ?_
                      refine zz_if_ne (tgt := 153) hx hb qd_M_term_146 (by decide) (by omega) (fun h146 => ?_) (fun h146 => ?_)
                      · skip
                        refine lv_iload hx hb qd_M_term_153 (lv_at hl 0 rfl) ?_
                        refine lv_iconst (v := zI 1) hx hb qd_M_term_155 rfl ?_
                        refine zz_icmp_ne (tgt := 163) hx hb qd_M_term_156 (by decide) (by omega) (by omega) (fun h156 => ?_) (fun h156 => ?_)
                        · skip
                          refine lv_iload hx hb qd_M_term_163 (lv_at hl 8 rfl) ?_
                          refine zz_top (b := prtA x1 x2 x3 i) (by unfold prtA; rw [if_neg (by omega), if_neg (by omega)]) ?_
                          refine lv_istore (lv' := [(9, .int (zI (prtA x1 x2 x3 i))), (8, .int (zI (↑i))), (7, .int (zI (↑(tR TH tn xs x1 x2 x3 i).length))), (6, .int (zI (bI (gd)))), (5, .int (zI (↑m))), (0, .ref o), (1, .int (zI (xs))), (2, .int (zI (x1))), (3, .int (zI (x2))), (4, .int (zI (x3)))]) hx hb qd_M_term_165 hl (by decide) rfl (fun ls hl => ?_)
                          refine lv_aload_n hx hb qd_M_term_167 rfl (lv_at hl 5 rfl) ?_
                          refine lv_iload hx hb qd_M_term_168 (lv_at hl 2 rfl) ?_
                          refine lv_bipush (v := zI 16) hx hb qd_M_term_170 (by decide) ?_
                          refine lv_iload hx hb qd_M_term_172 (lv_at hl 0 rfl) ?_
                          refine zz_imul hx hb (↑(16 * (prtA x1 x2 x3 i).toNat)) (by omega) qd_M_term_174 ?_
                          refine lv_iconst (v := zI 0) hx hb qd_M_term_175 rfl ?_
                          refine zz_top (b := ↑(0 : Nat)) rfl ?_
                          refine lv_aload_n hx hb qd_M_term_176 rfl (lv_at hl 5 rfl) ?_
                          refine va_get (D := (dC, dI)) (ci := 6) (v := .ref mS) (C := "TermOrdersModel") (T := qT_M) (N := 17) hx hb hg qi_M hown hK hP 0 rfl rfl 6 (by decide) (hg _ wd_624) (fun _ h9 => h9) rfl qd_M_term_177 ?_
                          refine lv_iload hx hb qd_M_term_180 (lv_at hl 0 rfl) ?_
                          refine zz_eald hx hb hK hP 2 0 rfl rfl ((prtA x1 x2 x3 i).toNat) (by omega) (by omega) (by omega) qd_M_term_182 ?_
                          refine zz_top (b := ↑(tn (prtA x1 x2 x3 i).toNat)) (by rw [hzp]) ?_
                          have hPc := hP.sub (ws' := [(mC, .inl (cI, 2608, .inl (zA cz)))]) [1] rfl
                          have hDc := hD.sub (ws' := [(mC, .inl (cI, 2608, .inl (zA cz)))]) [1] (by decide) rfl
                          have hFr := va_free (wc := [(mC, .inl (cI, 2608, .inl (zA cz)))]) hD hS hA [1] rfl
                          refine mw_callI (va_runV (As := [.int (zI (↑((tR TH tn xs x1 x2 x3 i).length))), .int (zI (↑(16 * (prtA x1 x2 x3 i).toNat))), .int (zI (↑0)), .int (zI (↑(tn (prtA x1 x2 x3 i).toNat)))]) (rest := []) ⟨hx, hb, hml, hown, hg⟩ (c_M_append l dC dI cI cZ cT cJ o mA mR mW mC mS mL mT mH mY mE mG mB mO sy tc rc 0 ar rk wt cz sz lf rg hi hv ef gr bd ol (16 * (prtA x1 x2 x3 i).toNat) (tn (prtA x1 x2 x3 i).toNat) (TH (prtA x1 x2 x3 i).toNat) (tR TH tn xs x1 x2 x3 i) ((tR TH tn xs x1 x2 x3 i).length) 0 (tn (prtA x1 x2 x3 i).toNat) H133_4.size (by omega) (fun q hq => (hcz _ (by omega)).trans (hcp q hq)) (by omega) (by omega) rfl hsc (by omega)) ⟨callB_of 4 hg (gw_ok (fun _ h => h) wd_697) rfl rfl rfl (hg _ wd_6) (hg _ wd_694) (by decide +kernel) ⟨Nat.le_of_ble_eq_true rfl, Nat.le_of_ble_eq_true rfl⟩, hg _ wd_696, hg _ se_M_append⟩ (mw_preV (va_recv (q0 := 0) hK hP rfl rfl) hPc (pw_c (q := (o, .inr (6, [.int (zI (↑sy)), .ref mA, .ref mR, .ref mW, .int (zI (↑tc)), .ref mC, .ref mS, .int (zI (↑rc)), .ref mL, .ref mT, .ref mH, .ref mY, .ref mE, .ref mG, .ref mB, .ref mO, .int (zI (0))]))) hP 0 rfl (pw_nil)) hK hN hDc (apw_c (q := (o, .inr (6, [.int (zI (↑sy)), .ref mA, .ref mR, .ref mW, .int (zI (↑tc)), .ref mC, .ref mS, .int (zI (↑rc)), .ref mL, .ref mT, .ref mH, .ref mY, .ref mE, .ref mG, .ref mB, .ref mO, .int (zI (0))]))) (apw_m hD [1] rfl 0 rfl (by decide)) (apw_nil))) rfl rfl hl.1 rfl (lv_room (Nat.le_of_ble_eq_true rfl)) qd_M_term_183 ⟨Nat.le_of_ble_eq_true rfl, Nat.le_of_ble_eq_true rfl⟩) hS (fun q _ h => hFr q h) hFr (fun r183 c3 t9 H183_6 L183_6 ht9 hv9 hr183 hB9 hz9 hk9 hS => ?_)
                          try dsimp only at hr183 hB9
                          obtain ⟨hP, hD⟩ := mw_join (wr := [(o, .inr (6, [.int (zI (↑sy)), .ref mA, .ref mR, .ref mW, .int (zI (↑tc)), .ref mC, .ref mS, .int (zI (↑rc)), .ref mL, .ref mT, .ref mH, .ref mY, .ref mE, .ref mG, .ref mB, .ref mO, .int (zI (0))])), (mS, .inl (cI, 163, .inl (zA (eI sz)))), (mH, .inl (cI, 16, .inl (zA hi)))]) (w1 := [(mC, .inl (cI, 2608, .inl (zA c3)))]) hP hD [1] [0, 2, 3] rfl rfl (by decide) (by decide) hk9 hFr ht9 hB9
                          have hP := hP.sub (ws' := [(o, .inr (6, [.int (zI (↑sy)), .ref mA, .ref mR, .ref mW, .int (zI (↑tc)), .ref mC, .ref mS, .int (zI (↑rc)), .ref mL, .ref mT, .ref mH, .ref mY, .ref mE, .ref mG, .ref mB, .ref mO, .int (zI (0))])), (mC, .inl (cI, 2608, .inl (zA c3))), (mS, .inl (cI, 163, .inl (zA (eI sz)))), (mH, .inl (cI, 16, .inl (zA hi)))]) [0, 3, 1, 2] rfl
                          have hD := hD.sub (ws' := [(o, .inr (6, [.int (zI (↑sy)), .ref mA, .ref mR, .ref mW, .int (zI (↑tc)), .ref mC, .ref mS, .int (zI (↑rc)), .ref mL, .ref mT, .ref mH, .ref mY, .ref mE, .ref mG, .ref mB, .ref mO, .int (zI (0))])), (mC, .inl (cI, 2608, .inl (zA c3))), (mS, .inl (cI, 163, .inl (zA (eI sz)))), (mH, .inl (cI, 16, .inl (zA hi)))]) [0, 3, 1, 2] (by decide) rfl
                          have hF := fz_keep hF0 hFA hS
                          obtain ⟨e9, hs3, hk3b⟩ := hr183
                          subst e9
                          refine lv_istore (lv' := [(7, .int (zI ((↑((tR TH tn xs x1 x2 x3 i).length + (tn (prtA x1 x2 x3 i).toNat - 0)))))), (9, .int (zI (prtA x1 x2 x3 i))), (8, .int (zI (↑i))), (6, .int (zI (bI (gd)))), (5, .int (zI (↑m))), (0, .ref o), (1, .int (zI (xs))), (2, .int (zI (x1))), (3, .int (zI (x2))), (4, .int (zI (x3)))]) hx hb qd_M_term_186 hl (by decide) rfl (fun ls hl => ?_)
                          refine lv_iinc (k := 2) (lv' := [(8, .int (zI (↑(i + 1)))), (7, .int (zI ((↑((tR TH tn xs x1 x2 x3 i).length + (tn (prtA x1 x2 x3 i).toNat - 0)))))), (9, .int (zI (prtA x1 x2 x3 i))), (6, .int (zI (bI (gd)))), (5, .int (zI (↑m))), (0, .ref o), (1, .int (zI (xs))), (2, .int (zI (x1))), (3, .int (zI (x2))), (4, .int (zI (x3)))]) hx hb qd_M_term_188 hl rfl (zI_inc (v := ↑(i + 1)) (by omega)) (by decide) rfl (fun ls hl => ?_)
                          refine lv_goto (tgt := 133) hx hb qd_M_term_191 (by decide) ?_
                          have hl := lv_sub (l' := [(8, .int (zI (↑(i + 1)))), (7, .int (zI ((↑((tR TH tn xs x1 x2 x3 i).length + (tn (prtA x1 x2 x3 i).toNat - 0)))))), (6, .int (zI (bI (gd)))), (5, .int (zI (↑m))), (0, .ref o), (1, .int (zI (xs))), (2, .int (zI (x1))), (3, .int (zI (x2))), (4, .int (zI (x3)))]) hl [0, 1, 3, 4, 5, 6, 7, 8, 9] rfl
                          have q9 : ((↑((tR TH tn xs x1 x2 x3 i).length + (tn (prtA x1 x2 x3 i).toNat - 0))) : Int) = ↑(tR TH tn xs x1 x2 x3 (i + 1)).length := (by rw [tR_len, Nat.sub_zero])
                          have hl : lv_has ls 10 [(8, .int (zI (↑(i + 1)))), (7, .int (zI (↑(tR TH tn xs x1 x2 x3 (i + 1)).length))), (6, .int (zI (bI (gd)))), (5, .int (zI (↑m))), (0, .ref o), (1, .int (zI (xs))), (2, .int (zI (x1))), (3, .int (zI (x2))), (4, .int (zI (x3)))] := (congrArg (fun z9 : Int => lv_has ls 10 [(8, .int (zI (↑(i + 1)))), (7, .int (zI (z9))), (6, .int (zI (bI (gd)))), (5, .int (zI (↑m))), (0, .ref o), (1, .int (zI (xs))), (2, .int (zI (x1))), (3, .int (zI (x2))), (4, .int (zI (x3)))]) q9).mp hl
                          exact ih133 _ (by omega) (i + 1) c3 (by omega) hs3 (fun j hj => (hk3b j hj).trans (hcz j hj)) rfl H183_6 L183_6 hP hD hS ls hl
                        · skip
                          refine lv_iload_n hx hb qd_M_term_159 rfl (lv_at hl 7 rfl) ?_
                          refine zz_top (b := prtA x1 x2 x3 i) (by unfold prtA; rw [if_neg (by omega), if_pos (by omega)]) ?_
                          refine lv_goto (tgt := 165) hx hb qd_M_term_160 (by decide) ?_
                          refine lv_istore (lv' := [(9, .int (zI (prtA x1 x2 x3 i))), (8, .int (zI (↑i))), (7, .int (zI (↑(tR TH tn xs x1 x2 x3 i).length))), (6, .int (zI (bI (gd)))), (5, .int (zI (↑m))), (0, .ref o), (1, .int (zI (xs))), (2, .int (zI (x1))), (3, .int (zI (x2))), (4, .int (zI (x3)))]) hx hb qd_M_term_165 hl (by decide) rfl (fun ls hl => ?_)
                          refine lv_aload_n hx hb qd_M_term_167 rfl (lv_at hl 5 rfl) ?_
                          refine lv_iload hx hb qd_M_term_168 (lv_at hl 2 rfl) ?_
                          refine lv_bipush (v := zI 16) hx hb qd_M_term_170 (by decide) ?_
                          refine lv_iload hx hb qd_M_term_172 (lv_at hl 0 rfl) ?_
                          refine zz_imul hx hb (↑(16 * (prtA x1 x2 x3 i).toNat)) (by omega) qd_M_term_174 ?_
                          refine lv_iconst (v := zI 0) hx hb qd_M_term_175 rfl ?_
                          refine zz_top (b := ↑(0 : Nat)) rfl ?_
                          refine lv_aload_n hx hb qd_M_term_176 rfl (lv_at hl 5 rfl) ?_
                          refine va_get (D := (dC, dI)) (ci := 6) (v := .ref mS) (C := "TermOrdersModel") (T := qT_M) (N := 17) hx hb hg qi_M hown hK hP 0 rfl rfl 6 (by decide) (hg _ wd_624) (fun _ h9 => h9) rfl qd_M_term_177 ?_
                          refine lv_iload hx hb qd_M_term_180 (lv_at hl 0 rfl) ?_
                          refine zz_eald hx hb hK hP 2 0 rfl rfl ((prtA x1 x2 x3 i).toNat) (by omega) (by omega) (by omega) qd_M_term_182 ?_
                          refine zz_top (b := ↑(tn (prtA x1 x2 x3 i).toNat)) (by rw [hzp]) ?_
                          have hPc := hP.sub (ws' := [(mC, .inl (cI, 2608, .inl (zA cz)))]) [1] rfl
                          have hDc := hD.sub (ws' := [(mC, .inl (cI, 2608, .inl (zA cz)))]) [1] (by decide) rfl
                          have hFr := va_free (wc := [(mC, .inl (cI, 2608, .inl (zA cz)))]) hD hS hA [1] rfl
                          refine mw_callI (va_runV (As := [.int (zI (↑((tR TH tn xs x1 x2 x3 i).length))), .int (zI (↑(16 * (prtA x1 x2 x3 i).toNat))), .int (zI (↑0)), .int (zI (↑(tn (prtA x1 x2 x3 i).toNat)))]) (rest := []) ⟨hx, hb, hml, hown, hg⟩ (c_M_append l dC dI cI cZ cT cJ o mA mR mW mC mS mL mT mH mY mE mG mB mO sy tc rc 0 ar rk wt cz sz lf rg hi hv ef gr bd ol (16 * (prtA x1 x2 x3 i).toNat) (tn (prtA x1 x2 x3 i).toNat) (TH (prtA x1 x2 x3 i).toNat) (tR TH tn xs x1 x2 x3 i) ((tR TH tn xs x1 x2 x3 i).length) 0 (tn (prtA x1 x2 x3 i).toNat) H133_4.size (by omega) (fun q hq => (hcz _ (by omega)).trans (hcp q hq)) (by omega) (by omega) rfl hsc (by omega)) ⟨callB_of 4 hg (gw_ok (fun _ h => h) wd_697) rfl rfl rfl (hg _ wd_6) (hg _ wd_694) (by decide +kernel) ⟨Nat.le_of_ble_eq_true rfl, Nat.le_of_ble_eq_true rfl⟩, hg _ wd_696, hg _ se_M_append⟩ (mw_preV (va_recv (q0 := 0) hK hP rfl rfl) hPc (pw_c (q := (o, .inr (6, [.int (zI (↑sy)), .ref mA, .ref mR, .ref mW, .int (zI (↑tc)), .ref mC, .ref mS, .int (zI (↑rc)), .ref mL, .ref mT, .ref mH, .ref mY, .ref mE, .ref mG, .ref mB, .ref mO, .int (zI (0))]))) hP 0 rfl (pw_nil)) hK hN hDc (apw_c (q := (o, .inr (6, [.int (zI (↑sy)), .ref mA, .ref mR, .ref mW, .int (zI (↑tc)), .ref mC, .ref mS, .int (zI (↑rc)), .ref mL, .ref mT, .ref mH, .ref mY, .ref mE, .ref mG, .ref mB, .ref mO, .int (zI (0))]))) (apw_m hD [1] rfl 0 rfl (by decide)) (apw_nil))) rfl rfl hl.1 rfl (lv_room (Nat.le_of_ble_eq_true rfl)) qd_M_term_183 ⟨Nat.le_of_ble_eq_true rfl, Nat.le_of_ble_eq_true rfl⟩) hS (fun q _ h => hFr q h) hFr (fun r183 c3 t9 H183_7 L183_7 ht9 hv9 hr183 hB9 hz9 hk9 hS => ?_)
                          try dsimp only at hr183 hB9
                          obtain ⟨hP, hD⟩ := mw_join (wr := [(o, .inr (6, [.int (zI (↑sy)), .ref mA, .ref mR, .ref mW, .int (zI (↑tc)), .ref mC, .ref mS, .int (zI (↑rc)), .ref mL, .ref mT, .ref mH, .ref mY, .ref mE, .ref mG, .ref mB, .ref mO, .int (zI (0))])), (mS, .inl (cI, 163, .inl (zA (eI sz)))), (mH, .inl (cI, 16, .inl (zA hi)))]) (w1 := [(mC, .inl (cI, 2608, .inl (zA c3)))]) hP hD [1] [0, 2, 3] rfl rfl (by decide) (by decide) hk9 hFr ht9 hB9
                          have hP := hP.sub (ws' := [(o, .inr (6, [.int (zI (↑sy)), .ref mA, .ref mR, .ref mW, .int (zI (↑tc)), .ref mC, .ref mS, .int (zI (↑rc)), .ref mL, .ref mT, .ref mH, .ref mY, .ref mE, .ref mG, .ref mB, .ref mO, .int (zI (0))])), (mC, .inl (cI, 2608, .inl (zA c3))), (mS, .inl (cI, 163, .inl (zA (eI sz)))), (mH, .inl (cI, 16, .inl (zA hi)))]) [0, 3, 1, 2] rfl
                          have hD := hD.sub (ws' := [(o, .inr (6, [.int (zI (↑sy)), .ref mA, .ref mR, .ref mW, .int (zI (↑tc)), .ref mC, .ref mS, .int (zI (↑rc)), .ref mL, .ref mT, .ref mH, .ref mY, .ref mE, .ref mG, .ref mB, .ref mO, .int (zI (0))])), (mC, .inl (cI, 2608, .inl (zA c3))), (mS, .inl (cI, 163, .inl (zA (eI sz)))), (mH, .inl (cI, 16, .inl (zA hi)))]) [0, 3, 1, 2] (by decide) rfl
                          have hF := fz_keep hF0 hFA hS
                          obtain ⟨e9, hs3, hk3b⟩ := hr183
                          subst e9
                          refine lv_istore (lv' := [(7, .int (zI ((↑((tR TH tn xs x1 x2 x3 i).length + (tn (prtA x1 x2 x3 i).toNat - 0)))))), (9, .int (zI (prtA x1 x2 x3 i))), (8, .int (zI (↑i))), (6, .int (zI (bI (gd)))), (5, .int (zI (↑m))), (0, .ref o), (1, .int (zI (xs))), (2, .int (zI (x1))), (3, .int (zI (x2))), (4, .int (zI (x3)))]) hx hb qd_M_term_186 hl (by decide) rfl (fun ls hl => ?_)
                          refine lv_iinc (k := 2) (lv' := [(8, .int (zI (↑(i + 1)))), (7, .int (zI ((↑((tR TH tn xs x1 x2 x3 i).length + (tn (prtA x1 x2 x3 i).toNat - 0)))))), (9, .int (zI (prtA x1 x2 x3 i))), (6, .int (zI (bI (gd)))), (5, .int (zI (↑m))), (0, .ref o), (1, .int (zI (xs))), (2, .int (zI (x1))), (3, .int (zI (x2))), (4, .int (zI (x3)))]) hx hb qd_M_term_188 hl rfl (zI_inc (v := ↑(i + 1)) (by omega)) (by decide) rfl (fun ls hl => ?_)
                          refine lv_goto (tgt := 133) hx hb qd_M_term_191 (by decide) ?_
                          have hl := lv_sub (l' := [(8, .int (zI (↑(i + 1)))), (7, .int (zI ((↑((tR TH tn xs x1 x2 x3 i).length + (tn (prtA x1 x2 x3 i).toNat - 0)))))), (6, .int (zI (bI (gd)))), (5, .int (zI (↑m))), (0, .ref o), (1, .int (zI (xs))), (2, .int (zI (x1))), (3, .int (zI (x2))), (4, .int (zI (x3)))]) hl [0, 1, 3, 4, 5, 6, 7, 8, 9] rfl
                          have q9 : ((↑((tR TH tn xs x1 x2 x3 i).length + (tn (prtA x1 x2 x3 i).toNat - 0))) : Int) = ↑(tR TH tn xs x1 x2 x3 (i + 1)).length := (by rw [tR_len, Nat.sub_zero])
                          have hl : lv_has ls 10 [(8, .int (zI (↑(i + 1)))), (7, .int (zI (↑(tR TH tn xs x1 x2 x3 (i + 1)).length))), (6, .int (zI (bI (gd)))), (5, .int (zI (↑m))), (0, .ref o), (1, .int (zI (xs))), (2, .int (zI (x1))), (3, .int (zI (x2))), (4, .int (zI (x3)))] := (congrArg (fun z9 : Int => lv_has ls 10 [(8, .int (zI (↑(i + 1)))), (7, .int (zI (z9))), (6, .int (zI (bI (gd)))), (5, .int (zI (↑m))), (0, .ref o), (1, .int (zI (xs))), (2, .int (zI (x1))), (3, .int (zI (x2))), (4, .int (zI (x3)))]) q9).mp hl
                          exact ih133 _ (by omega) (i + 1) c3 (by omega) hs3 (fun j hj => (hk3b j hj).trans (hcz j hj)) rfl H183_7 L183_7 hP hD hS ls hl
                      · skip
                        refine lv_iload_n hx hb qd_M_term_149 rfl (lv_at hl 6 rfl) ?_
                        refine zz_top (b := prtA x1 x2 x3 i) (by unfold prtA; rw [if_pos (by omega)]) ?_
                        refine lv_goto (tgt := 165) hx hb qd_M_term_150 (by decide) ?_
                        refine lv_istore (lv' := [(9, .int (zI (prtA x1 x2 x3 i))), (8, .int (zI (↑i))), (7, .int (zI (↑(tR TH tn xs x1 x2 x3 i).length))), (6, .int (zI (bI (gd)))), (5, .int (zI (↑m))), (0, .ref o), (1, .int (zI (xs))), (2, .int (zI (x1))), (3, .int (zI (x2))), (4, .int (zI (x3)))]) hx hb qd_M_term_165 hl (by decide) rfl (fun ls hl => ?_)
                        refine lv_aload_n hx hb qd_M_term_167 rfl (lv_at hl 5 rfl) ?_
                        refine lv_iload hx hb qd_M_term_168 (lv_at hl 2 rfl) ?_
                        refine lv_bipush (v := zI 16) hx hb qd_M_term_170 (by decide) ?_
                        refine lv_iload hx hb qd_M_term_172 (lv_at hl 0 rfl) ?_
                        refine zz_imul hx hb (↑(16 * (prtA x1 x2 x3 i).toNat)) (by omega) qd_M_term_174 ?_
                        refine lv_iconst (v := zI 0) hx hb qd_M_term_175 rfl ?_
                        refine zz_top (b := ↑(0 : Nat)) rfl ?_
                        refine lv_aload_n hx hb qd_M_term_176 rfl (lv_at hl 5 rfl) ?_
                        refine va_get (D := (dC, dI)) (ci := 6) (v := .ref mS) (C := "TermOrdersModel") (T := qT_M) (N := 17) hx hb hg qi_M hown hK hP 0 rfl rfl 6 (by decide) (hg _ wd_624) (fun _ h9 => h9) rfl qd_M_term_177 ?_
                        refine lv_iload hx hb qd_M_term_180 (lv_at hl 0 rfl) ?_
                        refine zz_eald hx hb hK hP 2 0 rfl rfl ((prtA x1 x2 x3 i).toNat) (by omega) (by omega) (by omega) qd_M_term_182 ?_
                        refine zz_top (b := ↑(tn (prtA x1 x2 x3 i).toNat)) (by rw [hzp]) ?_
                        have hPc := hP.sub (ws' := [(mC, .inl (cI, 2608, .inl (zA cz)))]) [1] rfl
                        have hDc := hD.sub (ws' := [(mC, .inl (cI, 2608, .inl (zA cz)))]) [1] (by decide) rfl
                        have hFr := va_free (wc := [(mC, .inl (cI, 2608, .inl (zA cz)))]) hD hS hA [1] rfl
                        refine mw_callI (va_runV (As := [.int (zI (↑((tR TH tn xs x1 x2 x3 i).length))), .int (zI (↑(16 * (prtA x1 x2 x3 i).toNat))), .int (zI (↑0)), .int (zI (↑(tn (prtA x1 x2 x3 i).toNat)))]) (rest := []) ⟨hx, hb, hml, hown, hg⟩ (c_M_append l dC dI cI cZ cT cJ o mA mR mW mC mS mL mT mH mY mE mG mB mO sy tc rc 0 ar rk wt cz sz lf rg hi hv ef gr bd ol (16 * (prtA x1 x2 x3 i).toNat) (tn (prtA x1 x2 x3 i).toNat) (TH (prtA x1 x2 x3 i).toNat) (tR TH tn xs x1 x2 x3 i) ((tR TH tn xs x1 x2 x3 i).length) 0 (tn (prtA x1 x2 x3 i).toNat) H133_4.size (by omega) (fun q hq => (hcz _ (by omega)).trans (hcp q hq)) (by omega) (by omega) rfl hsc (by omega)) ⟨callB_of 4 hg (gw_ok (fun _ h => h) wd_697) rfl rfl rfl (hg _ wd_6) (hg _ wd_694) (by decide +kernel) ⟨Nat.le_of_ble_eq_true rfl, Nat.le_of_ble_eq_true rfl⟩, hg _ wd_696, hg _ se_M_append⟩ (mw_preV (va_recv (q0 := 0) hK hP rfl rfl) hPc (pw_c (q := (o, .inr (6, [.int (zI (↑sy)), .ref mA, .ref mR, .ref mW, .int (zI (↑tc)), .ref mC, .ref mS, .int (zI (↑rc)), .ref mL, .ref mT, .ref mH, .ref mY, .ref mE, .ref mG, .ref mB, .ref mO, .int (zI (0))]))) hP 0 rfl (pw_nil)) hK hN hDc (apw_c (q := (o, .inr (6, [.int (zI (↑sy)), .ref mA, .ref mR, .ref mW, .int (zI (↑tc)), .ref mC, .ref mS, .int (zI (↑rc)), .ref mL, .ref mT, .ref mH, .ref mY, .ref mE, .ref mG, .ref mB, .ref mO, .int (zI (0))]))) (apw_m hD [1] rfl 0 rfl (by decide)) (apw_nil))) rfl rfl hl.1 rfl (lv_room (Nat.le_of_ble_eq_true rfl)) qd_M_term_183 ⟨Nat.le_of_ble_eq_true rfl, Nat.le_of_ble_eq_true rfl⟩) hS (fun q _ h => hFr q h) hFr (fun r183 c3 t9 H183_8 L183_8 ht9 hv9 hr183 hB9 hz9 hk9 hS => ?_)
                        try dsimp only at hr183 hB9
                        obtain ⟨hP, hD⟩ := mw_join (wr := [(o, .inr (6, [.int (zI (↑sy)), .ref mA, .ref mR, .ref mW, .int (zI (↑tc)), .ref mC, .ref mS, .int (zI (↑rc)), .ref mL, .ref mT, .ref mH, .ref mY, .ref mE, .ref mG, .ref mB, .ref mO, .int (zI (0))])), (mS, .inl (cI, 163, .inl (zA (eI sz)))), (mH, .inl (cI, 16, .inl (zA hi)))]) (w1 := [(mC, .inl (cI, 2608, .inl (zA c3)))]) hP hD [1] [0, 2, 3] rfl rfl (by decide) (by decide) hk9 hFr ht9 hB9
                        have hP := hP.sub (ws' := [(o, .inr (6, [.int (zI (↑sy)), .ref mA, .ref mR, .ref mW, .int (zI (↑tc)), .ref mC, .ref mS, .int (zI (↑rc)), .ref mL, .ref mT, .ref mH, .ref mY, .ref mE, .ref mG, .ref mB, .ref mO, .int (zI (0))])), (mC, .inl (cI, 2608, .inl (zA c3))), (mS, .inl (cI, 163, .inl (zA (eI sz)))), (mH, .inl (cI, 16, .inl (zA hi)))]) [0, 3, 1, 2] rfl
                        have hD := hD.sub (ws' := [(o, .inr (6, [.int (zI (↑sy)), .ref mA, .ref mR, .ref mW, .int (zI (↑tc)), .ref mC, .ref mS, .int (zI (↑rc)), .ref mL, .ref mT, .ref mH, .ref mY, .ref mE, .ref mG, .ref mB, .ref mO, .int (zI (0))])), (mC, .inl (cI, 2608, .inl (zA c3))), (mS, .inl (cI, 163, .inl (zA (eI sz)))), (mH, .inl (cI, 16, .inl (zA hi)))]) [0, 3, 1, 2] (by decide) rfl
                        have hF := fz_keep hF0 hFA hS
                        obtain ⟨e9, hs3, hk3b⟩ := hr183
                        subst e9
                        refine lv_istore (lv' := [(7, .int (zI ((↑((tR TH tn xs x1 x2 x3 i).length + (tn (prtA x1 x2 x3 i).toNat - 0)))))), (9, .int (zI (prtA x1 x2 x3 i))), (8, .int (zI (↑i))), (6, .int (zI (bI (gd)))), (5, .int (zI (↑m))), (0, .ref o), (1, .int (zI (xs))), (2, .int (zI (x1))), (3, .int (zI (x2))), (4, .int (zI (x3)))]) hx hb qd_M_term_186 hl (by decide) rfl (fun ls hl => ?_)
                        refine lv_iinc (k := 2) (lv' := [(8, .int (zI (↑(i + 1)))), (7, .int (zI ((↑((tR TH tn xs x1 x2 x3 i).length + (tn (prtA x1 x2 x3 i).toNat - 0)))))), (9, .int (zI (prtA x1 x2 x3 i))), (6, .int (zI (bI (gd)))), (5, .int (zI (↑m))), (0, .ref o), (1, .int (zI (xs))), (2, .int (zI (x1))), (3, .int (zI (x2))), (4, .int (zI (x3)))]) hx hb qd_M_term_188 hl rfl (zI_inc (v := ↑(i + 1)) (by omega)) (by decide) rfl (fun ls hl => ?_)
                        refine lv_goto (tgt := 133) hx hb qd_M_term_191 (by decide) ?_
                        have hl := lv_sub (l' := [(8, .int (zI (↑(i + 1)))), (7, .int (zI ((↑((tR TH tn xs x1 x2 x3 i).length + (tn (prtA x1 x2 x3 i).toNat - 0)))))), (6, .int (zI (bI (gd)))), (5, .int (zI (↑m))), (0, .ref o), (1, .int (zI (xs))), (2, .int (zI (x1))), (3, .int (zI (x2))), (4, .int (zI (x3)))]) hl [0, 1, 3, 4, 5, 6, 7, 8, 9] rfl
                        have q9 : ((↑((tR TH tn xs x1 x2 x3 i).length + (tn (prtA x1 x2 x3 i).toNat - 0))) : Int) = ↑(tR TH tn xs x1 x2 x3 (i + 1)).length := (by rw [tR_len, Nat.sub_zero])
                        have hl : lv_has ls 10 [(8, .int (zI (↑(i + 1)))), (7, .int (zI (↑(tR TH tn xs x1 x2 x3 (i + 1)).length))), (6, .int (zI (bI (gd)))), (5, .int (zI (↑m))), (0, .ref o), (1, .int (zI (xs))), (2, .int (zI (x1))), (3, .int (zI (x2))), (4, .int (zI (x3)))] := (congrArg (fun z9 : Int => lv_has ls 10 [(8, .int (zI (↑(i + 1)))), (7, .int (zI (z9))), (6, .int (zI (bI (gd)))), (5, .int (zI (↑m))), (0, .ref o), (1, .int (zI (xs))), (2, .int (zI (x1))), (3, .int (zI (x2))), (4, .int (zI (x3)))]) q9).mp hl
                        exact ih133 _ (by omega) (i + 1) c3 (by omega) hs3 (fun j hj => (hk3b j hj).trans (hcz j hj)) rfl H183_8 L183_8 hP hD hS ls hl
                have q9 : (1 : Int) = ↑(tR TH tn xs x1 x2 x3 0).length := rfl
                have hl : lv_has ls 10 [(8, .int (zI (0))), (7, .int (zI (↑(tR TH tn xs x1 x2 x3 0).length))), (6, .int (zI (bI (gd)))), (5, .int (zI (↑m))), (0, .ref o), (1, .int (zI (xs))), (2, .int (zI (x1))), (3, .int (zI (x2))), (4, .int (zI (x3)))] := (congrArg (fun z9 : Int => lv_has ls 10 [(8, .int (zI (0))), (7, .int (zI (z9))), (6, .int (zI (bI (gd)))), (5, .int (zI (↑m))), (0, .ref o), (1, .int (zI (xs))), (2, .int (zI (x1))), (3, .int (zI (x2))), (4, .int (zI (x3)))]) q9).mp hl
                exact L133 _ 0 (uz co 2560 xs) (by omega) (fun q hq => by have z9 : q < 1 := hq; rw [show q = 0 by omega]; rw [show 2560 + 0 = 2560 from rfl, uz_s]; rfl) (fun j hj => by rw [uz_n _ _ (by omega)]) rfl H126_3 L126_3 hP hD hS ls hl
              · skip
                exfalso
                omega
            · skip
              refine lv_iconst (v := zI 1) hx hb qd_M_term_101 rfl ?_
              refine lv_goto (tgt := 106) hx hb qd_M_term_102 (by decide) ?_
              refine va_put (D := (dC, dI)) (ci := 6) (v := .int (zI (1))) (ty := .int) (C := "TermOrdersModel") (T := qT_M) (N := 17) hx hb hg qi_M qt_M qo_M qn_M hown hK hP hD hS 0 rfl rfl 16 (by decide) (hg _ wd_634) (fun _ h9 => h9) rfl (by decide +kernel) rfl rfl (Nat.le_of_ble_eq_true rfl) qd_M_term_106 (fun H106_9 L106_9 hP hD hS => ?_)
              have hP : va_P (dC, dI) qcl [(o, .inr (6, [.int (zI (↑sy)), .ref mA, .ref mR, .ref mW, .int (zI (↑tc)), .ref mC, .ref mS, .int (zI (↑rc)), .ref mL, .ref mT, .ref mH, .ref mY, .ref mE, .ref mG, .ref mB, .ref mO, .int (zI (1))])), (mC, .inl (cI, 2608, .inl (zA co))), (mS, .inl (cI, 163, .inl (zA (eI sz)))), (mH, .inl (cI, 16, .inl (zA hi)))] H106_9 := hP
              have hD : va_D A [(o, .inr (6, [.int (zI (↑sy)), .ref mA, .ref mR, .ref mW, .int (zI (↑tc)), .ref mC, .ref mS, .int (zI (↑rc)), .ref mL, .ref mT, .ref mH, .ref mY, .ref mE, .ref mG, .ref mB, .ref mO, .int (zI (1))])), (mC, .inl (cI, 2608, .inl (zA co))), (mS, .inl (cI, 163, .inl (zA (eI sz)))), (mH, .inl (cI, 16, .inl (zA hi)))] := hD
              have hF := fz_keep hF0 hFA hS
              refine lv_aload_n hx hb qd_M_term_109 rfl (lv_at hl 3 rfl) ?_
              refine va_get (D := (dC, dI)) (ci := 6) (v := .int (zI (1))) (C := "TermOrdersModel") (T := qT_M) (N := 17) hx hb hg qi_M hown hK hP 0 rfl rfl 16 (by decide) (hg _ wd_634) (fun _ h9 => h9) rfl qd_M_term_110 ?_
              refine zz_if_eq (tgt := 118) hx hb qd_M_term_113 (by decide) (by omega) (fun h113 => ?_) (fun h113 => ?_)
              · skip
                exfalso
                omega
              · skip
                refine lv_iconst (v := zI 0) hx hb qd_M_term_116 rfl ?_
                exact W.iret (v := zI 0) hx hb hr (fun t9 ht9 hW9 => ⟨⟨0, (1, tc, co, sz, hi), rfl, (Or.inr ⟨hGD, Or.inl ⟨Or.inl (by omega), rfl, rfl, rfl, fun _ _ => rfl⟩⟩), mwB_i (by rw [ht9]; exact hP) (va_K.moved hW9.alike hK) hD⟩, hS.F ht9⟩) hS.2.2 qd_M_term_117
        · skip
          refine lv_iload hx hb qd_M_term_29 (lv_at hl 0 rfl) ?_
          refine zz_if_ne (tgt := 38) hx hb qd_M_term_31 (by decide) (by omega) (fun h31 => ?_) (fun h31 => ?_)
          · skip
            refine lv_iload hx hb qd_M_term_38 (lv_at hl 0 rfl) ?_
            refine lv_iconst (v := zI 1) hx hb qd_M_term_40 rfl ?_
            refine zz_icmp_ne (tgt := 48) hx hb qd_M_term_41 (by decide) (by omega) (by omega) (fun h41 => ?_) (fun h41 => ?_)
            · skip
              refine lv_iload hx hb qd_M_term_48 (lv_at hl 7 rfl) ?_
              refine zz_top (b := prtA x1 x2 x3 k) (by unfold prtA; rw [if_neg (by omega), if_neg (by omega)]) ?_
              refine lv_istore (lv' := [(8, .int (zI (prtA x1 x2 x3 k))), (7, .int (zI (↑k))), (6, .int (zI (bI (gd)))), (5, .int (zI (↑m))), (0, .ref o), (1, .int (zI (xs))), (2, .int (zI (x1))), (3, .int (zI (x2))), (4, .int (zI (x3)))]) hx hb qd_M_term_50 hl (by decide) rfl (fun ls hl => ?_)
              refine lv_aload_n hx hb qd_M_term_52 rfl (lv_at hl 4 rfl) ?_
              refine lv_iload hx hb qd_M_term_53 (lv_at hl 0 rfl) ?_
              refine rd_callB (W.runV (As := [.int (zI ((prtA x1 x2 x3 k)))]) (rest := []) ⟨hx, hb, hml, hown, hg⟩ (c_M_isTerm l dC dI cI cZ cT cJ o mA mR mW mC mS mL mT mH mY mE mG mB mO sy tc rc tw ar rk wt co sz lf rg hi hv ef gr bd ol (prtA x1 x2 x3 k) htc (hpb k)) ⟨callB_of 1 hg (gw_ok (fun _ h => h) wd_693) rfl rfl rfl (hg _ wd_6) (hg _ wd_690) (by decide +kernel) ⟨Nat.le_of_ble_eq_true rfl, Nat.le_of_ble_eq_true rfl⟩, hg _ wd_692, hg _ se_M_isTerm⟩ (rd_preV (va_recv (q0 := 0) hK hP rfl rfl) (pw_c (q := (o, .inr (6, [.int (zI (↑sy)), .ref mA, .ref mR, .ref mW, .int (zI (↑tc)), .ref mC, .ref mS, .int (zI (↑rc)), .ref mL, .ref mT, .ref mH, .ref mY, .ref mE, .ref mG, .ref mB, .ref mO, .int (zI (tw))]))) hP 0 rfl (pw_nil)) hK hN) rfl rfl hl.1 rfl (lv_room (Nat.le_of_ble_eq_true rfl)) qd_M_term_55 ⟨Nat.le_of_ble_eq_true rfl, Nat.le_of_ble_eq_true rfl⟩) (fun r55 hr55 => ?_)
              refine lv_istore (lv' := [(6, .int (zI (bI (r55)))), (8, .int (zI (prtA x1 x2 x3 k))), (7, .int (zI (↑k))), (5, .int (zI (↑m))), (0, .ref o), (1, .int (zI (xs))), (2, .int (zI (x1))), (3, .int (zI (x2))), (4, .int (zI (x3)))]) hx hb qd_M_term_58 hl (by decide) rfl (fun ls hl => ?_)
              refine lv_iload hx hb qd_M_term_60 (lv_at hl 0 rfl) ?_
              refine zz_ifeqB (tgt := 78) hx hb qd_M_term_62 (by decide) (fun h62 => ?_) (fun h62 => ?_)
              · skip
                refine lv_iload hx hb qd_M_term_78 (lv_at hl 3 rfl) ?_
                refine lv_istore (lv' := [(5, .int (zI (↑m))), (6, .int (zI (bI (r55)))), (8, .int (zI (prtA x1 x2 x3 k))), (7, .int (zI (↑k))), (0, .ref o), (1, .int (zI (xs))), (2, .int (zI (x1))), (3, .int (zI (x2))), (4, .int (zI (x3)))]) hx hb qd_M_term_80 hl (by decide) rfl (fun ls hl => ?_)
                refine lv_iinc (k := 3) (lv' := [(7, .int (zI (↑(k + 1)))), (5, .int (zI (↑m))), (6, .int (zI (bI (r55)))), (8, .int (zI (prtA x1 x2 x3 k))), (0, .ref o), (1, .int (zI (xs))), (2, .int (zI (x1))), (3, .int (zI (x2))), (4, .int (zI (x3)))]) hx hb qd_M_term_82 hl rfl (zI_inc (v := ↑(k + 1)) (by omega)) (by decide) rfl (fun ls hl => ?_)
                refine lv_goto (tgt := 13) hx hb qd_M_term_85 (by decide) ?_
                have hl := lv_sub (l' := [(7, .int (zI (↑(k + 1)))), (6, .int (zI (bI (r55)))), (5, .int (zI (↑m))), (0, .ref o), (1, .int (zI (xs))), (2, .int (zI (x1))), (3, .int (zI (x2))), (4, .int (zI (x3)))]) hl [0, 2, 1, 4, 5, 6, 7, 8] rfl
                exact ih13 _ (by omega) (k + 1) r55 m (by omega) (by first | omega | exact Nat.le_trans hmb (by omega)) (fun z9 => by first | (rw [h62] at z9; exact Bool.noConfusion z9) | exact ⟨k1, by omega, by rw [tR_len, ← k3], fun j hj => if h8 : j < k then k4 j h8 else (by rw [show j = k by omega]; exact hr55.mp h62)⟩) (fun z9 hG => by rw [hr55.mpr (hG.2 k (by omega))] at z9; exact Bool.noConfusion z9) rfl ls hl
              · skip
                have hpk := hr55.mp h62
                obtain ⟨hop, hzp, hcp⟩ := htp (prtA x1 x2 x3 k).toNat (by omega)
                have h16p := hop.2.1
                refine lv_iload hx hb qd_M_term_65 (lv_at hl 3 rfl) ?_
                refine lv_aload_n hx hb qd_M_term_67 rfl (lv_at hl 4 rfl) ?_
                refine va_get (D := (dC, dI)) (ci := 6) (v := .ref mS) (C := "TermOrdersModel") (T := qT_M) (N := 17) hx hb hg qi_M hown hK hP 0 rfl rfl 6 (by decide) (hg _ wd_624) (fun _ h9 => h9) rfl qd_M_term_68 ?_
                refine lv_iload hx hb qd_M_term_71 (lv_at hl 1 rfl) ?_
                refine zz_eald hx hb hK hP 2 0 rfl rfl ((prtA x1 x2 x3 k).toNat) (by omega) (by omega) (by omega) qd_M_term_73 ?_
                refine zz_top (b := ↑(tn (prtA x1 x2 x3 k).toNat)) (by rw [hzp]) ?_
                refine zz_iadd hx hb (↑(m + tn (prtA x1 x2 x3 k).toNat)) (by omega) qd_M_term_74 ?_
                refine lv_goto (tgt := 80) hx hb qd_M_term_75 (by decide) ?_
                refine lv_istore (lv' := [(5, .int (zI (↑(m + tn (prtA x1 x2 x3 k).toNat)))), (6, .int (zI (bI (r55)))), (8, .int (zI (prtA x1 x2 x3 k))), (7, .int (zI (↑k))), (0, .ref o), (1, .int (zI (xs))), (2, .int (zI (x1))), (3, .int (zI (x2))), (4, .int (zI (x3)))]) hx hb qd_M_term_80 hl (by decide) rfl (fun ls hl => ?_)
                refine lv_iinc (k := 3) (lv' := [(7, .int (zI (↑(k + 1)))), (5, .int (zI (↑(m + tn (prtA x1 x2 x3 k).toNat)))), (6, .int (zI (bI (r55)))), (8, .int (zI (prtA x1 x2 x3 k))), (0, .ref o), (1, .int (zI (xs))), (2, .int (zI (x1))), (3, .int (zI (x2))), (4, .int (zI (x3)))]) hx hb qd_M_term_82 hl rfl (zI_inc (v := ↑(k + 1)) (by omega)) (by decide) rfl (fun ls hl => ?_)
                refine lv_goto (tgt := 13) hx hb qd_M_term_85 (by decide) ?_
                have hl := lv_sub (l' := [(7, .int (zI (↑(k + 1)))), (6, .int (zI (bI (r55)))), (5, .int (zI (↑(m + tn (prtA x1 x2 x3 k).toNat)))), (0, .ref o), (1, .int (zI (xs))), (2, .int (zI (x1))), (3, .int (zI (x2))), (4, .int (zI (x3)))]) hl [0, 2, 1, 4, 5, 6, 7, 8] rfl
                exact ih13 _ (by omega) (k + 1) r55 (m + tn (prtA x1 x2 x3 k).toNat) (by omega) (by first | omega | exact Nat.le_trans hmb (by omega)) (fun z9 => by first | (rw [h62] at z9; exact Bool.noConfusion z9) | exact ⟨k1, by omega, by rw [tR_len, ← k3], fun j hj => if h8 : j < k then k4 j h8 else (by rw [show j = k by omega]; exact hr55.mp h62)⟩) (fun z9 hG => by rw [hr55.mpr (hG.2 k (by omega))] at z9; exact Bool.noConfusion z9) rfl ls hl
            · skip
              refine lv_iload_n hx hb qd_M_term_44 rfl (lv_at hl 6 rfl) ?_
              refine zz_top (b := prtA x1 x2 x3 k) (by unfold prtA; rw [if_neg (by omega), if_pos (by omega)]) ?_
              refine lv_goto (tgt := 50) hx hb qd_M_term_45 (by decide) ?_
              refine lv_istore (lv' := [(8, .int (zI (prtA x1 x2 x3 k))), (7, .int (zI (↑k))), (6, .int (zI (bI (gd)))), (5, .int (zI (↑m))), (0, .ref o), (1, .int (zI (xs))), (2, .int (zI (x1))), (3, .int (zI (x2))), (4, .int (zI (x3)))]) hx hb qd_M_term_50 hl (by decide) rfl (fun ls hl => ?_)
              refine lv_aload_n hx hb qd_M_term_52 rfl (lv_at hl 4 rfl) ?_
              refine lv_iload hx hb qd_M_term_53 (lv_at hl 0 rfl) ?_
              refine rd_callB (W.runV (As := [.int (zI ((prtA x1 x2 x3 k)))]) (rest := []) ⟨hx, hb, hml, hown, hg⟩ (c_M_isTerm l dC dI cI cZ cT cJ o mA mR mW mC mS mL mT mH mY mE mG mB mO sy tc rc tw ar rk wt co sz lf rg hi hv ef gr bd ol (prtA x1 x2 x3 k) htc (hpb k)) ⟨callB_of 1 hg (gw_ok (fun _ h => h) wd_693) rfl rfl rfl (hg _ wd_6) (hg _ wd_690) (by decide +kernel) ⟨Nat.le_of_ble_eq_true rfl, Nat.le_of_ble_eq_true rfl⟩, hg _ wd_692, hg _ se_M_isTerm⟩ (rd_preV (va_recv (q0 := 0) hK hP rfl rfl) (pw_c (q := (o, .inr (6, [.int (zI (↑sy)), .ref mA, .ref mR, .ref mW, .int (zI (↑tc)), .ref mC, .ref mS, .int (zI (↑rc)), .ref mL, .ref mT, .ref mH, .ref mY, .ref mE, .ref mG, .ref mB, .ref mO, .int (zI (tw))]))) hP 0 rfl (pw_nil)) hK hN) rfl rfl hl.1 rfl (lv_room (Nat.le_of_ble_eq_true rfl)) qd_M_term_55 ⟨Nat.le_of_ble_eq_true rfl, Nat.le_of_ble_eq_true rfl⟩) (fun r55 hr55 => ?_)
              refine lv_istore (lv' := [(6, .int (zI (bI (r55)))), (8, .int (zI (prtA x1 x2 x3 k))), (7, .int (zI (↑k))), (5, .int (zI (↑m))), (0, .ref o), (1, .int (zI (xs))), (2, .int (zI (x1))), (3, .int (zI (x2))), (4, .int (zI (x3)))]) hx hb qd_M_term_58 hl (by decide) rfl (fun ls hl => ?_)
              refine lv_iload hx hb qd_M_term_60 (lv_at hl 0 rfl) ?_
              refine zz_ifeqB (tgt := 78) hx hb qd_M_term_62 (by decide) (fun h62 => ?_) (fun h62 => ?_)
              · skip
                refine lv_iload hx hb qd_M_term_78 (lv_at hl 3 rfl) ?_
                refine lv_istore (lv' := [(5, .int (zI (↑m))), (6, .int (zI (bI (r55)))), (8, .int (zI (prtA x1 x2 x3 k))), (7, .int (zI (↑k))), (0, .ref o), (1, .int (zI (xs))), (2, .int (zI (x1))), (3, .int (zI (x2))), (4, .int (zI (x3)))]) hx hb qd_M_term_80 hl (by decide) rfl (fun ls hl => ?_)
                refine lv_iinc (k := 3) (lv' := [(7, .int (zI (↑(k + 1)))), (5, .int (zI (↑m))), (6, .int (zI (bI (r55)))), (8, .int (zI (prtA x1 x2 x3 k))), (0, .ref o), (1, .int (zI (xs))), (2, .int (zI (x1))), (3, .int (zI (x2))), (4, .int (zI (x3)))]) hx hb qd_M_term_82 hl rfl (zI_inc (v := ↑(k + 1)) (by omega)) (by decide) rfl (fun ls hl => ?_)
                refine lv_goto (tgt := 13) hx hb qd_M_term_85 (by decide) ?_
                have hl := lv_sub (l' := [(7, .int (zI (↑(k + 1)))), (6, .int (zI (bI (r55)))), (5, .int (zI (↑m))), (0, .ref o), (1, .int (zI (xs))), (2, .int (zI (x1))), (3, .int (zI (x2))), (4, .int (zI (x3)))]) hl [0, 2, 1, 4, 5, 6, 7, 8] rfl
                exact ih13 _ (by omega) (k + 1) r55 m (by omega) (by first | omega | exact Nat.le_trans hmb (by omega)) (fun z9 => by first | (rw [h62] at z9; exact Bool.noConfusion z9) | exact ⟨k1, by omega, by rw [tR_len, ← k3], fun j hj => if h8 : j < k then k4 j h8 else (by rw [show j = k by omega]; exact hr55.mp h62)⟩) (fun z9 hG => by rw [hr55.mpr (hG.2 k (by omega))] at z9; exact Bool.noConfusion z9) rfl ls hl
              · skip
                have hpk := hr55.mp h62
                obtain ⟨hop, hzp, hcp⟩ := htp (prtA x1 x2 x3 k).toNat (by omega)
                have h16p := hop.2.1
                refine lv_iload hx hb qd_M_term_65 (lv_at hl 3 rfl) ?_
                refine lv_aload_n hx hb qd_M_term_67 rfl (lv_at hl 4 rfl) ?_
                refine va_get (D := (dC, dI)) (ci := 6) (v := .ref mS) (C := "TermOrdersModel") (T := qT_M) (N := 17) hx hb hg qi_M hown hK hP 0 rfl rfl 6 (by decide) (hg _ wd_624) (fun _ h9 => h9) rfl qd_M_term_68 ?_
                refine lv_iload hx hb qd_M_term_71 (lv_at hl 1 rfl) ?_
                refine zz_eald hx hb hK hP 2 0 rfl rfl ((prtA x1 x2 x3 k).toNat) (by omega) (by omega) (by omega) qd_M_term_73 ?_
                refine zz_top (b := ↑(tn (prtA x1 x2 x3 k).toNat)) (by rw [hzp]) ?_
                refine zz_iadd hx hb (↑(m + tn (prtA x1 x2 x3 k).toNat)) (by omega) qd_M_term_74 ?_
                refine lv_goto (tgt := 80) hx hb qd_M_term_75 (by decide) ?_
                refine lv_istore (lv' := [(5, .int (zI (↑(m + tn (prtA x1 x2 x3 k).toNat)))), (6, .int (zI (bI (r55)))), (8, .int (zI (prtA x1 x2 x3 k))), (7, .int (zI (↑k))), (0, .ref o), (1, .int (zI (xs))), (2, .int (zI (x1))), (3, .int (zI (x2))), (4, .int (zI (x3)))]) hx hb qd_M_term_80 hl (by decide) rfl (fun ls hl => ?_)
                refine lv_iinc (k := 3) (lv' := [(7, .int (zI (↑(k + 1)))), (5, .int (zI (↑(m + tn (prtA x1 x2 x3 k).toNat)))), (6, .int (zI (bI (r55)))), (8, .int (zI (prtA x1 x2 x3 k))), (0, .ref o), (1, .int (zI (xs))), (2, .int (zI (x1))), (3, .int (zI (x2))), (4, .int (zI (x3)))]) hx hb qd_M_term_82 hl rfl (zI_inc (v := ↑(k + 1)) (by omega)) (by decide) rfl (fun ls hl => ?_)
                refine lv_goto (tgt := 13) hx hb qd_M_term_85 (by decide) ?_
                have hl := lv_sub (l' := [(7, .int (zI (↑(k + 1)))), (6, .int (zI (bI (r55)))), (5, .int (zI (↑(m + tn (prtA x1 x2 x3 k).toNat)))), (0, .ref o), (1, .int (zI (xs))), (2, .int (zI (x1))), (3, .int (zI (x2))), (4, .int (zI (x3)))]) hl [0, 2, 1, 4, 5, 6, 7, 8] rfl
                exact ih13 _ (by omega) (k + 1) r55 (m + tn (prtA x1 x2 x3 k).toNat) (by omega) (by first | omega | exact Nat.le_trans hmb (by omega)) (fun z9 => by first | (rw [h62] at z9; exact Bool.noConfusion z9) | exact ⟨k1, by omega, by rw [tR_len, ← k3], fun j hj => if h8 : j < k then k4 j h8 else (by rw [show j = k by omega]; exact hr55.mp h62)⟩) (fun z9 hG => by rw [hr55.mpr (hG.2 k (by omega))] at z9; exact Bool.noConfusion z9) rfl ls hl
          · skip
            refine lv_iload_n hx hb qd_M_term_34 rfl (lv_at hl 5 rfl) ?_
            refine zz_top (b := prtA x1 x2 x3 k) (by unfold prtA; rw [if_pos (by omega)]) ?_
            refine lv_goto (tgt := 50) hx hb qd_M_term_35 (by decide) ?_
            refine lv_istore (lv' := [(8, .int (zI (prtA x1 x2 x3 k))), (7, .int (zI (↑k))), (6, .int (zI (bI (gd)))), (5, .int (zI (↑m))), (0, .ref o), (1, .int (zI (xs))), (2, .int (zI (x1))), (3, .int (zI (x2))), (4, .int (zI (x3)))]) hx hb qd_M_term_50 hl (by decide) rfl (fun ls hl => ?_)
            refine lv_aload_n hx hb qd_M_term_52 rfl (lv_at hl 4 rfl) ?_
            refine lv_iload hx hb qd_M_term_53 (lv_at hl 0 rfl) ?_
            refine rd_callB (W.runV (As := [.int (zI ((prtA x1 x2 x3 k)))]) (rest := []) ⟨hx, hb, hml, hown, hg⟩ (c_M_isTerm l dC dI cI cZ cT cJ o mA mR mW mC mS mL mT mH mY mE mG mB mO sy tc rc tw ar rk wt co sz lf rg hi hv ef gr bd ol (prtA x1 x2 x3 k) htc (hpb k)) ⟨callB_of 1 hg (gw_ok (fun _ h => h) wd_693) rfl rfl rfl (hg _ wd_6) (hg _ wd_690) (by decide +kernel) ⟨Nat.le_of_ble_eq_true rfl, Nat.le_of_ble_eq_true rfl⟩, hg _ wd_692, hg _ se_M_isTerm⟩ (rd_preV (va_recv (q0 := 0) hK hP rfl rfl) (pw_c (q := (o, .inr (6, [.int (zI (↑sy)), .ref mA, .ref mR, .ref mW, .int (zI (↑tc)), .ref mC, .ref mS, .int (zI (↑rc)), .ref mL, .ref mT, .ref mH, .ref mY, .ref mE, .ref mG, .ref mB, .ref mO, .int (zI (tw))]))) hP 0 rfl (pw_nil)) hK hN) rfl rfl hl.1 rfl (lv_room (Nat.le_of_ble_eq_true rfl)) qd_M_term_55 ⟨Nat.le_of_ble_eq_true rfl, Nat.le_of_ble_eq_true rfl⟩) (fun r55 hr55 => ?_)
            refine lv_istore (lv' := [(6, .int (zI (bI (r55)))), (8, .int (zI (prtA x1 x2 x3 k))), (7, .int (zI (↑k))), (5, .int (zI (↑m))), (0, .ref o), (1, .int (zI (xs))), (2, .int (zI (x1))), (3, .int (zI (x2))), (4, .int (zI (x3)))]) hx hb qd_M_term_58 hl (by decide) rfl (fun ls hl => ?_)
            refine lv_iload hx hb qd_M_term_60 (lv_at hl 0 rfl) ?_
            refine zz_ifeqB (tgt := 78) hx hb qd_M_term_62 (by decide) (fun h62 => ?_) (fun h62 => ?_)
            · skip
              refine lv_iload hx hb qd_M_term_78 (lv_at hl 3 rfl) ?_
              refine lv_istore (lv' := [(5, .int (zI (↑m))), (6, .int (zI (bI (r55)))), (8, .int (zI (prtA x1 x2 x3 k))), (7, .int (zI (↑k))), (0, .ref o), (1, .int (zI (xs))), (2, .int (zI (x1))), (3, .int (zI (x2))), (4, .int (zI (x3)))]) hx hb qd_M_term_80 hl (by decide) rfl (fun ls hl => ?_)
              refine lv_iinc (k := 3) (lv' := [(7, .int (zI (↑(k + 1)))), (5, .int (zI (↑m))), (6, .int (zI (bI (r55)))), (8, .int (zI (prtA x1 x2 x3 k))), (0, .ref o), (1, .int (zI (xs))), (2, .int (zI (x1))), (3, .int (zI (x2))), (4, .int (zI (x3)))]) hx hb qd_M_term_82 hl rfl (zI_inc (v := ↑(k + 1)) (by omega)) (by decide) rfl (fun ls hl => ?_)
              refine lv_goto (tgt := 13) hx hb qd_M_term_85 (by decide) ?_
              have hl := lv_sub (l' := [(7, .int (zI (↑(k + 1)))), (6, .int (zI (bI (r55)))), (5, .int (zI (↑m))), (0, .ref o), (1, .int (zI (xs))), (2, .int (zI (x1))), (3, .int (zI (x2))), (4, .int (zI (x3)))]) hl [0, 2, 1, 4, 5, 6, 7, 8] rfl
              exact ih13 _ (by omega) (k + 1) r55 m (by omega) (by first | omega | exact Nat.le_trans hmb (by omega)) (fun z9 => by first | (rw [h62] at z9; exact Bool.noConfusion z9) | exact ⟨k1, by omega, by rw [tR_len, ← k3], fun j hj => if h8 : j < k then k4 j h8 else (by rw [show j = k by omega]; exact hr55.mp h62)⟩) (fun z9 hG => by rw [hr55.mpr (hG.2 k (by omega))] at z9; exact Bool.noConfusion z9) rfl ls hl
            · skip
              have hpk := hr55.mp h62
              obtain ⟨hop, hzp, hcp⟩ := htp (prtA x1 x2 x3 k).toNat (by omega)
              have h16p := hop.2.1
              refine lv_iload hx hb qd_M_term_65 (lv_at hl 3 rfl) ?_
              refine lv_aload_n hx hb qd_M_term_67 rfl (lv_at hl 4 rfl) ?_
              refine va_get (D := (dC, dI)) (ci := 6) (v := .ref mS) (C := "TermOrdersModel") (T := qT_M) (N := 17) hx hb hg qi_M hown hK hP 0 rfl rfl 6 (by decide) (hg _ wd_624) (fun _ h9 => h9) rfl qd_M_term_68 ?_
              refine lv_iload hx hb qd_M_term_71 (lv_at hl 1 rfl) ?_
              refine zz_eald hx hb hK hP 2 0 rfl rfl ((prtA x1 x2 x3 k).toNat) (by omega) (by omega) (by omega) qd_M_term_73 ?_
              refine zz_top (b := ↑(tn (prtA x1 x2 x3 k).toNat)) (by rw [hzp]) ?_
              refine zz_iadd hx hb (↑(m + tn (prtA x1 x2 x3 k).toNat)) (by omega) qd_M_term_74 ?_
              refine lv_goto (tgt := 80) hx hb qd_M_term_75 (by decide) ?_
              refine lv_istore (lv' := [(5, .int (zI (↑(m + tn (prtA x1 x2 x3 k).toNat)))), (6, .int (zI (bI (r55)))), (8, .int (zI (prtA x1 x2 x3 k))), (7, .int (zI (↑k))), (0, .ref o), (1, .int (zI (xs))), (2, .int (zI (x1))), (3, .int (zI (x2))), (4, .int (zI (x3)))]) hx hb qd_M_term_80 hl (by decide) rfl (fun ls hl => ?_)
              refine lv_iinc (k := 3) (lv' := [(7, .int (zI (↑(k + 1)))), (5, .int (zI (↑(m + tn (prtA x1 x2 x3 k).toNat)))), (6, .int (zI (bI (r55)))), (8, .int (zI (prtA x1 x2 x3 k))), (0, .ref o), (1, .int (zI (xs))), (2, .int (zI (x1))), (3, .int (zI (x2))), (4, .int (zI (x3)))]) hx hb qd_M_term_82 hl rfl (zI_inc (v := ↑(k + 1)) (by omega)) (by decide) rfl (fun ls hl => ?_)
              refine lv_goto (tgt := 13) hx hb qd_M_term_85 (by decide) ?_
              have hl := lv_sub (l' := [(7, .int (zI (↑(k + 1)))), (6, .int (zI (bI (r55)))), (5, .int (zI (↑(m + tn (prtA x1 x2 x3 k).toNat)))), (0, .ref o), (1, .int (zI (xs))), (2, .int (zI (x1))), (3, .int (zI (x2))), (4, .int (zI (x3)))]) hl [0, 2, 1, 4, 5, 6, 7, 8] rfl
              exact ih13 _ (by omega) (k + 1) r55 (m + tn (prtA x1 x2 x3 k).toNat) (by omega) (by first | omega | exact Nat.le_trans hmb (by omega)) (fun z9 => by first | (rw [h62] at z9; exact Bool.noConfusion z9) | exact ⟨k1, by omega, by rw [tR_len, ← k3], fun j hj => if h8 : j < k then k4 j h8 else (by rw [show j = k by omega]; exact hr55.mp h62)⟩) (fun z9 hG => by rw [hr55.mpr (hG.2 k (by omega))] at z9; exact Bool.noConfusion z9) rfl ls hl
  have q9 : (1 : Int) = ↑1 := rfl
  have hl : lv_has ls 10 [(7, .int (zI (0))), (6, .int (zI (bI (r5)))), (5, .int (zI (↑1))), (0, .ref o), (1, .int (zI (xs))), (2, .int (zI (x1))), (3, .int (zI (x2))), (4, .int (zI (x3)))] := (congrArg (fun z9 : Int => lv_has ls 10 [(7, .int (zI (0))), (6, .int (zI (bI (r5)))), (5, .int (zI (z9))), (0, .ref o), (1, .int (zI (xs))), (2, .int (zI (x1))), (3, .int (zI (x2))), (4, .int (zI (x3)))]) q9).mp hl
  exact L13 _ 0 r5 1 (by omega) (by omega) (fun z9 => ⟨hr5.mp z9, Nat.zero_le _, rfl, fun j hj => by omega⟩) (fun z9 hG => by rw [hr5.mpr hG.1] at z9; exact Bool.noConfusion z9) rfl ls hl
