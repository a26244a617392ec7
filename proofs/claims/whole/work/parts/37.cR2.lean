theorem okT_row {sy : Nat} {ar : Nat → Int} {n : Nat} {th tm : Nat → Int} {te : Nat → Nat} {ht : Nat → Int} (h : okT sy ar n th tm te ht) : rowL tm n := wf_row h.1 h.2.2.2.2.2.1 h.2.2.2.2.1
theorem okT_v {sy : Nat} {ar : Nat → Int} {n : Nat} {th tm : Nat → Int} {te : Nat → Nat} {ht : Nat → Int} (h : okT sy ar n th tm te ht) : ∀ i, i < n → th i < 0 → tm i = 0 := by
  intro i hi hv
  rw [h.2.2.2.1 i hi]
  unfold mny
  rw [if_pos hv]
/-- the walk to the first innermost match: what was found up to place p -/
def inI (M : Nat → Prop) (e : Nat → Nat) (n p : Nat) (f : Int) (en : Nat) : Prop :=
  (f = -1 ∧ en = n ∧ ∀ k, k < p → ¬ M k) ∨ (∃ f0 : Nat, f = ↑f0 ∧ f0 < p ∧ M f0 ∧ en = e f0 ∧ p ≤ e f0 ∧ (∀ k, f0 < k → k < p → ¬ M k) ∧ ∀ k, k < f0 → ¬ inn M e k)
theorem inI_no {M : Nat → Prop} {e : Nat → Nat} {n p : Nat} {f : Int} {en : Nat} (hn : ¬ M p) (h : inI M e n p f en) (hlt : p < en) : inI M e n (p + 1) f en := by
  rcases h with ⟨a1, a2, a3⟩ | ⟨f0, a1, a2, a3, a4, a5, a6, a7⟩
  · refine Or.inl ⟨a1, a2, fun k hk => ?_⟩
    by_cases e1 : k = p
    · rw [e1]; exact hn
    · exact a3 k (by omega)
  · refine Or.inr ⟨f0, a1, by omega, a3, a4, by omega, fun k k1 k2 => ?_, a7⟩
    by_cases e1 : k = p
    · rw [e1]; exact hn
    · exact a6 k k1 (by omega)
theorem inI_yes {M : Nat → Prop} {m : Nat → Int} {e : Nat → Nat} {n p : Nat} {f : Int} {en : Nat} (w : wfE m n e) (hp : p < n) (hy : M p) (h : inI M e n p f en) (hlt : p < en) : inI M e n (p + 1) ↑p (e p) := by
  have hw := (w p hp).1
  refine Or.inr ⟨p, rfl, by omega, hy, rfl, by omega, fun k k1 k2 => by omega, fun k hk hin => ?_⟩
  rcases h with ⟨a1, a2, a3⟩ | ⟨f0, a1, a2, a3, a4, a5, a6, a7⟩
  · exact a3 k hk hin.1
  · by_cases e1 : k < f0
    · exact a7 k e1 hin
    · by_cases e2 : k = f0
      · rw [e2] at hin
        exact hin.2 p a2 (by omega) hy
      · exact a6 k (by omega) hk hin.1
theorem inI_end {M : Nat → Prop} {m : Nat → Int} {e : Nat → Nat} {n p : Nat} {f : Int} {en : Nat} (w : wfE m n e) (hp : p ≤ n) (hen : en ≤ n) (h : inI M e n p f en) (hx : n ≤ p ∨ en ≤ p) : (∃ k : Nat, f = ↑k ∧ inF M e n k) ∨ (f = -1 ∧ ∀ k, k < n → ¬ M k) := by
  rcases h with ⟨a1, a2, a3⟩ | ⟨f0, a1, a2, a3, a4, a5, a6, a7⟩
  · exact Or.inr ⟨a1, fun k hk => a3 k (by omega)⟩
  · refine Or.inl ⟨f0, a1, by omega, ⟨a3, fun q q1 q2 => a6 q q1 (by omega)⟩, a7⟩
theorem st_bound {sy : Nat} {ar : Nat → Int} {n n1 : Nat} {th tm th1 tm1 : Nat → Int} {te te1 : Nat → Nat} {ht ht1 : Nat → Int} {k q : Nat} {b : Nat → Int} {c : Int} (h1 : okT sy ar n1 th1 tm1 te1 ht1) (h : okT sy ar n th tm te ht) (hk : k < n) (hM : MR th1 th te k n1 q b) (hc : ∃ i, i < n1 ∧ th1 i = c) : c < 0 → ∃ x : Nat, b (-1 - c).toNat = ↑x ∧ x < n := by
  intro hc0
  obtain ⟨i, i1, rfl⟩ := hc
  have a := MR_bound hM i i1 hc0
  obtain ⟨_, _, _, m4⟩ := MR_in (el := te) (okT_row h1) h.2.2.2.2.1 hk (fun x y hx hy _ he => okT_mm h1 h x y hx hy he) (okT_v h1) (Nat.le_refl _) hM
  have w := (h.2.2.2.2.1 k hk).2.1
  rcases m4 (-1 - th1 i).toNat with z | ⟨r, z1, z2, z3⟩
  · omega
  · exact ⟨r, z1, by omega⟩
set_option maxHeartbeats 4000000 in
set_option maxRecDepth 100000 in
theorem c_R_leastMatchingRule (l : Launch) (dC : Nat → ClassId) (dI : Nat → Nat → Nat) (cI cZ cT cJ : ClassId) (orr rL rR rB rc : Nat) (lf rf : Nat → Option Nat) (bd : Nat → Int) (ta tH tP tE tn : Nat → Nat) (TH TM : Nat → Nat → Int) (TE : Nat → Nat → Nat) (TG : Nat → Int) (HT : Nat → Nat → Int) (LI RI : Nat → Nat) (pl : va_W) (tc sy : Nat) (ar : Nat → Int) (a aH aP aE n : Nat) (th tm : Nat → Int) (te : Nat → Nat) (tg : Int) (ht : Nat → Int) (p : Nat) (zh : Nat) (hsy : sy ≤ 5) (har : ∀ q, q < 5 → 0 ≤ ar q ∧ ar q ≤ 3) (htp : ∀ t, t < tc → okT sy ar (tn t) (TH t) (TM t) (TE t) (HT t) ∧ tin pl cI (ta t) (tH t) (tP t) (tE t) (tn t) (TH t) (TM t) (TE t) (TG t)) (hlr : ∀ r, r < rc → LI r < tc ∧ RI r < tc ∧ lf r = some (ta (LI r)) ∧ rf r = some (ta (RI r)) ∧ ∀ q, q < tn (RI r) → TH (RI r) q < 0 → ∃ k, k < tn (LI r) ∧ TH (LI r) k = TH (RI r) q) (hrc : rc ≤ 8) (hot : okT sy ar n th tm te ht) (hp : p < n) : Met l qy_R_leastMatchingRule qw_R_leastMatchingRule ({ frames := 3, cells := 0, slots := 0, locals := 73 }) (mwP (dC, dI) qcl (qty cI cZ cT cJ) nwL [(rB, .inl (cI, 4, .inl (zA bd)))] ([(orr, .inr (4, [.ref rL, .ref rR, .ref rB, .int (zI (↑rc))])), (rL, .inl (cT, 8, .inr (.inr (.inr (.inr lf))))), (a, .inr (1, [.ref aH, .ref aP, .ref aE, .int (zI (↑n)), .int (zI (tg))])), (aH, .inl (cI, n, .inl (zA th))), (aP, .inl (cI, n, .inl (zA tm))), (aE, .inl (cI, n, .inl (zA (eI te))))] ++ pl) zh [.ref orr, .ref a, .int (zI (↑p))]) (mwI (S := (Nat → Int)) (fun r uq => (∃ r0 : Nat, r = ↑r0 ∧ r0 < rc ∧ (∃ q, MR (TH (LI r0)) th te p (tn (LI r0)) q uq) ∧ ∀ s, s < r0 → ¬ MA (TH (LI s)) (tn (LI s)) th te p) ∨ (r = -1 ∧ ∀ s, s < rc → ¬ MA (TH (LI s)) (tn (LI s)) th te p)) (fun uq tq => mwB (dC, dI) qcl (qty cI cZ cT cJ) (va_A [(rB, .inl (cI, 4, .inl (zA bd)))] zh) [(rB, .inl (cI, 4, .inl (zA uq)))] tq) (va_A [(rB, .inl (cI, 4, .inl (zA bd)))] zh)) 0 0 (va_A [(rB, .inl (cI, 4, .inl (zA bd)))] zh) := by
  refine Met.ofW (cc := qc_R_leastMatchingRule) (maxL := 4) (ret := (Option.some Jvm.ClassFile.FieldType.int)) (by decide) rfl ?_
  intro pg eg sg mg args below meth cg s₁ B hml hv
  obtain ⟨rfl, hsz, hP, hF0, hK, hN, hD0, hap⟩ := hv
  have hx := B.exec
  have hb := B.bytes
  have hr := B.returns
  have hts := atoms_spec (ws := qw_R_leastMatchingRule) B.pre
  have hg : ∀ w ∈ gw, w.before _ sg = true := fun w h => hts w (List.mem_cons_of_mem _ h)
  have hown : sg.vm.findClass "TermOrders$Rules" = some mg.cls := findClass_of_methodNamed B.named
  have hlocks := B.notSynchronized
  have hl := lv_entry ([.ref orr, .ref a, .int (zI (↑p))]) (n := 4) (Nat.le_of_ble_eq_true rfl)
  rw [lg_entry_eq]
  generalize (lg_sl ([.ref orr, .ref a, .int (zI (↑p))]) ++ List.replicate (4 - (lg_sl ([.ref orr, .ref a, .int (zI (↑p))])).length) Slot.unset).toArray = ls at hl ⊢
  subst hsz
  have hD := hD0.self (sz := sg.heap.size)
  have hFA := apw_A hap (fun k q hk => (hF0 k q hk).lt)
  generalize hAe : va_A [(rB, .inl (cI, 4, .inl (zA bd)))] sg.heap.size = A at hD hFA ⊢
  have hA : ∀ q : Nat, sg.heap.size ≤ q → A q := fun q h => by rw [← hAe]; exact Or.inr h
  have hS : va_S A sg.heap sg.heap [] := va_S.rf
  have hF := hF0
  have hl : lv_has ls 4 [(0, .ref orr), (1, .ref a), (2, .int (zI (↑p)))] := hl
  have h16 := hot.2.1
  have hh := okT_hh hsy hot
  have we := hot.2.2.2.2.1
  refine lv_iconst (v := zI 0) hx hb qd_R_leastMatchingRule_0 rfl ?_
  refine lv_istore_n (lv' := [(3, .int (zI (0))), (0, .ref orr), (1, .ref a), (2, .int (zI (↑p)))]) hx hb qd_R_leastMatchingRule_1 rfl hl (by decide) rfl (fun ls hl => ?_)
  have L2 : ∀ (d9 : Nat) (i : Nat) (bz : Nat → Int), (i ≤ rc) → (∀ s, s < i → ¬ MA (TH (LI s)) (tn (LI s)) th te p) → rc - i = d9 → ∀ (H2_1 : Heap) (L2_1 : List Loc), va_P (dC, dI) qcl [(rB, .inl (cI, 4, .inl (zA bz)))] H2_1 → va_D A [(rB, .inl (cI, 4, .inl (zA bz)))] → va_S A sg.heap H2_1 L2_1 → ∀ ls : Array Slot, lv_has ls 4 [(3, .int (zI (↑i))), (0, .ref orr), (1, .ref a), (2, .int (zI (↑p)))] → W pg l eg (headSpec qw_R_leastMatchingRule ({ frames := 3, cells := 0, slots := 0, locals := 73 })).room sg mg ([.ref orr, .ref a, .int (zI (↑p))] : List Value).toArray below meth cg H2_1 L2_1 0 0 (MQ below (mwI (S := (Nat → Int)) (fun r uq => (∃ r0 : Nat, r = ↑r0 ∧ r0 < rc ∧ (∃ q, MR (TH (LI r0)) th te p (tn (LI r0)) q uq) ∧ ∀ s, s < r0 → ¬ MA (TH (LI s)) (tn (LI s)) th te p) ∨ (r = -1 ∧ ∀ s, s < rc → ¬ MA (TH (LI s)) (tn (LI s)) th te p)) (fun uq tq => mwB (dC, dI) qcl (qty cI cZ cT cJ) A [(rB, .inl (cI, 4, .inl (zA uq)))] tq) A) ([.ref orr, .ref a, .int (zI (↑p))] : List Value).toArray sg 0 0 A) (F0 mg 2 ls []) := by
    intro d9
    induction d9 using Nat.strongRecOn with
    | _ d9 ih2 =>
      intro i bz hi hz hd9 H2_1 L2_1 hP hD hS ls hl
      have hF := fz_keep hF0 hFA hS
      refine lv_iload_n hx hb qd_R_leastMatchingRule_2 rfl (lv_at hl 0 rfl) ?_
      refine lv_aload_n hx hb qd_R_leastMatchingRule_3 rfl (lv_at hl 1 rfl) ?_
      refine va_get (D := (dC, dI)) (ci := 4) (v := .int (zI (↑rc))) (C := "TermOrders$Rules") (T := qT_R) (N := 4) hx hb hg qi_R hown hK hF 0 rfl rfl 3 (by decide) (hg _ wd_95) (fun _ h9 => h9) rfl qd_R_leastMatchingRule_4 ?_
      refine zz_icmp_ge (tgt := 33) hx hb qd_R_leastMatchingRule_7 (by decide) (by omega) (by omega) (fun h7 => ?_) (fun h7 => ?_)
      · skip
        refine lv_iconst (v := zI (-1)) hx hb qd_R_leastMatchingRule_33 rfl ?_
        exact W.iret (v := zI ((-1))) hx hb hr (fun t9 ht9 hW9 => ⟨⟨(-1), bz, rfl, (Or.inr ⟨rfl, fun s hs => hz s (by omega)⟩), mwB_i (by rw [ht9]; exact hP) (va_K.moved hW9.alike hK) hD⟩, hS.F ht9⟩) hS.2.2 qd_R_leastMatchingRule_34
      · skip
        obtain ⟨hr1, hr2, hr3, hr4, hr5⟩ := hlr i (by omega)
        obtain ⟨ho9, ⟨k0, hk0⟩, ⟨k1, hk1⟩, ⟨k2, hk2⟩, ⟨k3, hk3⟩⟩ := htp (LI i) hr1
        refine lv_aload_n hx hb qd_R_leastMatchingRule_10 rfl (lv_at hl 1 rfl) ?_
        refine lv_aload_n hx hb qd_R_leastMatchingRule_11 rfl (lv_at hl 1 rfl) ?_
        refine va_get (D := (dC, dI)) (ci := 4) (v := .ref rL) (C := "TermOrders$Rules") (T := qT_R) (N := 4) hx hb hg qi_R hown hK hF 0 rfl rfl 0 (by decide) (hg _ wd_90) (fun _ h9 => h9) rfl qd_R_leastMatchingRule_12 ?_
        refine lv_iload_n hx hb qd_R_leastMatchingRule_15 rfl (lv_at hl 0 rfl) ?_
        refine zz_aald hx hb hK hF 1 2 rfl rfl i rfl (by omega) (by omega) (r := (ta (LI i))) hr3 qd_R_leastMatchingRule_16 ?_
        refine lv_aload_n hx hb qd_R_leastMatchingRule_17 rfl (lv_at hl 2 rfl) ?_
        refine lv_iload_n hx hb qd_R_leastMatchingRule_18 rfl (lv_at hl 3 rfl) ?_
        have hPc := hP.sub (ws' := [(rB, .inl (cI, 4, .inl (zA bz)))]) [0] rfl
        have hDc := hD.sub (ws' := [(rB, .inl (cI, 4, .inl (zA bz)))]) [0] (by decide) rfl
        have hFr := va_free (wc := [(rB, .inl (cI, 4, .inl (zA bz)))]) hD hS hA [0] rfl
        refine mw_callO (va_runV (As := [.ref ((ta (LI i))), .ref a, .int (zI (↑p))]) (rest := []) ⟨hx, hb, hml, hown, hg⟩ (c_R_bindMatch l dC dI cI cZ cT cJ orr rL rR rB rc lf rf bz (ta (LI i)) (tH (LI i)) (tP (LI i)) (tE (LI i)) (tn (LI i)) (TH (LI i)) (TM (LI i)) (TE (LI i)) (TG (LI i)) a aH aP aE n th tm te tg p H2_1.size ho9.2.1 (okT_hh hsy ho9) (okT_row ho9) (okT_v ho9) (fun x y hx hy _ he => okT_mm ho9 hot x y hx hy he) h16 hh we hp) ⟨callB_of 3 hg (gw_ok (fun _ h => h) wd_562) rfl rfl rfl (hg _ wd_4) (hg _ wd_559) (by decide +kernel) ⟨Nat.le_of_ble_eq_true rfl, Nat.le_of_ble_eq_true rfl⟩, hg _ wd_561, hg _ se_R_bindMatch⟩ (mw_preV (va_recv (q0 := 0) hK hF rfl rfl) hPc (pw_c (q := (orr, .inr (4, [.ref rL, .ref rR, .ref rB, .int (zI (↑rc))]))) hF 0 rfl (pw_c (q := ((ta (LI i)), .inr (1, [.ref ((tH (LI i))), .ref ((tP (LI i))), .ref ((tE (LI i))), .int (zI (↑(tn (LI i)))), .int (zI ((TG (LI i))))]))) hF (k0 + 6) hk0 (pw_c (q := ((tH (LI i)), .inl (cI, (tn (LI i)), .inl (zA ((TH (LI i))))))) hF (k1 + 6) hk1 (pw_c (q := ((tP (LI i)), .inl (cI, (tn (LI i)), .inl (zA ((TM (LI i))))))) hF (k2 + 6) hk2 (pw_c (q := ((tE (LI i)), .inl (cI, (tn (LI i)), .inl (zA (eI ((TE (LI i)))))))) hF (k3 + 6) hk3 (pw_c (q := (a, .inr (1, [.ref aH, .ref aP, .ref aE, .int (zI (↑n)), .int (zI (tg))]))) hF 2 rfl (pw_c (q := (aH, .inl (cI, n, .inl (zA th)))) hF 3 rfl (pw_c (q := (aP, .inl (cI, n, .inl (zA tm)))) hF 4 rfl (pw_c (q := (aE, .inl (cI, n, .inl (zA (eI te))))) hF 5 rfl (pw_nil)))))))))) hK hN hDc (apw_c (q := (orr, .inr (4, [.ref rL, .ref rR, .ref rB, .int (zI (↑rc))]))) (apw_f hD [0] rfl (hFA 0 _ rfl)) (apw_c (q := ((ta (LI i)), .inr (1, [.ref ((tH (LI i))), .ref ((tP (LI i))), .ref ((tE (LI i))), .int (zI (↑(tn (LI i)))), .int (zI ((TG (LI i))))]))) (apw_f hD [0] rfl (hFA (k0 + 6) _ hk0)) (apw_c (q := ((tH (LI i)), .inl (cI, (tn (LI i)), .inl (zA ((TH (LI i))))))) (apw_f hD [0] rfl (hFA (k1 + 6) _ hk1)) (apw_c (q := ((tP (LI i)), .inl (cI, (tn (LI i)), .inl (zA ((TM (LI i))))))) (apw_f hD [0] rfl (hFA (k2 + 6) _ hk2)) (apw_c (q := ((tE (LI i)), .inl (cI, (tn (LI i)), .inl (zA (eI ((TE (LI i)))))))) (apw_f hD [0] rfl (hFA (k3 + 6) _ hk3)) (apw_c (q := (a, .inr (1, [.ref aH, .ref aP, .ref aE, .int (zI (↑n)), .int (zI (tg))]))) (apw_f hD [0] rfl (hFA 2 _ rfl)) (apw_c (q := (aH, .inl (cI, n, .inl (zA th)))) (apw_f hD [0] rfl (hFA 3 _ rfl)) (apw_c (q := (aP, .inl (cI, n, .inl (zA tm)))) (apw_f hD [0] rfl (hFA 4 _ rfl)) (apw_c (q := (aE, .inl (cI, n, .inl (zA (eI te))))) (apw_f hD [0] rfl (hFA 5 _ rfl)) (apw_nil))))))))))) rfl rfl hl.1 rfl (lv_room (Nat.le_of_ble_eq_true rfl)) qd_R_leastMatchingRule_19 ⟨Nat.le_of_ble_eq_true rfl, Nat.le_of_ble_eq_true rfl⟩) hS (fun q _ h => hFr q h) hFr (fun r19 b3 t9 H19_2 L19_2 ht9 hv9 hr19 hB9 hz9 hk9 hS => ?_)
        try dsimp only at hr19 hB9
        obtain ⟨hP, hD⟩ := mw_join (wr := []) (w1 := [(rB, .inl (cI, 4, .inl (zA b3)))]) hP hD [0] [] rfl rfl (by decide) (by decide) hk9 hFr ht9 hB9
        have hP := hP.sub (ws' := [(rB, .inl (cI, 4, .inl (zA b3)))]) [0] rfl
        have hD := hD.sub (ws' := [(rB, .inl (cI, 4, .inl (zA b3)))]) [0] (by decide) rfl
        have hF := fz_keep hF0 hFA hS
        refine zz_ifeqB (tgt := 27) hx hb qd_R_leastMatchingRule_22 (by decide) (fun h22 => ?_) (fun h22 => ?_)
        · skip
          refine lv_iinc (k := 0) (lv' := [(3, .int (zI (↑(i + 1)))), (0, .ref orr), (1, .ref a), (2, .int (zI (↑p)))]) hx hb qd_R_leastMatchingRule_27 hl rfl (zI_inc (v := ↑(i + 1)) (by omega)) (by decide) rfl (fun ls hl => ?_)
          refine lv_goto (tgt := 2) hx hb qd_R_leastMatchingRule_30 (by decide) ?_
          exact ih2 _ (by omega) (i + 1) b3 (by omega) (fun s hs => if h8 : s < i then hz s h8 else (by rw [show s = i by omega]; exact hr19.2 h22)) rfl H19_2 L19_2 hP hD hS ls hl
        · skip
          refine lv_iload_n hx hb qd_R_leastMatchingRule_25 rfl (lv_at hl 0 rfl) ?_
          exact W.iret (v := zI (↑i)) hx hb hr (fun t9 ht9 hW9 => ⟨⟨↑i, b3, rfl, (Or.inl ⟨i, rfl, by omega, hr19.1 h22, hz⟩), mwB_i (by rw [ht9]; exact hP) (va_K.moved hW9.alike hK) hD⟩, hS.F ht9⟩) hS.2.2 qd_R_leastMatchingRule_26
  exact L2 _ 0 bd (by omega) (fun s hs => by omega) rfl sg.heap [] hP hD hS ls hl
set_option maxHeartbeats 4000000 in
set_option maxRecDepth 100000 in
theorem c_R_firstInnermostPlace (l : Launch) (dC : Nat → ClassId) (dI : Nat → Nat → Nat) (cI cZ cT cJ : ClassId) (orr rL rR rB rc : Nat) (lf rf : Nat → Option Nat) (bd : Nat → Int) (ta tH tP tE tn : Nat → Nat) (TH TM : Nat → Nat → Int) (TE : Nat → Nat → Nat) (TG : Nat → Int) (HT : Nat → Nat → Int) (LI RI : Nat → Nat) (pl : va_W) (tc sy : Nat) (ar : Nat → Int) (a aH aP aE n : Nat) (th tm : Nat → Int) (te : Nat → Nat) (tg : Int) (ht : Nat → Int) (zh : Nat) (hsy : sy ≤ 5) (har : ∀ q, q < 5 → 0 ≤ ar q ∧ ar q ≤ 3) (htp : ∀ t, t < tc → okT sy ar (tn t) (TH t) (TM t) (TE t) (HT t) ∧ tin pl cI (ta t) (tH t) (tP t) (tE t) (tn t) (TH t) (TM t) (TE t) (TG t)) (hlr : ∀ r, r < rc → LI r < tc ∧ RI r < tc ∧ lf r = some (ta (LI r)) ∧ rf r = some (ta (RI r)) ∧ ∀ q, q < tn (RI r) → TH (RI r) q < 0 → ∃ k, k < tn (LI r) ∧ TH (LI r) k = TH (RI r) q) (hrc : rc ≤ 8) (hot : okT sy ar n th tm te ht) : Met l qy_R_firstInnermostPlace qw_R_firstInnermostPlace ({ frames := 4, cells := 0, slots := 0, locals := 96 }) (mwP (dC, dI) qcl (qty cI cZ cT cJ) nwL [(rB, .inl (cI, 4, .inl (zA bd)))] ([(orr, .inr (4, [.ref rL, .ref rR, .ref rB, .int (zI (↑rc))])), (rL, .inl (cT, 8, .inr (.inr (.inr (.inr lf))))), (a, .inr (1, [.ref aH, .ref aP, .ref aE, .int (zI (↑n)), .int (zI (tg))])), (aH, .inl (cI, n, .inl (zA th))), (aP, .inl (cI, n, .inl (zA tm))), (aE, .inl (cI, n, .inl (zA (eI te))))] ++ pl) zh [.ref orr, .ref a]) (mwI (S := (Nat → Int)) (fun r uq => (∃ k : Nat, r = ↑k ∧ inF (fun p => ∃ r, r < rc ∧ MA (TH (LI r)) (tn (LI r)) th te p) te n k) ∨ (r = -1 ∧ ∀ k, k < n → ¬ (fun p => ∃ r, r < rc ∧ MA (TH (LI r)) (tn (LI r)) th te p) k)) (fun uq tq => mwB (dC, dI) qcl (qty cI cZ cT cJ) (va_A [(rB, .inl (cI, 4, .inl (zA bd)))] zh) [(rB, .inl (cI, 4, .inl (zA uq)))] tq) (va_A [(rB, .inl (cI, 4, .inl (zA bd)))] zh)) 0 0 (va_A [(rB, .inl (cI, 4, .inl (zA bd)))] zh) := by
  refine Met.ofW (cc := qc_R_firstInnermostPlace) (maxL := 5) (ret := (Option.some Jvm.ClassFile.FieldType.int)) (by decide) rfl ?_
  intro pg eg sg mg args below meth cg s₁ B hml hv
  obtain ⟨rfl, hsz, hP, hF0, hK, hN, hD0, hap⟩ := hv
  have hx := B.exec
  have hb := B.bytes
  have hr := B.returns
  have hts := atoms_spec (ws := qw_R_firstInnermostPlace) B.pre
  have hg : ∀ w ∈ gw, w.before _ sg = true := fun w h => hts w (List.mem_cons_of_mem _ h)
  have hown : sg.vm.findClass "TermOrders$Rules" = some mg.cls := findClass_of_methodNamed B.named
  have hlocks := B.notSynchronized
  have hl := lv_entry ([.ref orr, .ref a]) (n := 5) (Nat.le_of_ble_eq_true rfl)
  rw [lg_entry_eq]
  generalize (lg_sl ([.ref orr, .ref a]) ++ List.replicate (5 - (lg_sl ([.ref orr, .ref a])).length) Slot.unset).toArray = ls at hl ⊢
  subst hsz
  have hD := hD0.self (sz := sg.heap.size)
  have hFA := apw_A hap (fun k q hk => (hF0 k q hk).lt)
  generalize hAe : va_A [(rB, .inl (cI, 4, .inl (zA bd)))] sg.heap.size = A at hD hFA ⊢
  have hA : ∀ q : Nat, sg.heap.size ≤ q → A q := fun q h => by rw [← hAe]; exact Or.inr h
  have hS : va_S A sg.heap sg.heap [] := va_S.rf
  have hF := hF0
  have hl : lv_has ls 5 [(0, .ref orr), (1, .ref a)] := hl
  have h16 := hot.2.1
  have hh := okT_hh hsy hot
  have we := hot.2.2.2.2.1
  refine lv_iconst (v := zI (-1)) hx hb qd_R_firstInnermostPlace_0 rfl ?_
  refine lv_istore_n (lv' := [(2, .int (zI ((-1)))), (0, .ref orr), (1, .ref a)]) hx hb qd_R_firstInnermostPlace_1 rfl hl (by decide) rfl (fun ls hl => ?_)
  refine lv_aload_n hx hb qd_R_firstInnermostPlace_2 rfl (lv_at hl 2 rfl) ?_
  refine va_getN (D := (dC, dI)) (ci := 1) (v := .int (zI (↑n))) (C := "TermOrders$Term") (T := qT_T) (N := 5) hx hb hg qi_T hown hK hF 2 rfl rfl 3 (by decide) (va_Nw.use rfl (hN.use nw_338)) (fun _ h9 => h9) rfl qd_R_firstInnermostPlace_3 ?_
  refine lv_istore_n (lv' := [(3, .int (zI (↑n))), (2, .int (zI ((-1)))), (0, .ref orr), (1, .ref a)]) hx hb qd_R_firstInnermostPlace_6 rfl hl (by decide) rfl (fun ls hl => ?_)
  refine lv_iconst (v := zI 0) hx hb qd_R_firstInnermostPlace_7 rfl ?_
  refine lv_istore (lv' := [(4, .int (zI (0))), (3, .int (zI (↑n))), (2, .int (zI ((-1)))), (0, .ref orr), (1, .ref a)]) hx hb qd_R_firstInnermostPlace_8 hl (by decide) rfl (fun ls hl => ?_)
  have L10 : ∀ (d9 : Nat) (p : Nat) (f : Int) (en : Nat) (bz : Nat → Int), (p ≤ n) → (en ≤ n) → (inI (fun p => ∃ r, r < rc ∧ MA (TH (LI r)) (tn (LI r)) th te p) te n p f en) → n - p = d9 → ∀ (H10_1 : Heap) (L10_1 : List Loc), va_P (dC, dI) qcl [(rB, .inl (cI, 4, .inl (zA bz)))] H10_1 → va_D A [(rB, .inl (cI, 4, .inl (zA bz)))] → va_S A sg.heap H10_1 L10_1 → ∀ ls : Array Slot, lv_has ls 5 [(4, .int (zI (↑p))), (3, .int (zI (↑en))), (2, .int (zI (f))), (0, .ref orr), (1, .ref a)] → W pg l eg (headSpec qw_R_firstInnermostPlace ({ frames := 4, cells := 0, slots := 0, locals := 96 })).room sg mg ([.ref orr, .ref a] : List Value).toArray below meth cg H10_1 L10_1 0 0 (MQ below (mwI (S := (Nat → Int)) (fun r uq => (∃ k : Nat, r = ↑k ∧ inF (fun p => ∃ r, r < rc ∧ MA (TH (LI r)) (tn (LI r)) th te p) te n k) ∨ (r = -1 ∧ ∀ k, k < n → ¬ (fun p => ∃ r, r < rc ∧ MA (TH (LI r)) (tn (LI r)) th te p) k)) (fun uq tq => mwB (dC, dI) qcl (qty cI cZ cT cJ) A [(rB, .inl (cI, 4, .inl (zA uq)))] tq) A) ([.ref orr, .ref a] : List Value).toArray sg 0 0 A) (F0 mg 10 ls []) := by
    intro d9
    induction d9 using Nat.strongRecOn with
    | _ d9 ih10 =>
      intro p f en bz hp hen hI hd9 H10_1 L10_1 hP hD hS ls hl
      have hF := fz_keep hF0 hFA hS
      refine lv_iload hx hb qd_R_firstInnermostPlace_10 (lv_at hl 0 rfl) ?_
      refine lv_aload_n hx hb qd_R_firstInnermostPlace_12 rfl (lv_at hl 4 rfl) ?_
      refine va_getN (D := (dC, dI)) (ci := 1) (v := .int (zI (↑n))) (C := "TermOrders$Term") (T := qT_T) (N := 5) hx hb hg qi_T hown hK hF 2 rfl rfl 3 (by decide) (va_Nw.use rfl (hN.use nw_338)) (fun _ h9 => h9) rfl qd_R_firstInnermostPlace_13 ?_
      refine zz_icmp_ge (tgt := 53) hx hb qd_R_firstInnermostPlace_16 (by decide) (by omega) (by omega) (fun h16 => ?_) (fun h16 => ?_)
      · skip
        have hend := inI_end we hp hen hI (Or.inl (by omega))
        refine lv_iload_n hx hb qd_R_firstInnermostPlace_53 rfl (lv_at hl 2 rfl) ?_
        exact W.iret (v := zI f) hx hb hr (fun t9 ht9 hW9 => ⟨⟨f, bz, rfl, hend, mwB_i (by rw [ht9]; exact hP) (va_K.moved hW9.alike hK) hD⟩, hS.F ht9⟩) hS.2.2 qd_R_firstInnermostPlace_54
      · skip
        refine lv_iload hx hb qd_R_firstInnermostPlace_19 (lv_at hl 0 rfl) ?_
        refine lv_iload_n hx hb qd_R_firstInnermostPlace_21 rfl (lv_at hl 1 rfl) ?_
        refine zz_icmp_ge (tgt := 53) hx hb qd_R_firstInnermostPlace_22 (by decide) (by omega) (by omega) (fun h22 => ?_) (fun h22 => ?_)
        · skip
          have hend := inI_end we hp hen hI (Or.inr (by omega))
          refine lv_iload_n hx hb qd_R_firstInnermostPlace_53 rfl (lv_at hl 2 rfl) ?_
          exact W.iret (v := zI f) hx hb hr (fun t9 ht9 hW9 => ⟨⟨f, bz, rfl, hend, mwB_i (by rw [ht9]; exact hP) (va_K.moved hW9.alike hK) hD⟩, hS.F ht9⟩) hS.2.2 qd_R_firstInnermostPlace_54
        · skip
          refine lv_aload_n hx hb qd_R_firstInnermostPlace_25 rfl (lv_at hl 3 rfl) ?_
          refine lv_aload_n hx hb qd_R_firstInnermostPlace_26 rfl (lv_at hl 4 rfl) ?_
          refine lv_iload hx hb qd_R_firstInnermostPlace_27 (lv_at hl 0 rfl) ?_
          have hPc := hP.sub (ws' := [(rB, .inl (cI, 4, .inl (zA bz)))]) [0] rfl
          have hDc := hD.sub (ws' := [(rB, .inl (cI, 4, .inl (zA bz)))]) [0] (by decide) rfl
          have hFr := va_free (wc := [(rB, .inl (cI, 4, .inl (zA bz)))]) hD hS hA [0] rfl
          refine mw_callI (va_runV (As := [.ref a, .int (zI (↑p))]) (rest := []) ⟨hx, hb, hml, hown, hg⟩ (c_R_leastMatchingRule l dC dI cI cZ cT cJ orr rL rR rB rc lf rf bz ta tH tP tE tn TH TM TE TG HT LI RI pl tc sy ar a aH aP aE n th tm te tg ht p H10_1.size hsy har htp hlr hrc hot (by omega)) ⟨callB_of 2 hg (gw_ok (fun _ h => h) wd_558) rfl rfl rfl (hg _ wd_4) (hg _ wd_555) (by decide +kernel) ⟨Nat.le_of_ble_eq_true rfl, Nat.le_of_ble_eq_true rfl⟩, hg _ wd_557, hg _ se_R_leastMatchingRule⟩ (mw_preV (va_recv (q0 := 0) hK hF rfl rfl) hPc (pw_c (q := (orr, .inr (4, [.ref rL, .ref rR, .ref rB, .int (zI (↑rc))]))) hF 0 rfl (pw_c (q := (rL, .inl (cT, 8, .inr (.inr (.inr (.inr lf)))))) hF 1 rfl (pw_c (q := (a, .inr (1, [.ref aH, .ref aP, .ref aE, .int (zI (↑n)), .int (zI (tg))]))) hF 2 rfl (pw_c (q := (aH, .inl (cI, n, .inl (zA th)))) hF 3 rfl (pw_c (q := (aP, .inl (cI, n, .inl (zA tm)))) hF 4 rfl (pw_c (q := (aE, .inl (cI, n, .inl (zA (eI te))))) hF 5 rfl (pw_tail [(orr, .inr (4, [.ref rL, .ref rR, .ref rB, .int (zI (↑rc))])), (rL, .inl (cT, 8, .inr (.inr (.inr (.inr lf))))), (a, .inr (1, [.ref aH, .ref aP, .ref aE, .int (zI (↑n)), .int (zI (tg))])), (aH, .inl (cI, n, .inl (zA th))), (aP, .inl (cI, n, .inl (zA tm))), (aE, .inl (cI, n, .inl (zA (eI te))))] hF))))))) hK hN hDc (apw_c (q := (orr, .inr (4, [.ref rL, .ref rR, .ref rB, .int (zI (↑rc))]))) (apw_f hD [0] rfl (hFA 0 _ rfl)) (apw_c (q := (rL, .inl (cT, 8, .inr (.inr (.inr (.inr lf)))))) (apw_f hD [0] rfl (hFA 1 _ rfl)) (apw_c (q := (a, .inr (1, [.ref aH, .ref aP, .ref aE, .int (zI (↑n)), .int (zI (tg))]))) (apw_f hD [0] rfl (hFA 2 _ rfl)) (apw_c (q := (aH, .inl (cI, n, .inl (zA th)))) (apw_f hD [0] rfl (hFA 3 _ rfl)) (apw_c (q := (aP, .inl (cI, n, .inl (zA tm)))) (apw_f hD [0] rfl (hFA 4 _ rfl)) (apw_c (q := (aE, .inl (cI, n, .inl (zA (eI te))))) (apw_f hD [0] rfl (hFA 5 _ rfl)) (apw_pool hD [0] rfl (hA_tail [(orr, .inr (4, [.ref rL, .ref rR, .ref rB, .int (zI (↑rc))])), (rL, .inl (cT, 8, .inr (.inr (.inr (.inr lf))))), (a, .inr (1, [.ref aH, .ref aP, .ref aE, .int (zI (↑n)), .int (zI (tg))])), (aH, .inl (cI, n, .inl (zA th))), (aP, .inl (cI, n, .inl (zA tm))), (aE, .inl (cI, n, .inl (zA (eI te))))] hFA))))))))) rfl rfl hl.1 rfl (lv_room (Nat.le_of_ble_eq_true rfl)) qd_R_firstInnermostPlace_29 ⟨Nat.le_of_ble_eq_true rfl, Nat.le_of_ble_eq_true rfl⟩) hS (fun q _ h => hFr q h) hFr (fun r29 b3 t9 H29_2 L29_2 ht9 hv9 hr29 hB9 hz9 hk9 hS => ?_)
          try dsimp only at hr29 hB9
          obtain ⟨hP, hD⟩ := mw_join (wr := []) (w1 := [(rB, .inl (cI, 4, .inl (zA b3)))]) hP hD [0] [] rfl rfl (by decide) (by decide) hk9 hFr ht9 hB9
          have hP := hP.sub (ws' := [(rB, .inl (cI, 4, .inl (zA b3)))]) [0] rfl
          have hD := hD.sub (ws' := [(rB, .inl (cI, 4, .inl (zA b3)))]) [0] (by decide) rfl
          have hF := fz_keep hF0 hFA hS
          refine lv_iconst (v := zI (-1)) hx hb qd_R_firstInnermostPlace_32 rfl ?_
          refine zz_icmp_eq (tgt := 47) hx hb qd_R_firstInnermostPlace_33 (by decide) (by rcases hr29 with ⟨k, z1, z2, _⟩ | ⟨z1, _⟩ <;> omega) (by omega) (fun h33 => ?_) (fun h33 => ?_)
          · skip
            have hI2 := inI_no (show ¬ (fun p => ∃ r, r < rc ∧ MA (TH (LI r)) (tn (LI r)) th te p) p from fun ⟨s, z1, z2⟩ => (hr29.elim (fun ⟨k, z3, _⟩ => by omega) (fun z => z.2)) s z1 z2) hI (by omega)
            have he2 := hen
            refine lv_iinc (k := 0) (lv' := [(4, .int (zI (↑(p + 1)))), (3, .int (zI (↑en))), (2, .int (zI (f))), (0, .ref orr), (1, .ref a)]) hx hb qd_R_firstInnermostPlace_47 hl rfl (zI_inc (v := ↑(p + 1)) (by omega)) (by decide) rfl (fun ls hl => ?_)
            refine lv_goto (tgt := 10) hx hb qd_R_firstInnermostPlace_50 (by decide) ?_
            exact ih10 _ (by clear hr29; omega) (p + 1) f en b3 (by clear hr29; omega) he2 hI2 rfl H29_2 L29_2 hP hD hS ls hl
          · skip
            have hI2 := inI_yes (n := n) we (by omega) (show (fun p => ∃ r, r < rc ∧ MA (TH (LI r)) (tn (LI r)) th te p) p from by obtain ⟨k, z1, z2, ⟨q, z3⟩, _⟩ := hr29.resolve_right (fun z => h33 z.1); exact ⟨k, z2, q, b3, z3⟩) hI (by omega)
            have he2 := (we p (by omega)).2.1
            refine lv_iload hx hb qd_R_firstInnermostPlace_36 (lv_at hl 0 rfl) ?_
            refine lv_istore_n (lv' := [(2, .int (zI (↑p))), (4, .int (zI (↑p))), (3, .int (zI (↑en))), (0, .ref orr), (1, .ref a)]) hx hb qd_R_firstInnermostPlace_38 rfl hl (by decide) rfl (fun ls hl => ?_)
            refine lv_aload_n hx hb qd_R_firstInnermostPlace_39 rfl (lv_at hl 4 rfl) ?_
            refine va_getN (D := (dC, dI)) (ci := 1) (v := .ref aE) (C := "TermOrders$Term") (T := qT_T) (N := 5) hx hb hg qi_T hown hK hF 2 rfl rfl 2 (by decide) (va_Nw.use rfl (hN.use nw_334)) (fun _ h9 => h9) rfl qd_R_firstInnermostPlace_40 ?_
            refine lv_iload hx hb qd_R_firstInnermostPlace_43 (lv_at hl 1 rfl) ?_
            refine zz_eald hx hb hK hF 5 0 rfl rfl p rfl (by omega) (by omega) qd_R_firstInnermostPlace_45 ?_
            refine lv_istore_n (lv' := [(3, .int (zI (↑(te p)))), (2, .int (zI (↑p))), (4, .int (zI (↑p))), (0, .ref orr), (1, .ref a)]) hx hb qd_R_firstInnermostPlace_46 rfl hl (by decide) rfl (fun ls hl => ?_)
            refine lv_iinc (k := 2) (lv' := [(4, .int (zI (↑(p + 1)))), (3, .int (zI (↑(te p)))), (2, .int (zI (↑p))), (0, .ref orr), (1, .ref a)]) hx hb qd_R_firstInnermostPlace_47 hl rfl (zI_inc (v := ↑(p + 1)) (by omega)) (by decide) rfl (fun ls hl => ?_)
            refine lv_goto (tgt := 10) hx hb qd_R_firstInnermostPlace_50 (by decide) ?_
            exact ih10 _ (by clear hr29; omega) (p + 1) p (te p) b3 (by clear hr29; omega) he2 hI2 rfl H29_2 L29_2 hP hD hS ls hl
  exact L10 _ 0 (-1) n bd (by omega) (by omega) (Or.inl ⟨rfl, rfl, fun k hk => by omega⟩) rfl sg.heap [] hP hD hS ls hl
set_option maxHeartbeats 4000000 in
set_option maxRecDepth 100000 in
theorem c_R_writeBound (l : Launch) (dC : Nat → ClassId) (dI : Nat → Nat → Nat) (cI cZ cT cJ : ClassId) (orr rL rR rB rc : Nat) (lf rf : Nat → Option Nat) (bd : Nat → Int) (o : Nat) (ar : Nat → Int) (od dH dP dE dT dz : Nat) (dt : Bool) (hd pcs : Nat → Int) (de : Nat → Nat) (dh : Nat → Int) (l0 : List Int) (a3 aH3 aP3 aE3 n3 : Nat) (th3 tm3 : Nat → Int) (te3 : Nat → Nat) (tg3 : Int) (a aH aP aE n : Nat) (th tm : Nat → Int) (te : Nat → Nat) (tg : Int) (zh : Nat) (hdr : drf ar l0 hd pcs dz dt) (h163 : n3 ≤ 16) (hh3 : ∀ q, q < n3 → -4 ≤ th3 q ∧ th3 q ≤ 4) (htm3 : ∀ q, q < n3 → tm3 q = mny ar (th3 q)) (h16 : n ≤ 16) (we : wfE tm n te) (htm : ∀ q, q < n → tm q = mny ar (th q)) (hbd : ∀ j, j < n3 → th3 j < 0 → ∃ x : Nat, bd (-1 - th3 j).toNat = ↑x ∧ x < n) : Met l qy_R_writeBound qw_R_writeBound ({ frames := 2, cells := 0, slots := 0, locals := 46 }) (mwP (dC, dI) qcl (qty cI cZ cT cJ) nwL [(od, .inr (2, [.ref o, .ref dH, .ref dP, .ref dE, .ref dT, .int (zI (↑dz)), .int (zI (bI (dt)))])), (dH, .inl (cI, 16, .inl (zA hd))), (dP, .inl (cI, 16, .inl (zA pcs)))] [(orr, .inr (4, [.ref rL, .ref rR, .ref rB, .int (zI (↑rc))])), (rB, .inl (cI, 4, .inl (zA bd))), (a3, .inr (1, [.ref aH3, .ref aP3, .ref aE3, .int (zI (↑n3)), .int (zI (tg3))])), (aH3, .inl (cI, n3, .inl (zA th3))), (aP3, .inl (cI, n3, .inl (zA tm3))), (aE3, .inl (cI, n3, .inl (zA (eI te3)))), (a, .inr (1, [.ref aH, .ref aP, .ref aE, .int (zI (↑n)), .int (zI (tg))])), (aH, .inl (cI, n, .inl (zA th))), (aP, .inl (cI, n, .inl (zA tm))), (aE, .inl (cI, n, .inl (zA (eI te))))] zh [.ref orr, .ref a3, .ref a, .ref od]) (va_Qv (S := (Nat → Int) × (Nat → Int) × (Nat) × (Bool)) (fun uq => drf ar (l0 ++ ins th3 th te bd n3) uq.1 uq.2.1 uq.2.2.1 uq.2.2.2) (fun uq tq => mwB (dC, dI) qcl (qty cI cZ cT cJ) (va_A [(od, .inr (2, [.ref o, .ref dH, .ref dP, .ref dE, .ref dT, .int (zI (↑dz)), .int (zI (bI (dt)))])), (dH, .inl (cI, 16, .inl (zA hd))), (dP, .inl (cI, 16, .inl (zA pcs)))] zh) [(od, .inr (2, [.ref o, .ref dH, .ref dP, .ref dE, .ref dT, .int (zI (↑uq.2.2.1)), .int (zI (bI (uq.2.2.2)))])), (dH, .inl (cI, 16, .inl (zA uq.1))), (dP, .inl (cI, 16, .inl (zA uq.2.1)))] tq) (va_A [(od, .inr (2, [.ref o, .ref dH, .ref dP, .ref dE, .ref dT, .int (zI (↑dz)), .int (zI (bI (dt)))])), (dH, .inl (cI, 16, .inl (zA hd))), (dP, .inl (cI, 16, .inl (zA pcs)))] zh)) 0 0 (va_A [(od, .inr (2, [.ref o, .ref dH, .ref dP, .ref dE, .ref dT, .int (zI (↑dz)), .int (zI (bI (dt)))])), (dH, .inl (cI, 16, .inl (zA hd))), (dP, .inl (cI, 16, .inl (zA pcs)))] zh) := by
  refine Met.ofW (cc := qc_R_writeBound) (maxL := 6) (ret := (Option.none : Option Jvm.ClassFile.FieldType)) (by decide) rfl ?_
  intro pg eg sg mg args below meth cg s₁ B hml hv
  obtain ⟨rfl, hsz, hP, hF0, hK, hN, hD0, hap⟩ := hv
  have hx := B.exec
  have hb := B.bytes
  have hr := B.returns
  have hts := atoms_spec (ws := qw_R_writeBound) B.pre
  have hg : ∀ w ∈ gw, w.before _ sg = true := fun w h => hts w (List.mem_cons_of_mem _ h)
  have hown : sg.vm.findClass "TermOrders$Rules" = some mg.cls := findClass_of_methodNamed B.named
  have hlocks := B.notSynchronized
  have hl := lv_entry ([.ref orr, .ref a3, .ref a, .ref od]) (n := 6) (Nat.le_of_ble_eq_true rfl)
  rw [lg_entry_eq]
  generalize (lg_sl ([.ref orr, .ref a3, .ref a, .ref od]) ++ List.replicate (6 - (lg_sl ([.ref orr, .ref a3, .ref a, .ref od])).length) Slot.unset).toArray = ls at hl ⊢
  subst hsz
  have hD := hD0.self (sz := sg.heap.size)
  have hFA := apw_A hap (fun k q hk => (hF0 k q hk).lt)
  generalize hAe : va_A [(od, .inr (2, [.ref o, .ref dH, .ref dP, .ref dE, .ref dT, .int (zI (↑dz)), .int (zI (bI (dt)))])), (dH, .inl (cI, 16, .inl (zA hd))), (dP, .inl (cI, 16, .inl (zA pcs)))] sg.heap.size = A at hD hFA ⊢
  have hA : ∀ q : Nat, sg.heap.size ≤ q → A q := fun q h => by rw [← hAe]; exact Or.inr h
  have hS : va_S A sg.heap sg.heap [] := va_S.rf
  have hF := hF0
  have hl : lv_has ls 6 [(0, .ref orr), (1, .ref a3), (2, .ref a), (3, .ref od)] := hl
  refine lv_iconst (v := zI 0) hx hb qd_R_writeBound_0 rfl ?_
  refine lv_istore (lv' := [(4, .int (zI (0))), (0, .ref orr), (1, .ref a3), (2, .ref a), (3, .ref od)]) hx hb qd_R_writeBound_1 hl (by decide) rfl (fun ls hl => ?_)
  have L3 : ∀ (d9 : Nat) (i : Nat) (hz : Nat → Int) (pz : Nat → Int) (zz : Nat) (zt : Bool), (i ≤ n3) → (drf ar (l0 ++ ins th3 th te bd i) hz pz zz zt) → n3 - i = d9 → ∀ (H3_1 : Heap) (L3_1 : List Loc), va_P (dC, dI) qcl [(od, .inr (2, [.ref o, .ref dH, .ref dP, .ref dE, .ref dT, .int (zI (↑zz)), .int (zI (bI (zt)))])), (dH, .inl (cI, 16, .inl (zA hz))), (dP, .inl (cI, 16, .inl (zA pz)))] H3_1 → va_D A [(od, .inr (2, [.ref o, .ref dH, .ref dP, .ref dE, .ref dT, .int (zI (↑zz)), .int (zI (bI (zt)))])), (dH, .inl (cI, 16, .inl (zA hz))), (dP, .inl (cI, 16, .inl (zA pz)))] → va_S A sg.heap H3_1 L3_1 → ∀ ls : Array Slot, lv_has ls 6 [(4, .int (zI (↑i))), (0, .ref orr), (1, .ref a3), (2, .ref a), (3, .ref od)] → W pg l eg (headSpec qw_R_writeBound ({ frames := 2, cells := 0, slots := 0, locals := 46 })).room sg mg ([.ref orr, .ref a3, .ref a, .ref od] : List Value).toArray below meth cg H3_1 L3_1 0 0 (MQ below (va_Qv (S := (Nat → Int) × (Nat → Int) × (Nat) × (Bool)) (fun uq => drf ar (l0 ++ ins th3 th te bd n3) uq.1 uq.2.1 uq.2.2.1 uq.2.2.2) (fun uq tq => mwB (dC, dI) qcl (qty cI cZ cT cJ) A [(od, .inr (2, [.ref o, .ref dH, .ref dP, .ref dE, .ref dT, .int (zI (↑uq.2.2.1)), .int (zI (bI (uq.2.2.2)))])), (dH, .inl (cI, 16, .inl (zA uq.1))), (dP, .inl (cI, 16, .inl (zA uq.2.1)))] tq) A) ([.ref orr, .ref a3, .ref a, .ref od] : List Value).toArray sg 0 0 A) (F0 mg 3 ls []) := by
    intro d9
    induction d9 using Nat.strongRecOn with
    | _ d9 ih3 =>
      intro i hz pz zz zt hi hdz hd9 H3_1 L3_1 hP hD hS ls hl
      have hF := fz_keep hF0 hFA hS
      refine lv_iload hx hb qd_R_writeBound_3 (lv_at hl 0 rfl) ?_
      refine lv_aload_n hx hb qd_R_writeBound_5 rfl (lv_at hl 2 rfl) ?_
      refine va_getN (D := (dC, dI)) (ci := 1) (v := .int (zI (↑n3))) (C := "TermOrders$Term") (T := qT_T) (N := 5) hx hb hg qi_T hown hK hF 2 rfl rfl 3 (by decide) (va_Nw.use rfl (hN.use nw_338)) (fun _ h9 => h9) rfl qd_R_writeBound_6 ?_
      refine zz_icmp_ge (tgt := 88) hx hb qd_R_writeBound_9 (by decide) (by omega) (by omega) (fun h9 => ?_) (fun h9 => ?_)
      · skip
        exact W.vret hx hb hr (fun t9 ht9 hW9 => ⟨⟨(hz, pz, zz, zt), rfl, (by rw [show n3 = i by omega]; exact hdz), mwB_i (by rw [ht9]; exact hP) (va_K.moved hW9.alike hK) hD⟩, hS.F ht9⟩) hS.2.2 qd_R_writeBound_88
      · skip
        have hih := hh3 i (by omega)
        refine lv_aload_n hx hb qd_R_writeBound_12 rfl (lv_at hl 2 rfl) ?_
        refine lv_iload hx hb qd_R_writeBound_13 (lv_at hl 0 rfl) ?_
        refine rd_callB (va_runVN (As := [.int (zI (↑i))]) (rest := []) ⟨hx, hb, hml, hown, hg⟩ (c_T_isVariable l dC dI cI cZ cT cJ a3 aH3 aP3 aE3 n3 th3 tm3 te3 tg3 i h163 hh3 (by omega)) ⟨va_cnB 1 hg (gw_ok (fun _ h => h) wd_388) rfl rfl rfl (hN.use nw_566) (hg _ wd_13) (by decide +kernel) ⟨Nat.le_of_ble_eq_true rfl, Nat.le_of_ble_eq_true rfl⟩, hg _ wd_387, hg _ se_T_isVariable⟩ (rd_preV (va_recv (q0 := 2) hK hF rfl rfl) (pw_c (q := (a3, .inr (1, [.ref aH3, .ref aP3, .ref aE3, .int (zI (↑n3)), .int (zI (tg3))]))) hF 2 rfl (pw_c (q := (aH3, .inl (cI, n3, .inl (zA th3)))) hF 3 rfl (pw_c (q := (aP3, .inl (cI, n3, .inl (zA tm3)))) hF 4 rfl (pw_c (q := (aE3, .inl (cI, n3, .inl (zA (eI te3))))) hF 5 rfl (pw_nil))))) hK hN) rfl rfl hl.1 rfl (lv_room (Nat.le_of_ble_eq_true rfl)) qd_R_writeBound_15 ⟨Nat.le_of_ble_eq_true rfl, Nat.le_of_ble_eq_true rfl⟩).run (fun r15 hr15 => ?_)
        refine zz_ifeqB (tgt := 38) hx hb qd_R_writeBound_18 (by decide) (fun h18 => ?_) (fun h18 => ?_)
        · skip
          have hvx : 0 ≤ th3 i := Classical.byContradiction (fun z => by rw [hr15.mpr (by omega)] at h18; exact Bool.noConfusion h18)
          refine lv_iconst (v := zI (-1)) hx hb qd_R_writeBound_38 rfl ?_
          refine lv_istore (lv' := [(5, .int (zI ((-1)))), (4, .int (zI (↑i))), (0, .ref orr), (1, .ref a3), (2, .ref a), (3, .ref od)]) hx hb qd_R_writeBound_39 hl (by decide) rfl (fun ls hl => ?_)
          refine lv_iload hx hb qd_R_writeBound_41 (lv_at hl 0 rfl) ?_
          refine lv_iconst (v := zI (-1)) hx hb qd_R_writeBound_43 rfl ?_
          refine zz_icmp_ne (tgt := 68) hx hb qd_R_writeBound_44 (by decide) (by omega) (by omega) (fun h44 => ?_) (fun h44 => ?_)
          · skip
            exfalso
            omega
          · skip
            refine lv_aload_n hx hb qd_R_writeBound_47 rfl (lv_at hl 5 rfl) ?_
            refine lv_aload_n hx hb qd_R_writeBound_48 rfl (lv_at hl 3 rfl) ?_
            refine va_getN (D := (dC, dI)) (ci := 1) (v := .ref aH3) (C := "TermOrders$Term") (T := qT_T) (N := 5) hx hb hg qi_T hown hK hF 2 rfl rfl 0 (by decide) (va_Nw.use rfl (hN.use nw_325)) (fun _ h9 => h9) rfl qd_R_writeBound_49 ?_
            refine lv_iload hx hb qd_R_writeBound_52 (lv_at hl 1 rfl) ?_
            refine zz_iald hx hb hK hF 3 0 rfl rfl i rfl (by omega) (by omega) qd_R_writeBound_54 ?_
            refine lv_aload_n hx hb qd_R_writeBound_55 rfl (lv_at hl 3 rfl) ?_
            refine va_getN (D := (dC, dI)) (ci := 1) (v := .ref aP3) (C := "TermOrders$Term") (T := qT_T) (N := 5) hx hb hg qi_T hown hK hF 2 rfl rfl 1 (by decide) (va_Nw.use rfl (hN.use nw_332)) (fun _ h9 => h9) rfl qd_R_writeBound_56 ?_
            refine lv_iload hx hb qd_R_writeBound_59 (lv_at hl 1 rfl) ?_
            refine zz_iald hx hb hK hF 4 0 rfl rfl i rfl (by omega) (by omega) qd_R_writeBound_61 ?_
            have hPc := hP.sub (ws' := [(od, .inr (2, [.ref o, .ref dH, .ref dP, .ref dE, .ref dT, .int (zI (↑zz)), .int (zI (bI (zt)))])), (dH, .inl (cI, 16, .inl (zA hz))), (dP, .inl (cI, 16, .inl (zA pz)))]) [0, 1, 2] rfl
            have hDc := hD.sub (ws' := [(od, .inr (2, [.ref o, .ref dH, .ref dP, .ref dE, .ref dT, .int (zI (↑zz)), .int (zI (bI (zt)))])), (dH, .inl (cI, 16, .inl (zA hz))), (dP, .inl (cI, 16, .inl (zA pz)))]) [0, 1, 2] (by decide) rfl
            have hFr := va_free (wc := [(od, .inr (2, [.ref o, .ref dH, .ref dP, .ref dE, .ref dT, .int (zI (↑zz)), .int (zI (bI (zt)))])), (dH, .inl (cI, 16, .inl (zA hz))), (dP, .inl (cI, 16, .inl (zA pz)))]) hD hS hA [0, 1, 2] rfl
            refine va_callv (va_runVN (As := [.int (zI ((th3 i))), .int (zI ((tm3 i)))]) (rest := []) ⟨hx, hb, hml, hown, hg⟩ (c_D_write l dC dI cI cZ cT cJ o ar od dH dP dE dT zz zt hz pz de dh (l0 ++ ins th3 th te bd i) (th3 i) (tm3 i) H3_1.size hdz (htm3 _ (by omega))) ⟨va_cnB 2 hg (gw_ok (fun _ h => h) wd_279) rfl rfl rfl (hN.use nw_578) (hg _ wd_3) (by decide +kernel) ⟨Nat.le_of_ble_eq_true rfl, Nat.le_of_ble_eq_true rfl⟩, hg _ wd_278, hg _ se_D_write⟩ (mw_preV (va_recv (q0 := 0) hK hP rfl rfl) hPc (pw_nil) hK hN hDc (apw_nil)) rfl rfl hl.1 rfl (lv_room (Nat.le_of_ble_eq_true rfl)) qd_R_writeBound_62 ⟨Nat.le_of_ble_eq_true rfl, Nat.le_of_ble_eq_true rfl⟩) hS (fun q _ h => hFr q h) hFr (fun u9 t9 H62_2 L62_2 ht9 hv9 hr62 hB9 hz9 hk9 hS => ?_)
            obtain ⟨hd3, pcs3, dz3, dt3⟩ := u9
            try dsimp only at hr62 hB9
            obtain ⟨hP, hD⟩ := mw_join (wr := []) (w1 := [(od, .inr (2, [.ref o, .ref dH, .ref dP, .ref dE, .ref dT, .int (zI (↑dz3)), .int (zI (bI (dt3)))])), (dH, .inl (cI, 16, .inl (zA hd3))), (dP, .inl (cI, 16, .inl (zA pcs3)))]) hP hD [0, 1, 2] [] rfl rfl (by decide) (by decide) hk9 hFr ht9 hB9
            have hP := hP.sub (ws' := [(od, .inr (2, [.ref o, .ref dH, .ref dP, .ref dE, .ref dT, .int (zI (↑dz3)), .int (zI (bI (dt3)))])), (dH, .inl (cI, 16, .inl (zA hd3))), (dP, .inl (cI, 16, .inl (zA pcs3)))]) [0, 1, 2] rfl
            have hD := hD.sub (ws' := [(od, .inr (2, [.ref o, .ref dH, .ref dP, .ref dE, .ref dT, .int (zI (↑dz3)), .int (zI (bI (dt3)))])), (dH, .inl (cI, 16, .inl (zA hd3))), (dP, .inl (cI, 16, .inl (zA pcs3)))]) [0, 1, 2] (by decide) rfl
            have hF := fz_keep hF0 hFA hS
            refine lv_goto (tgt := 82) hx hb qd_R_writeBound_65 (by decide) ?_
            refine lv_iinc (k := 1) (lv' := [(4, .int (zI (↑(i + 1)))), (5, .int (zI ((-1)))), (0, .ref orr), (1, .ref a3), (2, .ref a), (3, .ref od)]) hx hb qd_R_writeBound_82 hl rfl (zI_inc (v := ↑(i + 1)) (by omega)) (by decide) rfl (fun ls hl => ?_)
            refine lv_goto (tgt := 3) hx hb qd_R_writeBound_85 (by decide) ?_
            have hl := lv_sub (l' := [(4, .int (zI (↑(i + 1)))), (0, .ref orr), (1, .ref a3), (2, .ref a), (3, .ref od)]) hl [0, 2, 3, 4, 5] rfl
            exact ih3 _ (by omega) (i + 1) hd3 pcs3 dz3 dt3 (by omega) (by show drf ar (l0 ++ (ins th3 th te bd i ++ _)) _ _ _ _; rw [← List.append_assoc]; first | (rw [if_pos hvx]; exact hr62) | (rw [if_neg hvx, hx1]; exact hr79) | (exfalso; omega)) rfl H62_2 L62_2 hP hD hS ls hl
        · skip
          have hvx : ¬ 0 ≤ th3 i := by have := hr15.mp h18; omega
          obtain ⟨x, hx1, hx2⟩ := hbd i (by omega) (by omega)
          refine lv_aload_n hx hb qd_R_writeBound_21 rfl (lv_at hl 1 rfl) ?_
          refine va_get (D := (dC, dI)) (ci := 4) (v := .ref rB) (C := "TermOrders$Rules") (T := qT_R) (N := 4) hx hb hg qi_R hown hK hF 0 rfl rfl 2 (by decide) (hg _ wd_94) (fun _ h9 => h9) rfl qd_R_writeBound_22 ?_
          refine lv_iconst (v := zI (-1)) hx hb qd_R_writeBound_25 rfl ?_
          refine lv_aload_n hx hb qd_R_writeBound_26 rfl (lv_at hl 2 rfl) ?_
          refine va_getN (D := (dC, dI)) (ci := 1) (v := .ref aH3) (C := "TermOrders$Term") (T := qT_T) (N := 5) hx hb hg qi_T hown hK hF 2 rfl rfl 0 (by decide) (va_Nw.use rfl (hN.use nw_325)) (fun _ h9 => h9) rfl qd_R_writeBound_27 ?_
          refine lv_iload hx hb qd_R_writeBound_30 (lv_at hl 0 rfl) ?_
          refine zz_iald hx hb hK hF 3 0 rfl rfl i rfl (by omega) (by omega) qd_R_writeBound_32 ?_
          refine zz_isub hx hb (↑((-1) - th3 i).toNat) (by omega) qd_R_writeBound_33 ?_
          refine zz_iald hx hb hK hF 1 0 rfl rfl (((-1) - th3 i).toNat) rfl (by omega) (by omega) qd_R_writeBound_34 ?_
          refine zz_top (b := ↑x) hx1 ?_
          refine lv_goto (tgt := 39) hx hb qd_R_writeBound_35 (by decide) ?_
          refine lv_istore (lv' := [(5, .int (zI (↑x))), (4, .int (zI (↑i))), (0, .ref orr), (1, .ref a3), (2, .ref a), (3, .ref od)]) hx hb qd_R_writeBound_39 hl (by decide) rfl (fun ls hl => ?_)
          refine lv_iload hx hb qd_R_writeBound_41 (lv_at hl 0 rfl) ?_
          refine lv_iconst (v := zI (-1)) hx hb qd_R_writeBound_43 rfl ?_
          refine zz_icmp_ne (tgt := 68) hx hb qd_R_writeBound_44 (by decide) (by omega) (by omega) (fun h44 => ?_) (fun h44 => ?_)
          · skip
            refine lv_aload_n hx hb qd_R_writeBound_68 rfl (lv_at hl 5 rfl) ?_
            refine lv_aload_n hx hb qd_R_writeBound_69 rfl (lv_at hl 4 rfl) ?_
            refine lv_iload hx hb qd_R_writeBound_70 (lv_at hl 0 rfl) ?_
            refine lv_aload_n hx hb qd_R_writeBound_72 rfl (lv_at hl 4 rfl) ?_
            refine va_getN (D := (dC, dI)) (ci := 1) (v := .ref aE) (C := "TermOrders$Term") (T := qT_T) (N := 5) hx hb hg qi_T hown hK hF 6 rfl rfl 2 (by decide) (va_Nw.use rfl (hN.use nw_334)) (fun _ h9 => h9) rfl qd_R_writeBound_73 ?_
            refine lv_iload hx hb qd_R_writeBound_76 (lv_at hl 0 rfl) ?_
            refine zz_eald hx hb hK hF 9 0 rfl rfl x rfl (by omega) (by omega) qd_R_writeBound_78 ?_
            have hPc := hP.sub (ws' := [(od, .inr (2, [.ref o, .ref dH, .ref dP, .ref dE, .ref dT, .int (zI (↑zz)), .int (zI (bI (zt)))])), (dH, .inl (cI, 16, .inl (zA hz))), (dP, .inl (cI, 16, .inl (zA pz)))]) [0, 1, 2] rfl
            have hDc := hD.sub (ws' := [(od, .inr (2, [.ref o, .ref dH, .ref dP, .ref dE, .ref dT, .int (zI (↑zz)), .int (zI (bI (zt)))])), (dH, .inl (cI, 16, .inl (zA hz))), (dP, .inl (cI, 16, .inl (zA pz)))]) [0, 1, 2] (by decide) rfl
            have hFr := va_free (wc := [(od, .inr (2, [.ref o, .ref dH, .ref dP, .ref dE, .ref dT, .int (zI (↑zz)), .int (zI (bI (zt)))])), (dH, .inl (cI, 16, .inl (zA hz))), (dP, .inl (cI, 16, .inl (zA pz)))]) hD hS hA [0, 1, 2] rfl
            refine va_callv (va_runVN (As := [.ref a, .int (zI (↑x)), .int (zI (↑(te x)))]) (rest := []) ⟨hx, hb, hml, hown, hg⟩ (c_D_copyPlaces l dC dI cI cZ cT cJ o ar od dH dP dE dT zz zt hz pz de dh (l0 ++ ins th3 th te bd i) a aH aP aE n th tm te tg x (te x) H3_1.size hdz h16 htm (Nat.le_of_lt (we x hx2).1) ((we x hx2).2.1)) ⟨va_cnB 3 hg (gw_ok (fun _ h => h) wd_377) rfl rfl rfl (hN.use nw_573) (hg _ wd_3) (by decide +kernel) ⟨Nat.le_of_ble_eq_true rfl, Nat.le_of_ble_eq_true rfl⟩, hg _ wd_376, hg _ se_D_copyPlaces⟩ (mw_preV (va_recv (q0 := 0) hK hP rfl rfl) hPc (pw_c (q := (a, .inr (1, [.ref aH, .ref aP, .ref aE, .int (zI (↑n)), .int (zI (tg))]))) hF 6 rfl (pw_c (q := (aH, .inl (cI, n, .inl (zA th)))) hF 7 rfl (pw_c (q := (aP, .inl (cI, n, .inl (zA tm)))) hF 8 rfl (pw_c (q := (aE, .inl (cI, n, .inl (zA (eI te))))) hF 9 rfl (pw_nil))))) hK hN hDc (apw_c (q := (a, .inr (1, [.ref aH, .ref aP, .ref aE, .int (zI (↑n)), .int (zI (tg))]))) (apw_f hD [0, 1, 2] rfl (hFA 6 _ rfl)) (apw_c (q := (aH, .inl (cI, n, .inl (zA th)))) (apw_f hD [0, 1, 2] rfl (hFA 7 _ rfl)) (apw_c (q := (aP, .inl (cI, n, .inl (zA tm)))) (apw_f hD [0, 1, 2] rfl (hFA 8 _ rfl)) (apw_c (q := (aE, .inl (cI, n, .inl (zA (eI te))))) (apw_f hD [0, 1, 2] rfl (hFA 9 _ rfl)) (apw_nil)))))) rfl rfl hl.1 rfl (lv_room (Nat.le_of_ble_eq_true rfl)) qd_R_writeBound_79 ⟨Nat.le_of_ble_eq_true rfl, Nat.le_of_ble_eq_true rfl⟩) hS (fun q _ h => hFr q h) hFr (fun u9 t9 H79_3 L79_3 ht9 hv9 hr79 hB9 hz9 hk9 hS => ?_)
            obtain ⟨hd3, pcs3, dz3, dt3⟩ := u9
            try dsimp only at hr79 hB9
            obtain ⟨hP, hD⟩ := mw_join (wr := []) (w1 := [(od, .inr (2, [.ref o, .ref dH, .ref dP, .ref dE, .ref dT, .int (zI (↑dz3)), .int (zI (bI (dt3)))])), (dH, .inl (cI, 16, .inl (zA hd3))), (dP, .inl (cI, 16, .inl (zA pcs3)))]) hP hD [0, 1, 2] [] rfl rfl (by decide) (by decide) hk9 hFr ht9 hB9
            have hP := hP.sub (ws' := [(od, .inr (2, [.ref o, .ref dH, .ref dP, .ref dE, .ref dT, .int (zI (↑dz3)), .int (zI (bI (dt3)))])), (dH, .inl (cI, 16, .inl (zA hd3))), (dP, .inl (cI, 16, .inl (zA pcs3)))]) [0, 1, 2] rfl
            have hD := hD.sub (ws' := [(od, .inr (2, [.ref o, .ref dH, .ref dP, .ref dE, .ref dT, .int (zI (↑dz3)), .int (zI (bI (dt3)))])), (dH, .inl (cI, 16, .inl (zA hd3))), (dP, .inl (cI, 16, .inl (zA pcs3)))]) [0, 1, 2] (by decide) rfl
            have hF := fz_keep hF0 hFA hS
            refine lv_iinc (k := 1) (lv' := [(4, .int (zI (↑(i + 1)))), (5, .int (zI (↑x))), (0, .ref orr), (1, .ref a3), (2, .ref a), (3, .ref od)]) hx hb qd_R_writeBound_82 hl rfl (zI_inc (v := ↑(i + 1)) (by omega)) (by decide) rfl (fun ls hl => ?_)
            refine lv_goto (tgt := 3) hx hb qd_R_writeBound_85 (by decide) ?_
            have hl := lv_sub (l' := [(4, .int (zI (↑(i + 1)))), (0, .ref orr), (1, .ref a3), (2, .ref a), (3, .ref od)]) hl [0, 2, 3, 4, 5] rfl
            exact ih3 _ (by omega) (i + 1) hd3 pcs3 dz3 dt3 (by omega) (by show drf ar (l0 ++ (ins th3 th te bd i ++ _)) _ _ _ _; rw [← List.append_assoc]; first | (rw [if_pos hvx]; exact hr62) | (rw [if_neg hvx, hx1]; exact hr79) | (exfalso; omega)) rfl H79_3 L79_3 hP hD hS ls hl
          · skip
            exfalso
            omega
  exact L3 _ 0 hd pcs dz dt (by omega) (by rw [show ins th3 th te bd 0 = [] from rfl, List.append_nil]; exact hdr) rfl sg.heap [] hP hD hS ls hl
set_option maxHeartbeats 4000000 in
set_option maxRecDepth 100000 in
theorem c_R_writeStep (l : Launch) (dC : Nat → ClassId) (dI : Nat → Nat → Nat) (cI cZ cT cJ : ClassId) (orr rL rR rB rc : Nat) (lf rf : Nat → Option Nat) (bd : Nat → Int) (ta tH tP tE tn : Nat → Nat) (TH TM : Nat → Nat → Int) (TE : Nat → Nat → Nat) (TG : Nat → Int) (HT : Nat → Nat → Int) (LI RI : Nat → Nat) (pl : va_W) (tc sy : Nat) (ar : Nat → Int) (o : Nat) (od dH dP dE dT dz : Nat) (dt : Bool) (hd pcs : Nat → Int) (de : Nat → Nat) (dh : Nat → Int) (a aH aP aE n : Nat) (th tm : Nat → Int) (te : Nat → Nat) (tg : Int) (ht : Nat → Int) (zh : Nat) (hsy : sy ≤ 5) (har : ∀ q, q < 5 → 0 ≤ ar q ∧ ar q ≤ 3) (htp : ∀ t, t < tc → okT sy ar (tn t) (TH t) (TM t) (TE t) (HT t) ∧ tin pl cI (ta t) (tH t) (tP t) (tE t) (tn t) (TH t) (TM t) (TE t) (TG t)) (hlr : ∀ r, r < rc → LI r < tc ∧ RI r < tc ∧ lf r = some (ta (LI r)) ∧ rf r = some (ta (RI r)) ∧ ∀ q, q < tn (RI r) → TH (RI r) q < 0 → ∃ k, k < tn (LI r) ∧ TH (LI r) k = TH (RI r) q) (hrc : rc ≤ 8) (hot : okT sy ar n th tm te ht) : Met l qy_R_writeStep qw_R_writeStep ({ frames := 5, cells := 0, slots := 0, locals := 120 }) (mwP (dC, dI) qcl (qty cI cZ cT cJ) nwL [(rB, .inl (cI, 4, .inl (zA bd))), (od, .inr (2, [.ref o, .ref dH, .ref dP, .ref dE, .ref dT, .int (zI (↑dz)), .int (zI (bI (dt)))])), (dH, .inl (cI, 16, .inl (zA hd))), (dP, .inl (cI, 16, .inl (zA pcs)))] ([(orr, .inr (4, [.ref rL, .ref rR, .ref rB, .int (zI (↑rc))])), (rL, .inl (cT, 8, .inr (.inr (.inr (.inr lf))))), (rR, .inl (cT, 8, .inr (.inr (.inr (.inr rf))))), (a, .inr (1, [.ref aH, .ref aP, .ref aE, .int (zI (↑n)), .int (zI (tg))])), (aH, .inl (cI, n, .inl (zA th))), (aP, .inl (cI, n, .inl (zA tm))), (aE, .inl (cI, n, .inl (zA (eI te))))] ++ pl) zh [.ref orr, .ref a, .ref od]) (mwO (S := (Nat → Int) × (Nat → Int) × (Nat → Int) × (Nat) × (Bool)) (fun r uq => (r = true ∧ ∃ (k r0 q : Nat) (b : Nat → Int), inF (fun p => ∃ r, r < rc ∧ MA (TH (LI r)) (tn (LI r)) th te p) te n k ∧ r0 < rc ∧ MR (TH (LI r0)) th te k (tn (LI r0)) q b ∧ (∀ s, s < r0 → ¬ MA (TH (LI s)) (tn (LI s)) th te k) ∧ drf ar (seg th 0 k ++ ins (TH (RI r0)) th te b (tn (RI r0)) ++ seg th (te k) n) uq.2.1 uq.2.2.1 uq.2.2.2.1 uq.2.2.2.2) ∨ (r = false ∧ ∀ k, k < n → ¬ (fun p => ∃ r, r < rc ∧ MA (TH (LI r)) (tn (LI r)) th te p) k)) (fun uq tq => mwB (dC, dI) qcl (qty cI cZ cT cJ) (va_A [(rB, .inl (cI, 4, .inl (zA bd))), (od, .inr (2, [.ref o, .ref dH, .ref dP, .ref dE, .ref dT, .int (zI (↑dz)), .int (zI (bI (dt)))])), (dH, .inl (cI, 16, .inl (zA hd))), (dP, .inl (cI, 16, .inl (zA pcs)))] zh) [(rB, .inl (cI, 4, .inl (zA uq.1))), (od, .inr (2, [.ref o, .ref dH, .ref dP, .ref dE, .ref dT, .int (zI (↑uq.2.2.2.1)), .int (zI (bI (uq.2.2.2.2)))])), (dH, .inl (cI, 16, .inl (zA uq.2.1))), (dP, .inl (cI, 16, .inl (zA uq.2.2.1)))] tq) (va_A [(rB, .inl (cI, 4, .inl (zA bd))), (od, .inr (2, [.ref o, .ref dH, .ref dP, .ref dE, .ref dT, .int (zI (↑dz)), .int (zI (bI (dt)))])), (dH, .inl (cI, 16, .inl (zA hd))), (dP, .inl (cI, 16, .inl (zA pcs)))] zh)) 0 0 (va_A [(rB, .inl (cI, 4, .inl (zA bd))), (od, .inr (2, [.ref o, .ref dH, .ref dP, .ref dE, .ref dT, .int (zI (↑dz)), .int (zI (bI (dt)))])), (dH, .inl (cI, 16, .inl (zA hd))), (dP, .inl (cI, 16, .inl (zA pcs)))] zh) := by
  refine Met.ofW (cc := qc_R_writeStep) (maxL := 5) (ret := (Option.some Jvm.ClassFile.FieldType.boolean)) (by decide) rfl ?_
  intro pg eg sg mg args below meth cg s₁ B hml hv
  obtain ⟨rfl, hsz, hP, hF0, hK, hN, hD0, hap⟩ := hv
  have hx := B.exec
  have hb := B.bytes
  have hr := B.returns
  have hts := atoms_spec (ws := qw_R_writeStep) B.pre
  have hg : ∀ w ∈ gw, w.before _ sg = true := fun w h => hts w (List.mem_cons_of_mem _ h)
  have hown : sg.vm.findClass "TermOrders$Rules" = some mg.cls := findClass_of_methodNamed B.named
  have hlocks := B.notSynchronized
  have hl := lv_entry ([.ref orr, .ref a, .ref od]) (n := 5) (Nat.le_of_ble_eq_true rfl)
  rw [lg_entry_eq]
  generalize (lg_sl ([.ref orr, .ref a, .ref od]) ++ List.replicate (5 - (lg_sl ([.ref orr, .ref a, .ref od])).length) Slot.unset).toArray = ls at hl ⊢
  subst hsz
  have hD := hD0.self (sz := sg.heap.size)
  have hFA := apw_A hap (fun k q hk => (hF0 k q hk).lt)
  generalize hAe : va_A [(rB, .inl (cI, 4, .inl (zA bd))), (od, .inr (2, [.ref o, .ref dH, .ref dP, .ref dE, .ref dT, .int (zI (↑dz)), .int (zI (bI (dt)))])), (dH, .inl (cI, 16, .inl (zA hd))), (dP, .inl (cI, 16, .inl (zA pcs)))] sg.heap.size = A at hD hFA ⊢
  have hA : ∀ q : Nat, sg.heap.size ≤ q → A q := fun q h => by rw [← hAe]; exact Or.inr h
  have hS : va_S A sg.heap sg.heap [] := va_S.rf
  have hF := hF0
  have hl : lv_has ls 5 [(0, .ref orr), (1, .ref a), (2, .ref od)] := hl
  have h16 := hot.2.1
  have hh := okT_hh hsy hot
  have we := hot.2.2.2.2.1
  have htm := hot.2.2.2.1
  refine lv_aload_n hx hb qd_R_writeStep_0 rfl (lv_at hl 0 rfl) ?_
  refine lv_aload_n hx hb qd_R_writeStep_1 rfl (lv_at hl 1 rfl) ?_
  have hPc := hP.sub (ws' := [(rB, .inl (cI, 4, .inl (zA bd)))]) [0] rfl
  have hDc := hD.sub (ws' := [(rB, .inl (cI, 4, .inl (zA bd)))]) [0] (by decide) rfl
  have hFr := va_free (wc := [(rB, .inl (cI, 4, .inl (zA bd)))]) hD hS hA [0] rfl
  refine mw_callI (va_runV (As := [.ref a]) (rest := []) ⟨hx, hb, hml, hown, hg⟩ (c_R_firstInnermostPlace l dC dI cI cZ cT cJ orr rL rR rB rc lf rf bd ta tH tP tE tn TH TM TE TG HT LI RI pl tc sy ar a aH aP aE n th tm te tg ht sg.heap.size hsy har htp hlr hrc hot) ⟨callB_of 1 hg (gw_ok (fun _ h => h) wd_554) rfl rfl rfl (hg _ wd_4) (hg _ wd_551) (by decide +kernel) ⟨Nat.le_of_ble_eq_true rfl, Nat.le_of_ble_eq_true rfl⟩, hg _ wd_553, hg _ se_R_firstInnermostPlace⟩ (mw_preV (va_recv (q0 := 0) hK hF rfl rfl) hPc (pw_c (q := (orr, .inr (4, [.ref rL, .ref rR, .ref rB, .int (zI (↑rc))]))) hF 0 rfl (pw_c (q := (rL, .inl (cT, 8, .inr (.inr (.inr (.inr lf)))))) hF 1 rfl (pw_c (q := (a, .inr (1, [.ref aH, .ref aP, .ref aE, .int (zI (↑n)), .int (zI (tg))]))) hF 3 rfl (pw_c (q := (aH, .inl (cI, n, .inl (zA th)))) hF 4 rfl (pw_c (q := (aP, .inl (cI, n, .inl (zA tm)))) hF 5 rfl (pw_c (q := (aE, .inl (cI, n, .inl (zA (eI te))))) hF 6 rfl (pw_tail [(orr, .inr (4, [.ref rL, .ref rR, .ref rB, .int (zI (↑rc))])), (rL, .inl (cT, 8, .inr (.inr (.inr (.inr lf))))), (rR, .inl (cT, 8, .inr (.inr (.inr (.inr rf))))), (a, .inr (1, [.ref aH, .ref aP, .ref aE, .int (zI (↑n)), .int (zI (tg))])), (aH, .inl (cI, n, .inl (zA th))), (aP, .inl (cI, n, .inl (zA tm))), (aE, .inl (cI, n, .inl (zA (eI te))))] hF))))))) hK hN hDc (apw_c (q := (orr, .inr (4, [.ref rL, .ref rR, .ref rB, .int (zI (↑rc))]))) (apw_f hD [0] rfl (hFA 0 _ rfl)) (apw_c (q := (rL, .inl (cT, 8, .inr (.inr (.inr (.inr lf)))))) (apw_f hD [0] rfl (hFA 1 _ rfl)) (apw_c (q := (a, .inr (1, [.ref aH, .ref aP, .ref aE, .int (zI (↑n)), .int (zI (tg))]))) (apw_f hD [0] rfl (hFA 3 _ rfl)) (apw_c (q := (aH, .inl (cI, n, .inl (zA th)))) (apw_f hD [0] rfl (hFA 4 _ rfl)) (apw_c (q := (aP, .inl (cI, n, .inl (zA tm)))) (apw_f hD [0] rfl (hFA 5 _ rfl)) (apw_c (q := (aE, .inl (cI, n, .inl (zA (eI te))))) (apw_f hD [0] rfl (hFA 6 _ rfl)) (apw_pool hD [0] rfl (hA_tail [(orr, .inr (4, [.ref rL, .ref rR, .ref rB, .int (zI (↑rc))])), (rL, .inl (cT, 8, .inr (.inr (.inr (.inr lf))))), (rR, .inl (cT, 8, .inr (.inr (.inr (.inr rf))))), (a, .inr (1, [.ref aH, .ref aP, .ref aE, .int (zI (↑n)), .int (zI (tg))])), (aH, .inl (cI, n, .inl (zA th))), (aP, .inl (cI, n, .inl (zA tm))), (aE, .inl (cI, n, .inl (zA (eI te))))] hFA))))))))) rfl rfl hl.1 rfl (lv_room (Nat.le_of_ble_eq_true rfl)) qd_R_writeStep_2 ⟨Nat.le_of_ble_eq_true rfl, Nat.le_of_ble_eq_true rfl⟩) hS (fun q _ h => hFr q h) hFr (fun r2 b1 t9 H2_1 L2_1 ht9 hv9 hr2 hB9 hz9 hk9 hS => ?_)
  try dsimp only at hr2 hB9
  obtain ⟨hP, hD⟩ := mw_join (wr := [(od, .inr (2, [.ref o, .ref dH, .ref dP, .ref dE, .ref dT, .int (zI (↑dz)), .int (zI (bI (dt)))])), (dH, .inl (cI, 16, .inl (zA hd))), (dP, .inl (cI, 16, .inl (zA pcs)))]) (w1 := [(rB, .inl (cI, 4, .inl (zA b1)))]) hP hD [0] [1, 2, 3] rfl rfl (by decide) (by decide) hk9 hFr ht9 hB9
  have hP := hP.sub (ws' := [(rB, .inl (cI, 4, .inl (zA b1))), (od, .inr (2, [.ref o, .ref dH, .ref dP, .ref dE, .ref dT, .int (zI (↑dz)), .int (zI (bI (dt)))])), (dH, .inl (cI, 16, .inl (zA hd))), (dP, .inl (cI, 16, .inl (zA pcs)))]) [3, 0, 1, 2] rfl
  have hD := hD.sub (ws' := [(rB, .inl (cI, 4, .inl (zA b1))), (od, .inr (2, [.ref o, .ref dH, .ref dP, .ref dE, .ref dT, .int (zI (↑dz)), .int (zI (bI (dt)))])), (dH, .inl (cI, 16, .inl (zA hd))), (dP, .inl (cI, 16, .inl (zA pcs)))]) [3, 0, 1, 2] (by decide) rfl
  have hF := fz_keep hF0 hFA hS
  refine lv_istore_n (lv' := [(3, .int (zI (r2))), (0, .ref orr), (1, .ref a), (2, .ref od)]) hx hb qd_R_writeStep_5 rfl hl (by decide) rfl (fun ls hl => ?_)
  refine lv_iload_n hx hb qd_R_writeStep_6 rfl (lv_at hl 0 rfl) ?_
  refine lv_iconst (v := zI (-1)) hx hb qd_R_writeStep_7 rfl ?_
  refine zz_icmp_ne (tgt := 15) hx hb qd_R_writeStep_8 (by decide) (by rcases hr2 with ⟨k, z1, z2, _⟩ | ⟨z1, _⟩ <;> omega) (by omega) (fun h8 => ?_) (fun h8 => ?_)
  · skip
    obtain ⟨k, rfl, hin⟩ := hr2.resolve_right (fun z => h8 z.1)
    have hkn := hin.1
    refine lv_aload_n hx hb qd_R_writeStep_15 rfl (lv_at hl 1 rfl) ?_
    refine lv_aload_n hx hb qd_R_writeStep_16 rfl (lv_at hl 2 rfl) ?_
    refine lv_iload_n hx hb qd_R_writeStep_17 rfl (lv_at hl 0 rfl) ?_
    have hPc := hP.sub (ws' := [(rB, .inl (cI, 4, .inl (zA b1)))]) [0] rfl
    have hDc := hD.sub (ws' := [(rB, .inl (cI, 4, .inl (zA b1)))]) [0] (by decide) rfl
    have hFr := va_free (wc := [(rB, .inl (cI, 4, .inl (zA b1)))]) hD hS hA [0] rfl
    refine mw_callI (va_runV (As := [.ref a, .int (zI (↑k))]) (rest := []) ⟨hx, hb, hml, hown, hg⟩ (c_R_leastMatchingRule l dC dI cI cZ cT cJ orr rL rR rB rc lf rf b1 ta tH tP tE tn TH TM TE TG HT LI RI pl tc sy ar a aH aP aE n th tm te tg ht k H2_1.size hsy har htp hlr hrc hot hkn) ⟨callB_of 2 hg (gw_ok (fun _ h => h) wd_558) rfl rfl rfl (hg _ wd_4) (hg _ wd_555) (by decide +kernel) ⟨Nat.le_of_ble_eq_true rfl, Nat.le_of_ble_eq_true rfl⟩, hg _ wd_557, hg _ se_R_leastMatchingRule⟩ (mw_preV (va_recv (q0 := 0) hK hF rfl rfl) hPc (pw_c (q := (orr, .inr (4, [.ref rL, .ref rR, .ref rB, .int (zI (↑rc))]))) hF 0 rfl (pw_c (q := (rL, .inl (cT, 8, .inr (.inr (.inr (.inr lf)))))) hF 1 rfl (pw_c (q := (a, .inr (1, [.ref aH, .ref aP, .ref aE, .int (zI (↑n)), .int (zI (tg))]))) hF 3 rfl (pw_c (q := (aH, .inl (cI, n, .inl (zA th)))) hF 4 rfl (pw_c (q := (aP, .inl (cI, n, .inl (zA tm)))) hF 5 rfl (pw_c (q := (aE, .inl (cI, n, .inl (zA (eI te))))) hF 6 rfl (pw_tail [(orr, .inr (4, [.ref rL, .ref rR, .ref rB, .int (zI (↑rc))])), (rL, .inl (cT, 8, .inr (.inr (.inr (.inr lf))))), (rR, .inl (cT, 8, .inr (.inr (.inr (.inr rf))))), (a, .inr (1, [.ref aH, .ref aP, .ref aE, .int (zI (↑n)), .int (zI (tg))])), (aH, .inl (cI, n, .inl (zA th))), (aP, .inl (cI, n, .inl (zA tm))), (aE, .inl (cI, n, .inl (zA (eI te))))] hF))))))) hK hN hDc (apw_c (q := (orr, .inr (4, [.ref rL, .ref rR, .ref rB, .int (zI (↑rc))]))) (apw_f hD [0] rfl (hFA 0 _ rfl)) (apw_c (q := (rL, .inl (cT, 8, .inr (.inr (.inr (.inr lf)))))) (apw_f hD [0] rfl (hFA 1 _ rfl)) (apw_c (q := (a, .inr (1, [.ref aH, .ref aP, .ref aE, .int (zI (↑n)), .int (zI (tg))]))) (apw_f hD [0] rfl (hFA 3 _ rfl)) (apw_c (q := (aH, .inl (cI, n, .inl (zA th)))) (apw_f hD [0] rfl (hFA 4 _ rfl)) (apw_c (q := (aP, .inl (cI, n, .inl (zA tm)))) (apw_f hD [0] rfl (hFA 5 _ rfl)) (apw_c (q := (aE, .inl (cI, n, .inl (zA (eI te))))) (apw_f hD [0] rfl (hFA 6 _ rfl)) (apw_pool hD [0] rfl (hA_tail [(orr, .inr (4, [.ref rL, .ref rR, .ref rB, .int (zI (↑rc))])), (rL, .inl (cT, 8, .inr (.inr (.inr (.inr lf))))), (rR, .inl (cT, 8, .inr (.inr (.inr (.inr rf))))), (a, .inr (1, [.ref aH, .ref aP, .ref aE, .int (zI (↑n)), .int (zI (tg))])), (aH, .inl (cI, n, .inl (zA th))), (aP, .inl (cI, n, .inl (zA tm))), (aE, .inl (cI, n, .inl (zA (eI te))))] hFA))))))))) rfl rfl hl.1 rfl (lv_room (Nat.le_of_ble_eq_true rfl)) qd_R_writeStep_18 ⟨Nat.le_of_ble_eq_true rfl, Nat.le_of_ble_eq_true rfl⟩) hS (fun q _ h => hFr q h) hFr (fun r18 b2 t9 H18_2 L18_2 ht9 hv9 hr18 hB9 hz9 hk9 hS => ?_)
    try dsimp only at hr18 hB9
    obtain ⟨hP, hD⟩ := mw_join (wr := [(od, .inr (2, [.ref o, .ref dH, .ref dP, .ref dE, .ref dT, .int (zI (↑dz)), .int (zI (bI (dt)))])), (dH, .inl (cI, 16, .inl (zA hd))), (dP, .inl (cI, 16, .inl (zA pcs)))]) (w1 := [(rB, .inl (cI, 4, .inl (zA b2)))]) hP hD [0] [1, 2, 3] rfl rfl (by decide) (by decide) hk9 hFr ht9 hB9
    have hP := hP.sub (ws' := [(rB, .inl (cI, 4, .inl (zA b2))), (od, .inr (2, [.ref o, .ref dH, .ref dP, .ref dE, .ref dT, .int (zI (↑dz)), .int (zI (bI (dt)))])), (dH, .inl (cI, 16, .inl (zA hd))), (dP, .inl (cI, 16, .inl (zA pcs)))]) [3, 0, 1, 2] rfl
    have hD := hD.sub (ws' := [(rB, .inl (cI, 4, .inl (zA b2))), (od, .inr (2, [.ref o, .ref dH, .ref dP, .ref dE, .ref dT, .int (zI (↑dz)), .int (zI (bI (dt)))])), (dH, .inl (cI, 16, .inl (zA hd))), (dP, .inl (cI, 16, .inl (zA pcs)))]) [3, 0, 1, 2] (by decide) rfl
    have hF := fz_keep hF0 hFA hS
    obtain ⟨r0, rfl, hr0, ⟨q, hMR⟩, hleast⟩ := hr18.resolve_right (fun z => by obtain ⟨s, z1, z2⟩ := hin.2.1.1; exact z.2 s z1 z2)
    obtain ⟨hu1, hu2, hu3, hu4, hu5⟩ := hlr r0 hr0
    obtain ⟨ho9, ⟨k0, hk0⟩, ⟨k1, hk1⟩, ⟨k2, hk2⟩, ⟨k3, hk3⟩⟩ := htp (RI r0) hu2
    have hol := (htp (LI r0) hu1).1
    refine lv_istore (lv' := [(4, .int (zI ((↑r0)))), (3, .int (zI ((↑k)))), (0, .ref orr), (1, .ref a), (2, .ref od)]) hx hb qd_R_writeStep_21 hl (by decide) rfl (fun ls hl => ?_)
    refine lv_iload hx hb qd_R_writeStep_23 (lv_at hl 0 rfl) ?_
    refine lv_iconst (v := zI (-1)) hx hb qd_R_writeStep_25 rfl ?_
    refine zz_icmp_ne (tgt := 31) hx hb qd_R_writeStep_26 (by decide) (by omega) (by omega) (fun h26 => ?_) (fun h26 => ?_)
    · skip
      refine lv_aload_n hx hb qd_R_writeStep_31 rfl (lv_at hl 4 rfl) ?_
      have hPc := hP.sub (ws' := [(od, .inr (2, [.ref o, .ref dH, .ref dP, .ref dE, .ref dT, .int (zI (↑dz)), .int (zI (bI (dt)))]))]) [1] rfl
      have hDc := hD.sub (ws' := [(od, .inr (2, [.ref o, .ref dH, .ref dP, .ref dE, .ref dT, .int (zI (↑dz)), .int (zI (bI (dt)))]))]) [1] (by decide) rfl
      have hFr := va_free (wc := [(od, .inr (2, [.ref o, .ref dH, .ref dP, .ref dE, .ref dT, .int (zI (↑dz)), .int (zI (bI (dt)))]))]) hD hS hA [1] rfl
      refine va_callv (va_runVN (As := []) (rest := []) ⟨hx, hb, hml, hown, hg⟩ (c_D_clear l dC dI cI cZ cT cJ o od dH dP dE dT dz dt hd pcs de dh H18_2.size ) ⟨va_cnB 0 hg (gw_ok (fun _ h => h) wd_271) rfl rfl rfl (hN.use nw_572) (hg _ wd_3) (by decide +kernel) ⟨Nat.le_of_ble_eq_true rfl, Nat.le_of_ble_eq_true rfl⟩, hg _ wd_270, hg _ se_D_clear⟩ (mw_preV (va_recv (q0 := 1) hK hP rfl rfl) hPc (pw_nil) hK hN hDc (apw_nil)) rfl rfl hl.1 rfl (lv_room (Nat.le_of_ble_eq_true rfl)) qd_R_writeStep_32 ⟨Nat.le_of_ble_eq_true rfl, Nat.le_of_ble_eq_true rfl⟩) hS (fun q _ h => hFr q h) hFr (fun u9 t9 H32_3 L32_3 ht9 hv9 hr32 hB9 hz9 hk9 hS => ?_)
      obtain ⟨hP, hD⟩ := mw_join (wr := [(rB, .inl (cI, 4, .inl (zA b2))), (dH, .inl (cI, 16, .inl (zA hd))), (dP, .inl (cI, 16, .inl (zA pcs)))]) (w1 := [(od, .inr (2, [.ref o, .ref dH, .ref dP, .ref dE, .ref dT, .int (zI (0)), .int (zI (bI (false)))]))]) hP hD [1] [0, 2, 3] rfl rfl (by decide) (by decide) hk9 hFr ht9 hB9
      have hP := hP.sub (ws' := [(rB, .inl (cI, 4, .inl (zA b2))), (od, .inr (2, [.ref o, .ref dH, .ref dP, .ref dE, .ref dT, .int (zI (0)), .int (zI (bI (false)))])), (dH, .inl (cI, 16, .inl (zA hd))), (dP, .inl (cI, 16, .inl (zA pcs)))]) [0, 3, 1, 2] rfl
      have hD := hD.sub (ws' := [(rB, .inl (cI, 4, .inl (zA b2))), (od, .inr (2, [.ref o, .ref dH, .ref dP, .ref dE, .ref dT, .int (zI (0)), .int (zI (bI (false)))])), (dH, .inl (cI, 16, .inl (zA hd))), (dP, .inl (cI, 16, .inl (zA pcs)))]) [0, 3, 1, 2] (by decide) rfl
      have hF := fz_keep hF0 hFA hS
      refine lv_aload_n hx hb qd_R_writeStep_35 rfl (lv_at hl 4 rfl) ?_
      refine lv_aload_n hx hb qd_R_writeStep_36 rfl (lv_at hl 3 rfl) ?_
      refine lv_iconst (v := zI 0) hx hb qd_R_writeStep_37 rfl ?_
      refine lv_iload_n hx hb qd_R_writeStep_38 rfl (lv_at hl 1 rfl) ?_
      have hPc := hP.sub (ws' := [(od, .inr (2, [.ref o, .ref dH, .ref dP, .ref dE, .ref dT, .int (zI (↑0)), .int (zI (bI (false)))])), (dH, .inl (cI, 16, .inl (zA hd))), (dP, .inl (cI, 16, .inl (zA pcs)))]) [1, 2, 3] rfl
      have hDc := hD.sub (ws' := [(od, .inr (2, [.ref o, .ref dH, .ref dP, .ref dE, .ref dT, .int (zI (↑0)), .int (zI (bI (false)))])), (dH, .inl (cI, 16, .inl (zA hd))), (dP, .inl (cI, 16, .inl (zA pcs)))]) [1, 2, 3] (by decide) rfl
      have hFr := va_free (wc := [(od, .inr (2, [.ref o, .ref dH, .ref dP, .ref dE, .ref dT, .int (zI (↑0)), .int (zI (bI (false)))])), (dH, .inl (cI, 16, .inl (zA hd))), (dP, .inl (cI, 16, .inl (zA pcs)))]) hD hS hA [1, 2, 3] rfl
      refine va_callv (va_runVN (As := [.ref a, .int (zI (↑0)), .int (zI (↑k))]) (rest := []) ⟨hx, hb, hml, hown, hg⟩ (c_D_copyPlaces l dC dI cI cZ cT cJ o ar od dH dP dE dT 0 false hd pcs de dh ([]) a aH aP aE n th tm te tg 0 k H32_3.size (drf_0 ar hd pcs) h16 htm (by omega) (by omega)) ⟨va_cnB 3 hg (gw_ok (fun _ h => h) wd_377) rfl rfl rfl (hN.use nw_573) (hg _ wd_3) (by decide +kernel) ⟨Nat.le_of_ble_eq_true rfl, Nat.le_of_ble_eq_true rfl⟩, hg _ wd_376, hg _ se_D_copyPlaces⟩ (mw_preV (va_recv (q0 := 1) hK hP rfl rfl) hPc (pw_c (q := (a, .inr (1, [.ref aH, .ref aP, .ref aE, .int (zI (↑n)), .int (zI (tg))]))) hF 3 rfl (pw_c (q := (aH, .inl (cI, n, .inl (zA th)))) hF 4 rfl (pw_c (q := (aP, .inl (cI, n, .inl (zA tm)))) hF 5 rfl (pw_c (q := (aE, .inl (cI, n, .inl (zA (eI te))))) hF 6 rfl (pw_nil))))) hK hN hDc (apw_c (q := (a, .inr (1, [.ref aH, .ref aP, .ref aE, .int (zI (↑n)), .int (zI (tg))]))) (apw_f hD [1, 2, 3] rfl (hFA 3 _ rfl)) (apw_c (q := (aH, .inl (cI, n, .inl (zA th)))) (apw_f hD [1, 2, 3] rfl (hFA 4 _ rfl)) (apw_c (q := (aP, .inl (cI, n, .inl (zA tm)))) (apw_f hD [1, 2, 3] rfl (hFA 5 _ rfl)) (apw_c (q := (aE, .inl (cI, n, .inl (zA (eI te))))) (apw_f hD [1, 2, 3] rfl (hFA 6 _ rfl)) (apw_nil)))))) rfl rfl hl.1 rfl (lv_room (Nat.le_of_ble_eq_true rfl)) qd_R_writeStep_39 ⟨Nat.le_of_ble_eq_true rfl, Nat.le_of_ble_eq_true rfl⟩) hS (fun q _ h => hFr q h) hFr (fun u9 t9 H39_4 L39_4 ht9 hv9 hr39 hB9 hz9 hk9 hS => ?_)
      obtain ⟨hd4, pcs4, dz4, dt4⟩ := u9
      try dsimp only at hr39 hB9
      obtain ⟨hP, hD⟩ := mw_join (wr := [(rB, .inl (cI, 4, .inl (zA b2)))]) (w1 := [(od, .inr (2, [.ref o, .ref dH, .ref dP, .ref dE, .ref dT, .int (zI (↑dz4)), .int (zI (bI (dt4)))])), (dH, .inl (cI, 16, .inl (zA hd4))), (dP, .inl (cI, 16, .inl (zA pcs4)))]) hP hD [1, 2, 3] [0] rfl rfl (by decide) (by decide) hk9 hFr ht9 hB9
      have hP := hP.sub (ws' := [(rB, .inl (cI, 4, .inl (zA b2))), (od, .inr (2, [.ref o, .ref dH, .ref dP, .ref dE, .ref dT, .int (zI (↑dz4)), .int (zI (bI (dt4)))])), (dH, .inl (cI, 16, .inl (zA hd4))), (dP, .inl (cI, 16, .inl (zA pcs4)))]) [0, 1, 2, 3] rfl
      have hD := hD.sub (ws' := [(rB, .inl (cI, 4, .inl (zA b2))), (od, .inr (2, [.ref o, .ref dH, .ref dP, .ref dE, .ref dT, .int (zI (↑dz4)), .int (zI (bI (dt4)))])), (dH, .inl (cI, 16, .inl (zA hd4))), (dP, .inl (cI, 16, .inl (zA pcs4)))]) [0, 1, 2, 3] (by decide) rfl
      have hF := fz_keep hF0 hFA hS
      refine lv_aload_n hx hb qd_R_writeStep_42 rfl (lv_at hl 2 rfl) ?_
      refine lv_aload_n hx hb qd_R_writeStep_43 rfl (lv_at hl 2 rfl) ?_
      refine va_get (D := (dC, dI)) (ci := 4) (v := .ref rR) (C := "TermOrders$Rules") (T := qT_R) (N := 4) hx hb hg qi_R hown hK hF 0 rfl rfl 1 (by decide) (hg _ wd_92) (fun _ h9 => h9) rfl qd_R_writeStep_44 ?_
      refine lv_iload hx hb qd_R_writeStep_47 (lv_at hl 0 rfl) ?_
      refine zz_aald hx hb hK hF 2 2 rfl rfl r0 rfl (by omega) (by omega) (r := (ta (RI r0))) hu4 qd_R_writeStep_49 ?_
      refine lv_aload_n hx hb qd_R_writeStep_50 rfl (lv_at hl 3 rfl) ?_
      refine lv_aload_n hx hb qd_R_writeStep_51 rfl (lv_at hl 4 rfl) ?_
      have hPc := hP.sub (ws' := [(od, .inr (2, [.ref o, .ref dH, .ref dP, .ref dE, .ref dT, .int (zI (↑dz4)), .int (zI (bI (dt4)))])), (dH, .inl (cI, 16, .inl (zA hd4))), (dP, .inl (cI, 16, .inl (zA pcs4)))]) [1, 2, 3] rfl
      have hDc := hD.sub (ws' := [(od, .inr (2, [.ref o, .ref dH, .ref dP, .ref dE, .ref dT, .int (zI (↑dz4)), .int (zI (bI (dt4)))])), (dH, .inl (cI, 16, .inl (zA hd4))), (dP, .inl (cI, 16, .inl (zA pcs4)))]) [1, 2, 3] (by decide) rfl
      have hFr := va_free (wc := [(od, .inr (2, [.ref o, .ref dH, .ref dP, .ref dE, .ref dT, .int (zI (↑dz4)), .int (zI (bI (dt4)))])), (dH, .inl (cI, 16, .inl (zA hd4))), (dP, .inl (cI, 16, .inl (zA pcs4)))]) hD hS hA [1, 2, 3] rfl
      refine va_callv (va_runV (As := [.ref ((ta (RI r0))), .ref a, .ref od]) (rest := []) ⟨hx, hb, hml, hown, hg⟩ (c_R_writeBound l dC dI cI cZ cT cJ orr rL rR rB rc lf rf b2 o ar od dH dP dE dT dz4 dt4 hd4 pcs4 de dh ([] ++ seg th 0 k) (ta (RI r0)) (tH (RI r0)) (tP (RI r0)) (tE (RI r0)) (tn (RI r0)) (TH (RI r0)) (TM (RI r0)) (TE (RI r0)) (TG (RI r0)) a aH aP aE n th tm te tg H39_4.size hr39 ho9.2.1 (okT_hh hsy ho9) ho9.2.2.2.1 h16 we htm (fun j hj hv => st_bound hol hot hkn hMR (hu5 j hj hv) hv)) ⟨callB_of 3 hg (gw_ok (fun _ h => h) wd_577) rfl rfl rfl (hg _ wd_4) (hg _ wd_574) (by decide +kernel) ⟨Nat.le_of_ble_eq_true rfl, Nat.le_of_ble_eq_true rfl⟩, hg _ wd_576, hg _ se_R_writeBound⟩ (mw_preV (va_recv (q0 := 0) hK hF rfl rfl) hPc (pw_c (q := (orr, .inr (4, [.ref rL, .ref rR, .ref rB, .int (zI (↑rc))]))) hF 0 rfl (pw_c (q := (rB, .inl (cI, 4, .inl (zA b2)))) hP 0 rfl (pw_c (q := ((ta (RI r0)), .inr (1, [.ref ((tH (RI r0))), .ref ((tP (RI r0))), .ref ((tE (RI r0))), .int (zI (↑(tn (RI r0)))), .int (zI ((TG (RI r0))))]))) hF (k0 + 7) hk0 (pw_c (q := ((tH (RI r0)), .inl (cI, (tn (RI r0)), .inl (zA ((TH (RI r0))))))) hF (k1 + 7) hk1 (pw_c (q := ((tP (RI r0)), .inl (cI, (tn (RI r0)), .inl (zA ((TM (RI r0))))))) hF (k2 + 7) hk2 (pw_c (q := ((tE (RI r0)), .inl (cI, (tn (RI r0)), .inl (zA (eI ((TE (RI r0)))))))) hF (k3 + 7) hk3 (pw_c (q := (a, .inr (1, [.ref aH, .ref aP, .ref aE, .int (zI (↑n)), .int (zI (tg))]))) hF 3 rfl (pw_c (q := (aH, .inl (cI, n, .inl (zA th)))) hF 4 rfl (pw_c (q := (aP, .inl (cI, n, .inl (zA tm)))) hF 5 rfl (pw_c (q := (aE, .inl (cI, n, .inl (zA (eI te))))) hF 6 rfl (pw_nil))))))))))) hK hN hDc (apw_c (q := (orr, .inr (4, [.ref rL, .ref rR, .ref rB, .int (zI (↑rc))]))) (apw_f hD [1, 2, 3] rfl (hFA 0 _ rfl)) (apw_c (q := (rB, .inl (cI, 4, .inl (zA b2)))) (apw_m hD [1, 2, 3] rfl 0 rfl (by decide)) (apw_c (q := ((ta (RI r0)), .inr (1, [.ref ((tH (RI r0))), .ref ((tP (RI r0))), .ref ((tE (RI r0))), .int (zI (↑(tn (RI r0)))), .int (zI ((TG (RI r0))))]))) (apw_f hD [1, 2, 3] rfl (hFA (k0 + 7) _ hk0)) (apw_c (q := ((tH (RI r0)), .inl (cI, (tn (RI r0)), .inl (zA ((TH (RI r0))))))) (apw_f hD [1, 2, 3] rfl (hFA (k1 + 7) _ hk1)) (apw_c (q := ((tP (RI r0)), .inl (cI, (tn (RI r0)), .inl (zA ((TM (RI r0))))))) (apw_f hD [1, 2, 3] rfl (hFA (k2 + 7) _ hk2)) (apw_c (q := ((tE (RI r0)), .inl (cI, (tn (RI r0)), .inl (zA (eI ((TE (RI r0)))))))) (apw_f hD [1, 2, 3] rfl (hFA (k3 + 7) _ hk3)) (apw_c (q := (a, .inr (1, [.ref aH, .ref aP, .ref aE, .int (zI (↑n)), .int (zI (tg))]))) (apw_f hD [1, 2, 3] rfl (hFA 3 _ rfl)) (apw_c (q := (aH, .inl (cI, n, .inl (zA th)))) (apw_f hD [1, 2, 3] rfl (hFA 4 _ rfl)) (apw_c (q := (aP, .inl (cI, n, .inl (zA tm)))) (apw_f hD [1, 2, 3] rfl (hFA 5 _ rfl)) (apw_c (q := (aE, .inl (cI, n, .inl (zA (eI te))))) (apw_f hD [1, 2, 3] rfl (hFA 6 _ rfl)) (apw_nil)))))))))))) rfl rfl hl.1 rfl (lv_room (Nat.le_of_ble_eq_true rfl)) qd_R_writeStep_52 ⟨Nat.le_of_ble_eq_true rfl, Nat.le_of_ble_eq_true rfl⟩) hS (fun q _ h => hFr q h) hFr (fun u9 t9 H52_5 L52_5 ht9 hv9 hr52 hB9 hz9 hk9 hS => ?_)
      obtain ⟨hd5, pcs5, dz5, dt5⟩ := u9
      try dsimp only at hr52 hB9
      obtain ⟨hP, hD⟩ := mw_join (wr := [(rB, .inl (cI, 4, .inl (zA b2)))]) (w1 := [(od, .inr (2, [.ref o, .ref dH, .ref dP, .ref dE, .ref dT, .int (zI (↑dz5)), .int (zI (bI (dt5)))])), (dH, .inl (cI, 16, .inl (zA hd5))), (dP, .inl (cI, 16, .inl (zA pcs5)))]) hP hD [1, 2, 3] [0] rfl rfl (by decide) (by decide) hk9 hFr ht9 hB9
      have hP := hP.sub (ws' := [(rB, .inl (cI, 4, .inl (zA b2))), (od, .inr (2, [.ref o, .ref dH, .ref dP, .ref dE, .ref dT, .int (zI (↑dz5)), .int (zI (bI (dt5)))])), (dH, .inl (cI, 16, .inl (zA hd5))), (dP, .inl (cI, 16, .inl (zA pcs5)))]) [0, 1, 2, 3] rfl
      have hD := hD.sub (ws' := [(rB, .inl (cI, 4, .inl (zA b2))), (od, .inr (2, [.ref o, .ref dH, .ref dP, .ref dE, .ref dT, .int (zI (↑dz5)), .int (zI (bI (dt5)))])), (dH, .inl (cI, 16, .inl (zA hd5))), (dP, .inl (cI, 16, .inl (zA pcs5)))]) [0, 1, 2, 3] (by decide) rfl
      have hF := fz_keep hF0 hFA hS
      refine lv_aload_n hx hb qd_R_writeStep_55 rfl (lv_at hl 4 rfl) ?_
      refine lv_aload_n hx hb qd_R_writeStep_56 rfl (lv_at hl 3 rfl) ?_
      refine lv_aload_n hx hb qd_R_writeStep_57 rfl (lv_at hl 3 rfl) ?_
      refine va_getN (D := (dC, dI)) (ci := 1) (v := .ref aE) (C := "TermOrders$Term") (T := qT_T) (N := 5) hx hb hg qi_T hown hK hF 3 rfl rfl 2 (by decide) (va_Nw.use rfl (hN.use nw_334)) (fun _ h9 => h9) rfl qd_R_writeStep_58 ?_
      refine lv_iload_n hx hb qd_R_writeStep_61 rfl (lv_at hl 1 rfl) ?_
      refine zz_eald hx hb hK hF 6 0 rfl rfl k rfl (by omega) (by omega) qd_R_writeStep_62 ?_
      refine lv_aload_n hx hb qd_R_writeStep_63 rfl (lv_at hl 3 rfl) ?_
      refine va_getN (D := (dC, dI)) (ci := 1) (v := .int (zI (↑n))) (C := "TermOrders$Term") (T := qT_T) (N := 5) hx hb hg qi_T hown hK hF 3 rfl rfl 3 (by decide) (va_Nw.use rfl (hN.use nw_338)) (fun _ h9 => h9) rfl qd_R_writeStep_64 ?_
      have hPc := hP.sub (ws' := [(od, .inr (2, [.ref o, .ref dH, .ref dP, .ref dE, .ref dT, .int (zI (↑dz5)), .int (zI (bI (dt5)))])), (dH, .inl (cI, 16, .inl (zA hd5))), (dP, .inl (cI, 16, .inl (zA pcs5)))]) [1, 2, 3] rfl
      have hDc := hD.sub (ws' := [(od, .inr (2, [.ref o, .ref dH, .ref dP, .ref dE, .ref dT, .int (zI (↑dz5)), .int (zI (bI (dt5)))])), (dH, .inl (cI, 16, .inl (zA hd5))), (dP, .inl (cI, 16, .inl (zA pcs5)))]) [1, 2, 3] (by decide) rfl
      have hFr := va_free (wc := [(od, .inr (2, [.ref o, .ref dH, .ref dP, .ref dE, .ref dT, .int (zI (↑dz5)), .int (zI (bI (dt5)))])), (dH, .inl (cI, 16, .inl (zA hd5))), (dP, .inl (cI, 16, .inl (zA pcs5)))]) hD hS hA [1, 2, 3] rfl
      refine va_callv (va_runVN (As := [.ref a, .int (zI (↑(te k))), .int (zI (↑n))]) (rest := []) ⟨hx, hb, hml, hown, hg⟩ (c_D_copyPlaces l dC dI cI cZ cT cJ o ar od dH dP dE dT dz5 dt5 hd5 pcs5 de dh ([] ++ seg th 0 k ++ ins (TH (RI r0)) th te b2 (tn (RI r0))) a aH aP aE n th tm te tg (te k) n H52_5.size hr52 h16 htm ((we k hkn).2.1) (Nat.le_refl n)) ⟨va_cnB 3 hg (gw_ok (fun _ h => h) wd_377) rfl rfl rfl (hN.use nw_573) (hg _ wd_3) (by decide +kernel) ⟨Nat.le_of_ble_eq_true rfl, Nat.le_of_ble_eq_true rfl⟩, hg _ wd_376, hg _ se_D_copyPlaces⟩ (mw_preV (va_recv (q0 := 1) hK hP rfl rfl) hPc (pw_c (q := (a, .inr (1, [.ref aH, .ref aP, .ref aE, .int (zI (↑n)), .int (zI (tg))]))) hF 3 rfl (pw_c (q := (aH, .inl (cI, n, .inl (zA th)))) hF 4 rfl (pw_c (q := (aP, .inl (cI, n, .inl (zA tm)))) hF 5 rfl (pw_c (q := (aE, .inl (cI, n, .inl (zA (eI te))))) hF 6 rfl (pw_nil))))) hK hN hDc (apw_c (q := (a, .inr (1, [.ref aH, .ref aP, .ref aE, .int (zI (↑n)), .int (zI (tg))]))) (apw_f hD [1, 2, 3] rfl (hFA 3 _ rfl)) (apw_c (q := (aH, .inl (cI, n, .inl (zA th)))) (apw_f hD [1, 2, 3] rfl (hFA 4 _ rfl)) (apw_c (q := (aP, .inl (cI, n, .inl (zA tm)))) (apw_f hD [1, 2, 3] rfl (hFA 5 _ rfl)) (apw_c (q := (aE, .inl (cI, n, .inl (zA (eI te))))) (apw_f hD [1, 2, 3] rfl (hFA 6 _ rfl)) (apw_nil)))))) rfl rfl hl.1 rfl (lv_room (Nat.le_of_ble_eq_true rfl)) qd_R_writeStep_67 ⟨Nat.le_of_ble_eq_true rfl, Nat.le_of_ble_eq_true rfl⟩) hS (fun q _ h => hFr q h) hFr (fun u9 t9 H67_6 L67_6 ht9 hv9 hr67 hB9 hz9 hk9 hS => ?_)
      obtain ⟨hd6, pcs6, dz6, dt6⟩ := u9
      try dsimp only at hr67 hB9
      obtain ⟨hP, hD⟩ := mw_join (wr := [(rB, .inl (cI, 4, .inl (zA b2)))]) (w1 := [(od, .inr (2, [.ref o, .ref dH, .ref dP, .ref dE, .ref dT, .int (zI (↑dz6)), .int (zI (bI (dt6)))])), (dH, .inl (cI, 16, .inl (zA hd6))), (dP, .inl (cI, 16, .inl (zA pcs6)))]) hP hD [1, 2, 3] [0] rfl rfl (by decide) (by decide) hk9 hFr ht9 hB9
      have hP := hP.sub (ws' := [(rB, .inl (cI, 4, .inl (zA b2))), (od, .inr (2, [.ref o, .ref dH, .ref dP, .ref dE, .ref dT, .int (zI (↑dz6)), .int (zI (bI (dt6)))])), (dH, .inl (cI, 16, .inl (zA hd6))), (dP, .inl (cI, 16, .inl (zA pcs6)))]) [0, 1, 2, 3] rfl
      have hD := hD.sub (ws' := [(rB, .inl (cI, 4, .inl (zA b2))), (od, .inr (2, [.ref o, .ref dH, .ref dP, .ref dE, .ref dT, .int (zI (↑dz6)), .int (zI (bI (dt6)))])), (dH, .inl (cI, 16, .inl (zA hd6))), (dP, .inl (cI, 16, .inl (zA pcs6)))]) [0, 1, 2, 3] (by decide) rfl
      have hF := fz_keep hF0 hFA hS
      refine lv_iconst (v := zI 1) hx hb qd_R_writeStep_70 rfl ?_
      exact W.zret (v := zI (bI true)) (ty := .boolean) hx hb hr (bI_n _) (fun t9 ht9 hW9 => ⟨⟨true, (b2, hd6, pcs6, dz6, dt6), rfl, (Or.inl ⟨rfl, k, r0, q, b2, hin, hr0, hMR, hleast, hr67⟩), mwB_i (by rw [ht9]; exact hP) (va_K.moved hW9.alike hK) hD⟩, hS.F ht9⟩) hS.2.2 qd_R_writeStep_71
    · skip
      exfalso
      omega
  · skip
    have hnone := hr2.elim (fun ⟨k, z1, _⟩ => absurd h8 (by omega)) (fun z => z.2)
    refine lv_iconst (v := zI (-1)) hx hb qd_R_writeStep_11 rfl ?_
    refine lv_goto (tgt := 21) hx hb qd_R_writeStep_12 (by decide) ?_
    refine lv_istore (lv' := [(4, .int (zI ((-1)))), (3, .int (zI (r2))), (0, .ref orr), (1, .ref a), (2, .ref od)]) hx hb qd_R_writeStep_21 hl (by decide) rfl (fun ls hl => ?_)
    refine lv_iload hx hb qd_R_writeStep_23 (lv_at hl 0 rfl) ?_
    refine lv_iconst (v := zI (-1)) hx hb qd_R_writeStep_25 rfl ?_
    refine zz_icmp_ne (tgt := 31) hx hb qd_R_writeStep_26 (by decide) (by omega) (by omega) (fun h26 => ?_) (fun h26 => ?_)
    · skip
      exfalso
      omega
    · skip
      refine lv_iconst (v := zI 0) hx hb qd_R_writeStep_29 rfl ?_
      exact W.zret (v := zI (bI false)) (ty := .boolean) hx hb hr (bI_n _) (fun t9 ht9 hW9 => ⟨⟨false, (b1, hd, pcs, dz, dt), rfl, (Or.inr ⟨rfl, hnone⟩), mwB_i (by rw [ht9]; exact hP) (va_K.moved hW9.alike hK) hD⟩, hS.F ht9⟩) hS.2.2 qd_R_writeStep_30
set_option maxHeartbeats 4000000 in
set_option maxRecDepth 100000 in
theorem c_R_add (l : Launch) (dC : Nat → ClassId) (dI : Nat → Nat → Nat) (cI cZ cT cJ : ClassId) (orr rL rR rB rc : Nat) (lf rf : Nat → Option Nat) (bd : Nat → Int) (a aH aP aE n : Nat) (th tm : Nat → Int) (te : Nat → Nat) (tg : Int) (a2 aH2 aP2 aE2 n2 : Nat) (th2 tm2 : Nat → Int) (te2 : Nat → Nat) (tg2 : Int) (zh : Nat) (hrc : rc < 8) : Met l qy_R_add qw_R_add ({ frames := 0, cells := 0, slots := 0, locals := 0 }) (mwP (dC, dI) qcl (qty cI cZ cT cJ) nwL [(orr, .inr (4, [.ref rL, .ref rR, .ref rB, .int (zI (↑rc))])), (rL, .inl (cT, 8, .inr (.inr (.inr (.inr lf))))), (rR, .inl (cT, 8, .inr (.inr (.inr (.inr rf)))))] [(a, .inr (1, [.ref aH, .ref aP, .ref aE, .int (zI (↑n)), .int (zI (tg))])), (a2, .inr (1, [.ref aH2, .ref aP2, .ref aE2, .int (zI (↑n2)), .int (zI (tg2))]))] zh [.ref orr, .ref a, .ref a2]) (mwI (S := Unit) (fun r uq => r = ↑rc) (fun uq tq => mwB (dC, dI) qcl (qty cI cZ cT cJ) (va_A [(orr, .inr (4, [.ref rL, .ref rR, .ref rB, .int (zI (↑rc))])), (rL, .inl (cT, 8, .inr (.inr (.inr (.inr lf))))), (rR, .inl (cT, 8, .inr (.inr (.inr (.inr rf)))))] zh) [(orr, .inr (4, [.ref rL, .ref rR, .ref rB, .int (zI (↑(rc + 1)))])), (rL, .inl (cT, 8, .inr (.inr (.inr (.inr (va_up lf rc (some a))))))), (rR, .inl (cT, 8, .inr (.inr (.inr (.inr (va_up rf rc (some a2)))))))] tq) (va_A [(orr, .inr (4, [.ref rL, .ref rR, .ref rB, .int (zI (↑rc))])), (rL, .inl (cT, 8, .inr (.inr (.inr (.inr lf))))), (rR, .inl (cT, 8, .inr (.inr (.inr (.inr rf)))))] zh)) 0 0 (va_A [(orr, .inr (4, [.ref rL, .ref rR, .ref rB, .int (zI (↑rc))])), (rL, .inl (cT, 8, .inr (.inr (.inr (.inr lf))))), (rR, .inl (cT, 8, .inr (.inr (.inr (.inr rf)))))] zh) := by
  refine Met.ofW (cc := qc_R_add) (maxL := 3) (ret := (Option.some Jvm.ClassFile.FieldType.int)) (by decide) rfl ?_
  intro pg eg sg mg args below meth cg s₁ B hml hv
  obtain ⟨rfl, hsz, hP, hF0, hK, hN, hD0, hap⟩ := hv
  have hx := B.exec
  have hb := B.bytes
  have hr := B.returns
  have hts := atoms_spec (ws := qw_R_add) B.pre
  have hg : ∀ w ∈ gw, w.before _ sg = true := fun w h => hts w (List.mem_cons_of_mem _ h)
  have hown : sg.vm.findClass "TermOrders$Rules" = some mg.cls := findClass_of_methodNamed B.named
  have hlocks := B.notSynchronized
  have hl := lv_entry ([.ref orr, .ref a, .ref a2]) (n := 3) (Nat.le_of_ble_eq_true rfl)
  rw [lg_entry_eq]
  generalize (lg_sl ([.ref orr, .ref a, .ref a2]) ++ List.replicate (3 - (lg_sl ([.ref orr, .ref a, .ref a2])).length) Slot.unset).toArray = ls at hl ⊢
  subst hsz
  have hD := hD0.self (sz := sg.heap.size)
  have hFA := apw_A hap (fun k q hk => (hF0 k q hk).lt)
  generalize hAe : va_A [(orr, .inr (4, [.ref rL, .ref rR, .ref rB, .int (zI (↑rc))])), (rL, .inl (cT, 8, .inr (.inr (.inr (.inr lf))))), (rR, .inl (cT, 8, .inr (.inr (.inr (.inr rf)))))] sg.heap.size = A at hD hFA ⊢
  have hA : ∀ q : Nat, sg.heap.size ≤ q → A q := fun q h => by rw [← hAe]; exact Or.inr h
  have hS : va_S A sg.heap sg.heap [] := va_S.rf
  have hF := hF0
  have hl : lv_has ls 3 [(0, .ref orr), (1, .ref a), (2, .ref a2)] := hl
  refine lv_aload_n hx hb qd_R_add_0 rfl (lv_at hl 0 rfl) ?_
  refine va_get (D := (dC, dI)) (ci := 4) (v := .ref rL) (C := "TermOrders$Rules") (T := qT_R) (N := 4) hx hb hg qi_R hown hK hP 0 rfl rfl 0 (by decide) (hg _ wd_90) (fun _ h9 => h9) rfl qd_R_add_1 ?_
  refine lv_aload_n hx hb qd_R_add_4 rfl (lv_at hl 0 rfl) ?_
  refine va_get (D := (dC, dI)) (ci := 4) (v := .int (zI (↑rc))) (C := "TermOrders$Rules") (T := qT_R) (N := 4) hx hb hg qi_R hown hK hP 0 rfl rfl 3 (by decide) (hg _ wd_95) (fun _ h9 => h9) rfl qd_R_add_5 ?_
  refine lv_aload_n hx hb qd_R_add_8 rfl (lv_at hl 1 rfl) ?_
  refine zz_aast hx hb hK hP hD hS 1 2 rfl rfl (any_of (ci := 1) (q0 := 0) hK hF rfl rfl) rc rfl (by omega) (by omega) qd_R_add_9 (fun H9_1 L9_1 hP hD hS => ?_)
  have hP : va_P (dC, dI) qcl [(orr, .inr (4, [.ref rL, .ref rR, .ref rB, .int (zI (↑rc))])), (rL, .inl (cT, 8, .inr (.inr (.inr (.inr (va_up lf rc (some a))))))), (rR, .inl (cT, 8, .inr (.inr (.inr (.inr rf)))))] H9_1 := hP
  have hD : va_D A [(orr, .inr (4, [.ref rL, .ref rR, .ref rB, .int (zI (↑rc))])), (rL, .inl (cT, 8, .inr (.inr (.inr (.inr (va_up lf rc (some a))))))), (rR, .inl (cT, 8, .inr (.inr (.inr (.inr rf)))))] := hD
  have hF := fz_keep hF0 hFA hS
  refine lv_aload_n hx hb qd_R_add_10 rfl (lv_at hl 0 rfl) ?_
  refine va_get (D := (dC, dI)) (ci := 4) (v := .ref rR) (C := "TermOrders$Rules") (T := qT_R) (N := 4) hx hb hg qi_R hown hK hP 0 rfl rfl 1 (by decide) (hg _ wd_92) (fun _ h9 => h9) rfl qd_R_add_11 ?_
  refine lv_aload_n hx hb qd_R_add_14 rfl (lv_at hl 0 rfl) ?_
  refine va_get (D := (dC, dI)) (ci := 4) (v := .int (zI (↑rc))) (C := "TermOrders$Rules") (T := qT_R) (N := 4) hx hb hg qi_R hown hK hP 0 rfl rfl 3 (by decide) (hg _ wd_95) (fun _ h9 => h9) rfl qd_R_add_15 ?_
  refine lv_aload_n hx hb qd_R_add_18 rfl (lv_at hl 2 rfl) ?_
  refine zz_aast hx hb hK hP hD hS 2 2 rfl rfl (any_of (ci := 1) (q0 := 1) hK hF rfl rfl) rc rfl (by omega) (by omega) qd_R_add_19 (fun H19_2 L19_2 hP hD hS => ?_)
  have hP : va_P (dC, dI) qcl [(orr, .inr (4, [.ref rL, .ref rR, .ref rB, .int (zI (↑rc))])), (rL, .inl (cT, 8, .inr (.inr (.inr (.inr (va_up lf rc (some a))))))), (rR, .inl (cT, 8, .inr (.inr (.inr (.inr (va_up rf rc (some a2)))))))] H19_2 := hP
  have hD : va_D A [(orr, .inr (4, [.ref rL, .ref rR, .ref rB, .int (zI (↑rc))])), (rL, .inl (cT, 8, .inr (.inr (.inr (.inr (va_up lf rc (some a))))))), (rR, .inl (cT, 8, .inr (.inr (.inr (.inr (va_up rf rc (some a2)))))))] := hD
  have hF := fz_keep hF0 hFA hS
  refine lv_aload_n hx hb qd_R_add_20 rfl (lv_at hl 0 rfl) ?_
  refine lv_dup hx hb qd_R_add_21 rfl ?_
  refine va_get (D := (dC, dI)) (ci := 4) (v := .int (zI (↑rc))) (C := "TermOrders$Rules") (T := qT_R) (N := 4) hx hb hg qi_R hown hK hP 0 rfl rfl 3 (by decide) (hg _ wd_95) (fun _ h9 => h9) rfl qd_R_add_22 ?_
  refine lv_iconst (v := zI 1) hx hb qd_R_add_25 rfl ?_
  refine zz_iadd hx hb (↑(rc + 1)) (by omega) qd_R_add_26 ?_
  refine va_put (D := (dC, dI)) (ci := 4) (v := .int (zI (↑(rc + 1)))) (ty := .int) (C := "TermOrders$Rules") (T := qT_R) (N := 4) hx hb hg qi_R qt_R qo_R qn_R hown hK hP hD hS 0 rfl rfl 3 (by decide) (hg _ wd_95) (fun _ h9 => h9) rfl (by decide +kernel) rfl rfl (Nat.le_of_ble_eq_true rfl) qd_R_add_27 (fun H27_3 L27_3 hP hD hS => ?_)
  have hP : va_P (dC, dI) qcl [(orr, .inr (4, [.ref rL, .ref rR, .ref rB, .int (zI (↑(rc + 1)))])), (rL, .inl (cT, 8, .inr (.inr (.inr (.inr (va_up lf rc (some a))))))), (rR, .inl (cT, 8, .inr (.inr (.inr (.inr (va_up rf rc (some a2)))))))] H27_3 := hP
  have hD : va_D A [(orr, .inr (4, [.ref rL, .ref rR, .ref rB, .int (zI (↑(rc + 1)))])), (rL, .inl (cT, 8, .inr (.inr (.inr (.inr (va_up lf rc (some a))))))), (rR, .inl (cT, 8, .inr (.inr (.inr (.inr (va_up rf rc (some a2)))))))] := hD
  have hF := fz_keep hF0 hFA hS
  refine lv_aload_n hx hb qd_R_add_30 rfl (lv_at hl 0 rfl) ?_
  refine va_get (D := (dC, dI)) (ci := 4) (v := .int (zI (↑(rc + 1)))) (C := "TermOrders$Rules") (T := qT_R) (N := 4) hx hb hg qi_R hown hK hP 0 rfl rfl 3 (by decide) (hg _ wd_95) (fun _ h9 => h9) rfl qd_R_add_31 ?_
  refine lv_iconst (v := zI 1) hx hb qd_R_add_34 rfl ?_
  refine zz_isub hx hb (↑rc) (by omega) qd_R_add_35 ?_
  exact W.iret (v := zI (↑rc)) hx hb hr (fun t9 ht9 hW9 => ⟨⟨↑rc, (), rfl, rfl, mwB_i (by rw [ht9]; exact hP) (va_K.moved hW9.alike hK) hD⟩, hS.F ht9⟩) hS.2.2 qd_R_add_36
