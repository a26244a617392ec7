section ZZSw
variable {p : Program} {l : Launch} {e : Env} {R : Room} {s : State} {m : MethodId} {args : Array Value} {below : List Frame} {meth : Method} {c : Code} {H : Heap} {locs : List Loc} {cells slots : Nat} {Q : State → Prop} {cc : ByteArray} {pc : Nat} {ls : Array Slot} {rest st0 : List Value} {A0 A1 : Nat → Prop} {mc ms : Nat} {free : Addr → Prop} {a : Array Value} {H0 : Heap}
theorem zz_tabOut (hx : p.tables.exec = Jvm.exec) (hb : c.code = cc) {dflt lo hi : Int} {offs : Array Int} {len : Nat} {x : Int} {tgt : Nat} (hd : decode cc pc = .ok (.tableswitch dflt lo hi offs, len)) (hv : -2147483648 ≤ x ∧ x < 2147483648) (h : x < lo ∨ hi < x) (ht : (pc : Int) + dflt = (tgt : Int)) (k : W p l e R s m args below meth c H locs cells slots Q (F0 m tgt ls rest)) : W p l e R s m args below meth c H locs cells slots Q (F0 m pc ls (.int (zI x) :: rest)) :=
  lv_tableOut hx hb hd (by rw [zI_toInt hv]; exact h) ht k
theorem zz_tabIn (hx : p.tables.exec = Jvm.exec) (hb : c.code = cc) {dflt lo hi : Int} {offs : Array Int} {len : Nat} {x v off : Int} {tgt : Nat} (hd : decode cc pc = .ok (.tableswitch dflt lo hi offs, len)) (e9 : x = v) (hv : -2147483648 ≤ v ∧ v < 2147483648) (h1 : lo ≤ v) (h2 : v ≤ hi) (ho : offs[(v - lo).toNat]? = some off) (ht : (pc : Int) + off = (tgt : Int)) (k : W p l e R s m args below meth c H locs cells slots Q (F0 m tgt ls rest)) : W p l e R s m args below meth c H locs cells slots Q (F0 m pc ls (.int (zI x) :: rest)) := by
  subst e9
  exact lv_tableIn hx hb hd (by rw [zI_toInt hv]; omega) (by rw [zI_toInt hv]; omega) (by rw [zI_toInt hv]; exact ho) ht k
theorem mw_callE {S : Type} {post : Nat → S → Prop} {B : S → State → Prop} (hr : va_Run p l e R s m args below meth c H locs cells slots mc ms (F0 m pc ls st0) rest (mwR post B A1 a) free) (hS : va_S A0 H0 H locs) (hA : ∀ q, q < H.size → A1 q → A0 q) (hf : ∀ q, free q → A0 q) (kk : ∀ (r : Nat) (u : S) (t : State) (H1 : Heap) (locs1 : List Loc), t.heap = H1 → s.vm.Alike t.vm → post r u → B u t → H.size ≤ H1.size → (∀ q : Nat, q < H.size → ¬ A1 q → H1[q]? = H[q]?) → va_S A0 H0 H1 locs1 → W p l e R s m args below meth c H1 locs1 (cells + mc) (slots + ms) Q (F0 m (pc + 3) ls (.ref r :: rest))) : W p l e R s m args below meth c H locs cells slots Q (F0 m pc ls st0) := by
  intro T hT X
  obtain ⟨v, st₀, t, T', L, h0, X', hL, e1, e2, ⟨⟨r, u, hv, hp, hb⟩, hF⟩, st⟩ := hr T hT X
  cases hv
  obtain ⟨k1, k2, k3⟩ := vx_keep h0 e1 hS hA hf hL hF
  obtain ⟨t2, a1, b1⟩ := kk r u t T'.heap (locs ++ L) e1.symm (by rw [← e2]; exact X'.warmed.alike) hp hb k1 k2 k3 T' rfl X'
  exact ⟨t2, st t2 a1, b1⟩
end ZZSw
theorem adm_eq {sy : Nat} {ar rk wt : Nat → Int} (hsy : sy ≤ 5) (har : ∀ q, q < 5 → 0 ≤ ar q ∧ ar q ≤ 3) : (∀ x, x < sy → wt x = 0 → ar x ≠ 0 ∧ (1 < ar x ∨ ∀ t, t < sy → t ≠ x → rk t < rk x)) ↔ (∀ x, x < sy → ¬ (ar x = 0 ∧ wt x = 0) ∧ ∀ t, t < sy → ¬ (ar x = 1 ∧ wt x = 0 ∧ t ≠ x ∧ rk x ≤ rk t)) := by
  constructor
  · intro h x hx
    refine ⟨fun z => (h x hx z.2).1 z.1, fun t ht z => ?_⟩
    rcases (h x hx z.2.1).2 with y | y
    · have := z.1; omega
    · have := y t ht z.2.2.1
      have := z.2.2.2
      omega
  · intro h x hx hw
    have h0 : ar x ≠ 0 := fun z => (h x hx).1 ⟨z, hw⟩
    refine ⟨h0, ?_⟩
    by_cases h1 : 1 < ar x
    · exact Or.inl h1
    · refine Or.inr (fun t ht hne => ?_)
      have ha := har x (by omega)
      by_cases h2 : rk t < rk x
      · exact h2
      · exact absurd ⟨by omega, hw, hne, by omega⟩ ((h x hx).2 t ht)
set_option maxHeartbeats 4000000 in
set_option maxRecDepth 100000 in
theorem c_X_checkSymbol_ok (l : Launch) (dC : Nat → ClassId) (dI : Nat → Nat → Nat) (cI cZ cT cJ : ClassId) (ox : Nat) (o aA aR aW aV sy : Nat) (ar rk wt sv : Nat → Int) (od dH dP dE dT dz : Nat) (dt : Bool) (hd pcs : Nat → Int) (de : Nat → Nat) (dh : Nat → Int) (orr rL rR rB rc : Nat) (lf rf : Nat → Option Nat) (bd : Nat → Int) (og oG : Nat) (gr : Nat → Bool) (ta tH tP tE tn : Nat → Nat) (TH TM : Nat → Nat → Int) (TE : Nat → Nat → Nat) (TG : Nat → Int) (HT : Nat → Nat → Int) (LI RI : Nat → Nat) (pl : va_W) (tc : Nat) (xT : Nat) (tf : Nat → Option Nat) (x : Int) (zh : Nat) (hsy : sy ≤ 5) (h32x : -2147483648 ≤ x ∧ x < 2147483648) (hc8 : 0 ≤ x ∧ x < sy) : Met l qy_X_checkSymbol qw_X_checkSymbol ({ frames := 0, cells := 0, slots := 0, locals := 0 }) (mwP (dC, dI) qcl (qty cI cZ cT cJ) nwL [] [(ox, .inr (5, [.ref o, .ref od, .ref xT, .ref orr, .ref og, .int (zI (↑tc))])), (o, .inr (0, [.ref aA, .ref aR, .ref aW, .ref aV, .int (zI (↑sy))]))] zh [.ref ox, .int (zI (x))]) (va_Qv (S := Unit) (fun uq => True) (fun uq tq => mwB (dC, dI) qcl (qty cI cZ cT cJ) (va_A [] zh) [] tq) (va_A [] zh)) 0 0 (va_A [] zh) := by
  refine Met.ofW (cc := qc_X_checkSymbol) (maxL := 2) (ret := (Option.none : Option Jvm.ClassFile.FieldType)) (by decide) rfl ?_
  intro pg eg sg mg args below meth cg s₁ B hml hv
  obtain ⟨rfl, hsz, hP, hF0, hK, hN, hD0, hap⟩ := hv
  have hx := B.exec
  have hb := B.bytes
  have hr := B.returns
  have hts := atoms_spec (ws := qw_X_checkSymbol) B.pre
  have hg : ∀ w ∈ gw, w.before _ sg = true := fun w h => hts w (List.mem_cons_of_mem _ h)
  have hown : sg.vm.findClass "TermOrders" = some mg.cls := findClass_of_methodNamed B.named
  have hlocks := B.notSynchronized
  have hl := lv_entry ([.ref ox, .int (zI (x))]) (n := 2) (Nat.le_of_ble_eq_true rfl)
  rw [lg_entry_eq]
  generalize (lg_sl ([.ref ox, .int (zI (x))]) ++ List.replicate (2 - (lg_sl ([.ref ox, .int (zI (x))])).length) Slot.unset).toArray = ls at hl ⊢
  subst hsz
  have hD := hD0.self (sz := sg.heap.size)
  have hFA := apw_A hap (fun k q hk => (hF0 k q hk).lt)
  generalize hAe : va_A [] sg.heap.size = A at hD hFA ⊢
  have hA : ∀ q : Nat, sg.heap.size ≤ q → A q := fun q h => by rw [← hAe]; exact Or.inr h
  have hS : va_S A sg.heap sg.heap [] := va_S.rf
  have hF := hF0
  have hl : lv_has ls 2 [(0, .ref ox), (1, .int (zI (x)))] := hl
  refine lv_iload_n hx hb qd_X_checkSymbol_0 rfl (lv_at hl 1 rfl) ?_
  refine zz_if_lt (tgt := 15) hx hb qd_X_checkSymbol_1 (by decide) (by omega) (fun h1 => ?_) (fun h1 => ?_)
  · skip
    exfalso
    omega
  · skip
    refine lv_iload_n hx hb qd_X_checkSymbol_4 rfl (lv_at hl 1 rfl) ?_
    refine lv_aload_n hx hb qd_X_checkSymbol_5 rfl (lv_at hl 0 rfl) ?_
    refine va_get (D := (dC, dI)) (ci := 5) (v := .ref o) (C := "TermOrders") (T := qT_X) (N := 6) hx hb hg qi_X hown hK hF 0 rfl rfl 0 (by decide) (hg _ wd_120) (fun _ h9 => h9) rfl qd_X_checkSymbol_6 ?_
    refine va_getN (D := (dC, dI)) (ci := 0) (v := .int (zI (↑sy))) (C := "TermOrders$Symbols") (T := qT_S) (N := 5) hx hb hg qi_S hown hK hF 1 rfl rfl 4 (by decide) (va_Nw.use rfl (hN.use nw_40)) (fun _ h9 => h9) rfl qd_X_checkSymbol_9 ?_
    refine zz_icmp_lt (tgt := 25) hx hb qd_X_checkSymbol_12 (by decide) (by omega) (by omega) (fun h12 => ?_) (fun h12 => ?_)
    · skip
      exact W.vret hx hb hr (fun t9 ht9 hW9 => ⟨⟨(), rfl, trivial, mwB_i (by rw [ht9]; exact hP) (va_K.moved hW9.alike hK) hD⟩, hS.F ht9⟩) hS.2.2 qd_X_checkSymbol_25
    · skip
      exfalso
      omega
set_option maxHeartbeats 4000000 in
set_option maxRecDepth 100000 in
theorem c_X_checkSymbol_no (l : Launch) (dC : Nat → ClassId) (dI : Nat → Nat → Nat) (cI cZ cT cJ : ClassId) (ox : Nat) (o aA aR aW aV sy : Nat) (ar rk wt sv : Nat → Int) (od dH dP dE dT dz : Nat) (dt : Bool) (hd pcs : Nat → Int) (de : Nat → Nat) (dh : Nat → Int) (orr rL rR rB rc : Nat) (lf rf : Nat → Option Nat) (bd : Nat → Int) (og oG : Nat) (gr : Nat → Bool) (ta tH tP tE tn : Nat → Nat) (TH TM : Nat → Nat → Int) (TE : Nat → Nat → Nat) (TG : Nat → Int) (HT : Nat → Nat → Int) (LI RI : Nat → Nat) (pl : va_W) (tc : Nat) (xT : Nat) (tf : Nat → Option Nat) (x : Int) (zh : Nat) (hst : l.stackTraces = false) (hsy : sy ≤ 5) (h32x : -2147483648 ≤ x ∧ x < 2147483648) (hc8 : ¬ (0 ≤ x ∧ x < sy)) : vx_Met l qy_X_checkSymbol qw_X_checkSymbol ({ frames := 6, cells := 1, slots := 6, locals := 100 }) (mxP (dC, dI) qcl (qty cI cZ cT cJ) nwL [] [(ox, .inr (5, [.ref o, .ref od, .ref xT, .ref orr, .ref og, .int (zI (↑tc))])), (o, .inr (0, [.ref aA, .ref aR, .ref aW, .ref aV, .int (zI (↑sy))]))] zh [.ref ox, .int (zI (x))]) (va_Qv (S := Unit) (fun uq => False) (fun uq tq => mwB (dC, dI) qcl (qty cI cZ cT cJ) (va_A [] zh) [] tq) (va_A [] zh)) (vx_X (S := Unit) (fun _ => True) (fun E uq tq => (E = "java/lang/IllegalArgumentException") ∧ mwB (dC, dI) qcl (qty cI cZ cT cJ) (va_A [] zh) [] tq) (va_A [] zh)) 1 6 (va_A [] zh) := by
  refine vx_ofW (cc := qc_X_checkSymbol) (maxL := 2) (ret := (Option.none : Option Jvm.ClassFile.FieldType)) (by decide) rfl ?_
  intro pg eg sg mg args below meth cg s₁ B hml htab hv
  obtain ⟨rfl, ⟨hsz, hP, hF0, hK, hN, hD0, hap⟩, hE⟩ := hv
  have hx := B.exec
  have hb := B.bytes
  have hr := B.returns
  have hts := atoms_spec (ws := qw_X_checkSymbol) B.pre
  have hg : ∀ w ∈ gw, w.before _ sg = true := fun w h => hts w (List.mem_cons_of_mem _ h)
  have hown : sg.vm.findClass "TermOrders" = some mg.cls := findClass_of_methodNamed B.named
  have hlocks := B.notSynchronized
  have hl := lv_entry ([.ref ox, .int (zI (x))]) (n := 2) (Nat.le_of_ble_eq_true rfl)
  rw [lg_entry_eq]
  generalize (lg_sl ([.ref ox, .int (zI (x))]) ++ List.replicate (2 - (lg_sl ([.ref ox, .int (zI (x))])).length) Slot.unset).toArray = ls at hl ⊢
  subst hsz
  have hD := hD0.self (sz := sg.heap.size)
  have hFA := apw_A hap (fun k q hk => (hF0 k q hk).lt)
  generalize hAe : va_A [] sg.heap.size = A at hD hFA hE ⊢
  have hA : ∀ q : Nat, sg.heap.size ≤ q → A q := fun q h => by rw [← hAe]; exact Or.inr h
  have hS : va_S A sg.heap sg.heap [] := va_S.rf
  have hF := hF0
  have hl : lv_has ls 2 [(0, .ref ox), (1, .int (zI (x)))] := hl
  refine lv_iload_n hx hb qd_X_checkSymbol_0 rfl (lv_at hl 1 rfl) ?_
  refine zz_if_lt (tgt := 15) hx hb qd_X_checkSymbol_1 (by decide) (by omega) (fun h1 => ?_) (fun h1 => ?_)
  · skip
    exact zx_throw_a hx hb hst hown hg hE sx_185 hS (hl.1.trans hml.symm) qd_X_checkSymbol_15 qd_X_checkSymbol_18 qd_X_checkSymbol_19 qd_X_checkSymbol_21 qd_X_checkSymbol_24 htab (Nat.le_of_ble_eq_true rfl) (Nat.le_of_ble_eq_true rfl) (Nat.le_of_ble_eq_true rfl) (Nat.le_of_ble_eq_true rfl) hlocks (fun t9 g1 g2 g3 => (fun w9 => ⟨(), trivial, ⟨rfl, w9.1⟩, w9.2⟩) (zx_x hP hK hD hS g1 g2 g3)) hS.2.2 (by omega) (by omega)
  · skip
    refine lv_iload_n hx hb qd_X_checkSymbol_4 rfl (lv_at hl 1 rfl) ?_
    refine lv_aload_n hx hb qd_X_checkSymbol_5 rfl (lv_at hl 0 rfl) ?_
    refine va_get (D := (dC, dI)) (ci := 5) (v := .ref o) (C := "TermOrders") (T := qT_X) (N := 6) hx hb hg qi_X hown hK hF 0 rfl rfl 0 (by decide) (hg _ wd_120) (fun _ h9 => h9) rfl qd_X_checkSymbol_6 ?_
    refine va_getN (D := (dC, dI)) (ci := 0) (v := .int (zI (↑sy))) (C := "TermOrders$Symbols") (T := qT_S) (N := 5) hx hb hg qi_S hown hK hF 1 rfl rfl 4 (by decide) (va_Nw.use rfl (hN.use nw_40)) (fun _ h9 => h9) rfl qd_X_checkSymbol_9 ?_
    refine zz_icmp_lt (tgt := 25) hx hb qd_X_checkSymbol_12 (by decide) (by omega) (by omega) (fun h12 => ?_) (fun h12 => ?_)
    · skip
      exfalso
      omega
    · skip
      exact zx_throw_a hx hb hst hown hg hE sx_185 hS (hl.1.trans hml.symm) qd_X_checkSymbol_15 qd_X_checkSymbol_18 qd_X_checkSymbol_19 qd_X_checkSymbol_21 qd_X_checkSymbol_24 htab (Nat.le_of_ble_eq_true rfl) (Nat.le_of_ble_eq_true rfl) (Nat.le_of_ble_eq_true rfl) (Nat.le_of_ble_eq_true rfl) hlocks (fun t9 g1 g2 g3 => (fun w9 => ⟨(), trivial, ⟨rfl, w9.1⟩, w9.2⟩) (zx_x hP hK hD hS g1 g2 g3)) hS.2.2 (by omega) (by omega)
set_option maxHeartbeats 4000000 in
set_option maxRecDepth 100000 in
theorem c_X_checkOrder_ok (l : Launch) (dC : Nat → ClassId) (dI : Nat → Nat → Nat) (cI cZ cT cJ : ClassId) (ox : Nat) (o aA aR aW aV sy : Nat) (ar rk wt sv : Nat → Int) (od dH dP dE dT dz : Nat) (dt : Bool) (hd pcs : Nat → Int) (de : Nat → Nat) (dh : Nat → Int) (orr rL rR rB rc : Nat) (lf rf : Nat → Option Nat) (bd : Nat → Int) (og oG : Nat) (gr : Nat → Bool) (ta tH tP tE tn : Nat → Nat) (TH TM : Nat → Nat → Int) (TE : Nat → Nat → Nat) (TG : Nat → Int) (HT : Nat → Nat → Int) (LI RI : Nat → Nat) (pl : va_W) (tc : Nat) (xT : Nat) (tf : Nat → Option Nat) (x : Int) (zh : Nat) (h32x : -2147483648 ≤ x ∧ x < 2147483648) (hc8 : 0 ≤ x ∧ x ≤ 1) : Met l qy_X_checkOrder qw_X_checkOrder ({ frames := 0, cells := 0, slots := 0, locals := 0 }) (mwP (dC, dI) qcl (qty cI cZ cT cJ) nwL [] [(ox, .inr (5, [.ref o, .ref od, .ref xT, .ref orr, .ref og, .int (zI (↑tc))]))] zh [.ref ox, .int (zI (x))]) (va_Qv (S := Unit) (fun uq => True) (fun uq tq => mwB (dC, dI) qcl (qty cI cZ cT cJ) (va_A [] zh) [] tq) (va_A [] zh)) 0 0 (va_A [] zh) := by
  refine Met.ofW (cc := qc_X_checkOrder) (maxL := 2) (ret := (Option.none : Option Jvm.ClassFile.FieldType)) (by decide) rfl ?_
  intro pg eg sg mg args below meth cg s₁ B hml hv
  obtain ⟨rfl, hsz, hP, hF0, hK, hN, hD0, hap⟩ := hv
  have hx := B.exec
  have hb := B.bytes
  have hr := B.returns
  have hts := atoms_spec (ws := qw_X_checkOrder) B.pre
  have hg : ∀ w ∈ gw, w.before _ sg = true := fun w h => hts w (List.mem_cons_of_mem _ h)
  have hown : sg.vm.findClass "TermOrders" = some mg.cls := findClass_of_methodNamed B.named
  have hlocks := B.notSynchronized
  have hl := lv_entry ([.ref ox, .int (zI (x))]) (n := 2) (Nat.le_of_ble_eq_true rfl)
  rw [lg_entry_eq]
  generalize (lg_sl ([.ref ox, .int (zI (x))]) ++ List.replicate (2 - (lg_sl ([.ref ox, .int (zI (x))])).length) Slot.unset).toArray = ls at hl ⊢
  subst hsz
  have hD := hD0.self (sz := sg.heap.size)
  have hFA := apw_A hap (fun k q hk => (hF0 k q hk).lt)
  generalize hAe : va_A [] sg.heap.size = A at hD hFA ⊢
  have hA : ∀ q : Nat, sg.heap.size ≤ q → A q := fun q h => by rw [← hAe]; exact Or.inr h
  have hS : va_S A sg.heap sg.heap [] := va_S.rf
  have hF := hF0
  have hl : lv_has ls 2 [(0, .ref ox), (1, .int (zI (x)))] := hl
  refine lv_iload_n hx hb qd_X_checkOrder_0 rfl (lv_at hl 1 rfl) ?_
  refine zz_if_eq (tgt := 19) hx hb qd_X_checkOrder_1 (by decide) (by omega) (fun h1 => ?_) (fun h1 => ?_)
  · skip
    exact W.vret hx hb hr (fun t9 ht9 hW9 => ⟨⟨(), rfl, trivial, mwB_i (by rw [ht9]; exact hP) (va_K.moved hW9.alike hK) hD⟩, hS.F ht9⟩) hS.2.2 qd_X_checkOrder_19
  · skip
    refine lv_iload_n hx hb qd_X_checkOrder_4 rfl (lv_at hl 1 rfl) ?_
    refine lv_iconst (v := zI 1) hx hb qd_X_checkOrder_5 rfl ?_
    refine zz_icmp_eq (tgt := 19) hx hb qd_X_checkOrder_6 (by decide) (by omega) (by omega) (fun h6 => ?_) (fun h6 => ?_)
    · skip
      exact W.vret hx hb hr (fun t9 ht9 hW9 => ⟨⟨(), rfl, trivial, mwB_i (by rw [ht9]; exact hP) (va_K.moved hW9.alike hK) hD⟩, hS.F ht9⟩) hS.2.2 qd_X_checkOrder_19
    · skip
      exfalso
      omega
set_option maxHeartbeats 4000000 in
set_option maxRecDepth 100000 in
theorem c_X_checkOrder_no (l : Launch) (dC : Nat → ClassId) (dI : Nat → Nat → Nat) (cI cZ cT cJ : ClassId) (ox : Nat) (o aA aR aW aV sy : Nat) (ar rk wt sv : Nat → Int) (od dH dP dE dT dz : Nat) (dt : Bool) (hd pcs : Nat → Int) (de : Nat → Nat) (dh : Nat → Int) (orr rL rR rB rc : Nat) (lf rf : Nat → Option Nat) (bd : Nat → Int) (og oG : Nat) (gr : Nat → Bool) (ta tH tP tE tn : Nat → Nat) (TH TM : Nat → Nat → Int) (TE : Nat → Nat → Nat) (TG : Nat → Int) (HT : Nat → Nat → Int) (LI RI : Nat → Nat) (pl : va_W) (tc : Nat) (xT : Nat) (tf : Nat → Option Nat) (x : Int) (zh : Nat) (hst : l.stackTraces = false) (h32x : -2147483648 ≤ x ∧ x < 2147483648) (hc8 : ¬ (0 ≤ x ∧ x ≤ 1)) : vx_Met l qy_X_checkOrder qw_X_checkOrder ({ frames := 6, cells := 1, slots := 6, locals := 100 }) (mxP (dC, dI) qcl (qty cI cZ cT cJ) nwL [] [(ox, .inr (5, [.ref o, .ref od, .ref xT, .ref orr, .ref og, .int (zI (↑tc))]))] zh [.ref ox, .int (zI (x))]) (va_Qv (S := Unit) (fun uq => False) (fun uq tq => mwB (dC, dI) qcl (qty cI cZ cT cJ) (va_A [] zh) [] tq) (va_A [] zh)) (vx_X (S := Unit) (fun _ => True) (fun E uq tq => (E = "java/lang/IllegalArgumentException") ∧ mwB (dC, dI) qcl (qty cI cZ cT cJ) (va_A [] zh) [] tq) (va_A [] zh)) 1 6 (va_A [] zh) := by
  refine vx_ofW (cc := qc_X_checkOrder) (maxL := 2) (ret := (Option.none : Option Jvm.ClassFile.FieldType)) (by decide) rfl ?_
  intro pg eg sg mg args below meth cg s₁ B hml htab hv
  obtain ⟨rfl, ⟨hsz, hP, hF0, hK, hN, hD0, hap⟩, hE⟩ := hv
  have hx := B.exec
  have hb := B.bytes
  have hr := B.returns
  have hts := atoms_spec (ws := qw_X_checkOrder) B.pre
  have hg : ∀ w ∈ gw, w.before _ sg = true := fun w h => hts w (List.mem_cons_of_mem _ h)
  have hown : sg.vm.findClass "TermOrders" = some mg.cls := findClass_of_methodNamed B.named
  have hlocks := B.notSynchronized
  have hl := lv_entry ([.ref ox, .int (zI (x))]) (n := 2) (Nat.le_of_ble_eq_true rfl)
  rw [lg_entry_eq]
  generalize (lg_sl ([.ref ox, .int (zI (x))]) ++ List.replicate (2 - (lg_sl ([.ref ox, .int (zI (x))])).length) Slot.unset).toArray = ls at hl ⊢
  subst hsz
  have hD := hD0.self (sz := sg.heap.size)
  have hFA := apw_A hap (fun k q hk => (hF0 k q hk).lt)
  generalize hAe : va_A [] sg.heap.size = A at hD hFA hE ⊢
  have hA : ∀ q : Nat, sg.heap.size ≤ q → A q := fun q h => by rw [← hAe]; exact Or.inr h
  have hS : va_S A sg.heap sg.heap [] := va_S.rf
  have hF := hF0
  have hl : lv_has ls 2 [(0, .ref ox), (1, .int (zI (x)))] := hl
  refine lv_iload_n hx hb qd_X_checkOrder_0 rfl (lv_at hl 1 rfl) ?_
  refine zz_if_eq (tgt := 19) hx hb qd_X_checkOrder_1 (by decide) (by omega) (fun h1 => ?_) (fun h1 => ?_)
  · skip
    exfalso
    omega
  · skip
    refine lv_iload_n hx hb qd_X_checkOrder_4 rfl (lv_at hl 1 rfl) ?_
    refine lv_iconst (v := zI 1) hx hb qd_X_checkOrder_5 rfl ?_
    refine zz_icmp_eq (tgt := 19) hx hb qd_X_checkOrder_6 (by decide) (by omega) (by omega) (fun h6 => ?_) (fun h6 => ?_)
    · skip
      exfalso
      omega
    · skip
      exact zx_throw_a hx hb hst hown hg hE sx_187 hS (hl.1.trans hml.symm) qd_X_checkOrder_9 qd_X_checkOrder_12 qd_X_checkOrder_13 qd_X_checkOrder_15 qd_X_checkOrder_18 htab (Nat.le_of_ble_eq_true rfl) (Nat.le_of_ble_eq_true rfl) (Nat.le_of_ble_eq_true rfl) (Nat.le_of_ble_eq_true rfl) hlocks (fun t9 g1 g2 g3 => (fun w9 => ⟨(), trivial, ⟨rfl, w9.1⟩, w9.2⟩) (zx_x hP hK hD hS g1 g2 g3)) hS.2.2 (by omega) (by omega)
set_option maxHeartbeats 4000000 in
set_option maxRecDepth 100000 in
theorem c_X_termOf_ok (l : Launch) (dC : Nat → ClassId) (dI : Nat → Nat → Nat) (cI cZ cT cJ : ClassId) (ox : Nat) (o aA aR aW aV sy : Nat) (ar rk wt sv : Nat → Int) (od dH dP dE dT dz : Nat) (dt : Bool) (hd pcs : Nat → Int) (de : Nat → Nat) (dh : Nat → Int) (orr rL rR rB rc : Nat) (lf rf : Nat → Option Nat) (bd : Nat → Int) (og oG : Nat) (gr : Nat → Bool) (ta tH tP tE tn : Nat → Nat) (TH TM : Nat → Nat → Int) (TE : Nat → Nat → Nat) (TG : Nat → Int) (HT : Nat → Nat → Int) (LI RI : Nat → Nat) (pl : va_W) (tc : Nat) (xT : Nat) (tf : Nat → Option Nat) (x : Int) (zh : Nat) (htc : tc ≤ 160) (htf : ∀ t, t < tc → tf t = some (ta t)) (h32x : -2147483648 ≤ x ∧ x < 2147483648) (hc8 : 0 ≤ x ∧ x < tc) : Met l qy_X_termOf qw_X_termOf ({ frames := 0, cells := 0, slots := 0, locals := 0 }) (mwP (dC, dI) qcl (qty cI cZ cT cJ) nwL [] [(ox, .inr (5, [.ref o, .ref od, .ref xT, .ref orr, .ref og, .int (zI (↑tc))])), (xT, .inl (cT, 160, .inr (.inr (.inr (.inr tf)))))] zh [.ref ox, .int (zI (x))]) (mwR (S := Unit) (fun r uq => r = ta x.toNat) (fun uq tq => mwB (dC, dI) qcl (qty cI cZ cT cJ) (va_A [] zh) [] tq) (va_A [] zh)) 0 0 (va_A [] zh) := by
  refine Met.ofW (cc := qc_X_termOf) (maxL := 2) (ret := (Option.some (Jvm.ClassFile.FieldType.object "TermOrders$Term"))) (by decide) rfl ?_
  intro pg eg sg mg args below meth cg s₁ B hml hv
  obtain ⟨rfl, hsz, hP, hF0, hK, hN, hD0, hap⟩ := hv
  have hx := B.exec
  have hb := B.bytes
  have hr := B.returns
  have hts := atoms_spec (ws := qw_X_termOf) B.pre
  have hg : ∀ w ∈ gw, w.before _ sg = true := fun w h => hts w (List.mem_cons_of_mem _ h)
  have hown : sg.vm.findClass "TermOrders" = some mg.cls := findClass_of_methodNamed B.named
  have hlocks := B.notSynchronized
  have hl := lv_entry ([.ref ox, .int (zI (x))]) (n := 2) (Nat.le_of_ble_eq_true rfl)
  rw [lg_entry_eq]
  generalize (lg_sl ([.ref ox, .int (zI (x))]) ++ List.replicate (2 - (lg_sl ([.ref ox, .int (zI (x))])).length) Slot.unset).toArray = ls at hl ⊢
  subst hsz
  have hD := hD0.self (sz := sg.heap.size)
  have hFA := apw_A hap (fun k q hk => (hF0 k q hk).lt)
  generalize hAe : va_A [] sg.heap.size = A at hD hFA ⊢
  have hA : ∀ q : Nat, sg.heap.size ≤ q → A q := fun q h => by rw [← hAe]; exact Or.inr h
  have hS : va_S A sg.heap sg.heap [] := va_S.rf
  have hF := hF0
  have hl : lv_has ls 2 [(0, .ref ox), (1, .int (zI (x)))] := hl
  refine lv_iload_n hx hb qd_X_termOf_0 rfl (lv_at hl 1 rfl) ?_
  refine zz_if_lt (tgt := 12) hx hb qd_X_termOf_1 (by decide) (by omega) (fun h1 => ?_) (fun h1 => ?_)
  · skip
    exfalso
    omega
  · skip
    refine lv_iload_n hx hb qd_X_termOf_4 rfl (lv_at hl 1 rfl) ?_
    refine lv_aload_n hx hb qd_X_termOf_5 rfl (lv_at hl 0 rfl) ?_
    refine va_get (D := (dC, dI)) (ci := 5) (v := .int (zI (↑tc))) (C := "TermOrders") (T := qT_X) (N := 6) hx hb hg qi_X hown hK hF 0 rfl rfl 5 (by decide) (hg _ wd_125) (fun _ h9 => h9) rfl qd_X_termOf_6 ?_
    refine zz_icmp_lt (tgt := 22) hx hb qd_X_termOf_9 (by decide) (by omega) (by omega) (fun h9 => ?_) (fun h9 => ?_)
    · skip
      refine lv_aload_n hx hb qd_X_termOf_22 rfl (lv_at hl 0 rfl) ?_
      refine va_get (D := (dC, dI)) (ci := 5) (v := .ref xT) (C := "TermOrders") (T := qT_X) (N := 6) hx hb hg qi_X hown hK hF 0 rfl rfl 2 (by decide) (hg _ wd_122) (fun _ h9 => h9) rfl qd_X_termOf_23 ?_
      refine lv_iload_n hx hb qd_X_termOf_26 rfl (lv_at hl 1 rfl) ?_
      refine zz_aald hx hb hK hF 1 2 rfl rfl x.toNat (by omega) (by omega) (by omega) (r := (ta x.toNat)) (htf x.toNat (by omega)) qd_X_termOf_27 ?_
      exact W.aret (v := .ref (ta x.toNat)) hx hb hr (Or.inl ⟨_, rfl⟩) (Or.inr ⟨_, rfl⟩) (fun t9 ht9 hW9 => ⟨⟨ta x.toNat, (), rfl, rfl, mwB_i (by rw [ht9]; exact hP) (va_K.moved hW9.alike hK) hD⟩, hS.F ht9⟩) hS.2.2 qd_X_termOf_28
    · skip
      exfalso
      omega
set_option maxHeartbeats 4000000 in
set_option maxRecDepth 100000 in
theorem c_X_termOf_no (l : Launch) (dC : Nat → ClassId) (dI : Nat → Nat → Nat) (cI cZ cT cJ : ClassId) (ox : Nat) (o aA aR aW aV sy : Nat) (ar rk wt sv : Nat → Int) (od dH dP dE dT dz : Nat) (dt : Bool) (hd pcs : Nat → Int) (de : Nat → Nat) (dh : Nat → Int) (orr rL rR rB rc : Nat) (lf rf : Nat → Option Nat) (bd : Nat → Int) (og oG : Nat) (gr : Nat → Bool) (ta tH tP tE tn : Nat → Nat) (TH TM : Nat → Nat → Int) (TE : Nat → Nat → Nat) (TG : Nat → Int) (HT : Nat → Nat → Int) (LI RI : Nat → Nat) (pl : va_W) (tc : Nat) (xT : Nat) (tf : Nat → Option Nat) (x : Int) (zh : Nat) (hst : l.stackTraces = false) (htc : tc ≤ 160) (htf : ∀ t, t < tc → tf t = some (ta t)) (h32x : -2147483648 ≤ x ∧ x < 2147483648) (hc8 : ¬ (0 ≤ x ∧ x < tc)) : vx_Met l qy_X_termOf qw_X_termOf ({ frames := 6, cells := 1, slots := 6, locals := 100 }) (mxP (dC, dI) qcl (qty cI cZ cT cJ) nwL [] [(ox, .inr (5, [.ref o, .ref od, .ref xT, .ref orr, .ref og, .int (zI (↑tc))])), (xT, .inl (cT, 160, .inr (.inr (.inr (.inr tf)))))] zh [.ref ox, .int (zI (x))]) (mwR (S := Unit) (fun r uq => False) (fun uq tq => mwB (dC, dI) qcl (qty cI cZ cT cJ) (va_A [] zh) [] tq) (va_A [] zh)) (vx_X (S := Unit) (fun _ => True) (fun E uq tq => (E = "java/lang/IllegalArgumentException") ∧ mwB (dC, dI) qcl (qty cI cZ cT cJ) (va_A [] zh) [] tq) (va_A [] zh)) 1 6 (va_A [] zh) := by
  refine vx_ofW (cc := qc_X_termOf) (maxL := 2) (ret := (Option.some (Jvm.ClassFile.FieldType.object "TermOrders$Term"))) (by decide) rfl ?_
  intro pg eg sg mg args below meth cg s₁ B hml htab hv
  obtain ⟨rfl, ⟨hsz, hP, hF0, hK, hN, hD0, hap⟩, hE⟩ := hv
  have hx := B.exec
  have hb := B.bytes
  have hr := B.returns
  have hts := atoms_spec (ws := qw_X_termOf) B.pre
  have hg : ∀ w ∈ gw, w.before _ sg = true := fun w h => hts w (List.mem_cons_of_mem _ h)
  have hown : sg.vm.findClass "TermOrders" = some mg.cls := findClass_of_methodNamed B.named
  have hlocks := B.notSynchronized
  have hl := lv_entry ([.ref ox, .int (zI (x))]) (n := 2) (Nat.le_of_ble_eq_true rfl)
  rw [lg_entry_eq]
  generalize (lg_sl ([.ref ox, .int (zI (x))]) ++ List.replicate (2 - (lg_sl ([.ref ox, .int (zI (x))])).length) Slot.unset).toArray = ls at hl ⊢
  subst hsz
  have hD := hD0.self (sz := sg.heap.size)
  have hFA := apw_A hap (fun k q hk => (hF0 k q hk).lt)
  generalize hAe : va_A [] sg.heap.size = A at hD hFA hE ⊢
  have hA : ∀ q : Nat, sg.heap.size ≤ q → A q := fun q h => by rw [← hAe]; exact Or.inr h
  have hS : va_S A sg.heap sg.heap [] := va_S.rf
  have hF := hF0
  have hl : lv_has ls 2 [(0, .ref ox), (1, .int (zI (x)))] := hl
  refine lv_iload_n hx hb qd_X_termOf_0 rfl (lv_at hl 1 rfl) ?_
  refine zz_if_lt (tgt := 12) hx hb qd_X_termOf_1 (by decide) (by omega) (fun h1 => ?_) (fun h1 => ?_)
  · skip
    exact zx_throw_a hx hb hst hown hg hE sx_189 hS (hl.1.trans hml.symm) qd_X_termOf_12 qd_X_termOf_15 qd_X_termOf_16 qd_X_termOf_18 qd_X_termOf_21 htab (Nat.le_of_ble_eq_true rfl) (Nat.le_of_ble_eq_true rfl) (Nat.le_of_ble_eq_true rfl) (Nat.le_of_ble_eq_true rfl) hlocks (fun t9 g1 g2 g3 => (fun w9 => ⟨(), trivial, ⟨rfl, w9.1⟩, w9.2⟩) (zx_x hP hK hD hS g1 g2 g3)) hS.2.2 (by omega) (by omega)
  · skip
    refine lv_iload_n hx hb qd_X_termOf_4 rfl (lv_at hl 1 rfl) ?_
    refine lv_aload_n hx hb qd_X_termOf_5 rfl (lv_at hl 0 rfl) ?_
    refine va_get (D := (dC, dI)) (ci := 5) (v := .int (zI (↑tc))) (C := "TermOrders") (T := qT_X) (N := 6) hx hb hg qi_X hown hK hF 0 rfl rfl 5 (by decide) (hg _ wd_125) (fun _ h9 => h9) rfl qd_X_termOf_6 ?_
    refine zz_icmp_lt (tgt := 22) hx hb qd_X_termOf_9 (by decide) (by omega) (by omega) (fun h9 => ?_) (fun h9 => ?_)
    · skip
      exfalso
      omega
    · skip
      exact zx_throw_a hx hb hst hown hg hE sx_189 hS (hl.1.trans hml.symm) qd_X_termOf_12 qd_X_termOf_15 qd_X_termOf_16 qd_X_termOf_18 qd_X_termOf_21 htab (Nat.le_of_ble_eq_true rfl) (Nat.le_of_ble_eq_true rfl) (Nat.le_of_ble_eq_true rfl) (Nat.le_of_ble_eq_true rfl) hlocks (fun t9 g1 g2 g3 => (fun w9 => ⟨(), trivial, ⟨rfl, w9.1⟩, w9.2⟩) (zx_x hP hK hD hS g1 g2 g3)) hS.2.2 (by omega) (by omega)
set_option maxHeartbeats 4000000 in
set_option maxRecDepth 100000 in
theorem c_X_symbol (l : Launch) (dC : Nat → ClassId) (dI : Nat → Nat → Nat) (cI cZ cT cJ : ClassId) (ox : Nat) (o aA aR aW aV sy : Nat) (ar rk wt sv : Nat → Int) (od dH dP dE dT dz : Nat) (dt : Bool) (hd pcs : Nat → Int) (de : Nat → Nat) (dh : Nat → Int) (orr rL rR rB rc : Nat) (lf rf : Nat → Option Nat) (bd : Nat → Int) (og oG : Nat) (gr : Nat → Bool) (ta tH tP tE tn : Nat → Nat) (TH TM : Nat → Nat → Int) (TE : Nat → Nat → Nat) (TG : Nat → Int) (HT : Nat → Nat → Int) (LI RI : Nat → Nat) (pl : va_W) (tc : Nat) (xT : Nat) (tf : Nat → Option Nat) (x : Int) (zh : Nat) (hst : l.stackTraces = false) (hsy : sy ≤ 5) (h32x : -2147483648 ≤ x ∧ x < 2147483648) : vx_Met l qy_X_symbol qw_X_symbol ({ frames := 6, cells := 1, slots := 6, locals := 100 }) (mxP (dC, dI) qcl (qty cI cZ cT cJ) nwL [(o, .inr (0, [.ref aA, .ref aR, .ref aW, .ref aV, .int (zI (↑sy))])), (aA, .inl (cI, 5, .inl (zA ar))), (aR, .inl (cI, 5, .inl (zA rk))), (aW, .inl (cI, 5, .inl (zA wt)))] [(ox, .inr (5, [.ref o, .ref od, .ref xT, .ref orr, .ref og, .int (zI (↑tc))]))] zh [.ref ox, .int (zI (x))]) (mwI (S := Unit) (fun r uq => 0 ≤ x ∧ x ≤ 3 ∧ sy < 5 ∧ r = ↑sy) (fun uq tq => mwB (dC, dI) qcl (qty cI cZ cT cJ) (va_A [(o, .inr (0, [.ref aA, .ref aR, .ref aW, .ref aV, .int (zI (↑sy))])), (aA, .inl (cI, 5, .inl (zA ar))), (aR, .inl (cI, 5, .inl (zA rk))), (aW, .inl (cI, 5, .inl (zA wt)))] zh) [(o, .inr (0, [.ref aA, .ref aR, .ref aW, .ref aV, .int (zI (↑(sy + 1)))])), (aA, .inl (cI, 5, .inl (zA (uz ar sy x)))), (aR, .inl (cI, 5, .inl (zA (uz rk sy ↑sy)))), (aW, .inl (cI, 5, .inl (zA (uz wt sy 1))))] tq) (va_A [(o, .inr (0, [.ref aA, .ref aR, .ref aW, .ref aV, .int (zI (↑sy))])), (aA, .inl (cI, 5, .inl (zA ar))), (aR, .inl (cI, 5, .inl (zA rk))), (aW, .inl (cI, 5, .inl (zA wt)))] zh)) (vx_X (S := Unit) (fun _ => True) (fun E uq tq => ((E = "java/lang/IllegalArgumentException" ∧ (x < 0 ∨ 3 < x)) ∨ (E = "java/lang/IllegalStateException" ∧ 0 ≤ x ∧ x ≤ 3 ∧ sy = 5)) ∧ mwB (dC, dI) qcl (qty cI cZ cT cJ) (va_A [(o, .inr (0, [.ref aA, .ref aR, .ref aW, .ref aV, .int (zI (↑sy))])), (aA, .inl (cI, 5, .inl (zA ar))), (aR, .inl (cI, 5, .inl (zA rk))), (aW, .inl (cI, 5, .inl (zA wt)))] zh) [(o, .inr (0, [.ref aA, .ref aR, .ref aW, .ref aV, .int (zI (↑sy))])), (aA, .inl (cI, 5, .inl (zA ar))), (aR, .inl (cI, 5, .inl (zA rk))), (aW, .inl (cI, 5, .inl (zA wt)))] tq) (va_A [(o, .inr (0, [.ref aA, .ref aR, .ref aW, .ref aV, .int (zI (↑sy))])), (aA, .inl (cI, 5, .inl (zA ar))), (aR, .inl (cI, 5, .inl (zA rk))), (aW, .inl (cI, 5, .inl (zA wt)))] zh)) 1 6 (va_A [(o, .inr (0, [.ref aA, .ref aR, .ref aW, .ref aV, .int (zI (↑sy))])), (aA, .inl (cI, 5, .inl (zA ar))), (aR, .inl (cI, 5, .inl (zA rk))), (aW, .inl (cI, 5, .inl (zA wt)))] zh) := by
  refine vx_ofW (cc := qc_X_symbol) (maxL := 2) (ret := (Option.some Jvm.ClassFile.FieldType.int)) (by decide) rfl ?_
  intro pg eg sg mg args below meth cg s₁ B hml htab hv
  obtain ⟨rfl, ⟨hsz, hP, hF0, hK, hN, hD0, hap⟩, hE⟩ := hv
  have hx := B.exec
  have hb := B.bytes
  have hr := B.returns
  have hts := atoms_spec (ws := qw_X_symbol) B.pre
  have hg : ∀ w ∈ gw, w.before _ sg = true := fun w h => hts w (List.mem_cons_of_mem _ h)
  have hown : sg.vm.findClass "TermOrders" = some mg.cls := findClass_of_methodNamed B.named
  have hlocks := B.notSynchronized
  have hl := lv_entry ([.ref ox, .int (zI (x))]) (n := 2) (Nat.le_of_ble_eq_true rfl)
  rw [lg_entry_eq]
  generalize (lg_sl ([.ref ox, .int (zI (x))]) ++ List.replicate (2 - (lg_sl ([.ref ox, .int (zI (x))])).length) Slot.unset).toArray = ls at hl ⊢
  subst hsz
  have hD := hD0.self (sz := sg.heap.size)
  have hFA := apw_A hap (fun k q hk => (hF0 k q hk).lt)
  generalize hAe : va_A [(o, .inr (0, [.ref aA, .ref aR, .ref aW, .ref aV, .int (zI (↑sy))])), (aA, .inl (cI, 5, .inl (zA ar))), (aR, .inl (cI, 5, .inl (zA rk))), (aW, .inl (cI, 5, .inl (zA wt)))] sg.heap.size = A at hD hFA hE ⊢
  have hA : ∀ q : Nat, sg.heap.size ≤ q → A q := fun q h => by rw [← hAe]; exact Or.inr h
  have hS : va_S A sg.heap sg.heap [] := va_S.rf
  have hF := hF0
  have hl : lv_has ls 2 [(0, .ref ox), (1, .int (zI (x)))] := hl
  refine lv_iload_n hx hb qd_X_symbol_0 rfl (lv_at hl 1 rfl) ?_
  refine zz_if_lt (tgt := 9) hx hb qd_X_symbol_1 (by decide) (by omega) (fun h1 => ?_) (fun h1 => ?_)
  · skip
    exact zx_throw_a hx hb hst hown hg hE sx_51 hS (hl.1.trans hml.symm) qd_X_symbol_9 qd_X_symbol_12 qd_X_symbol_13 qd_X_symbol_15 qd_X_symbol_18 htab (Nat.le_of_ble_eq_true rfl) (Nat.le_of_ble_eq_true rfl) (Nat.le_of_ble_eq_true rfl) (Nat.le_of_ble_eq_true rfl) hlocks (fun t9 g1 g2 g3 => (fun w9 => ⟨(), trivial, ⟨(Or.inl ⟨rfl, by omega⟩), w9.1⟩, w9.2⟩) (zx_x hP hK hD hS g1 g2 g3)) hS.2.2 (by omega) (by omega)
  · skip
    refine lv_iload_n hx hb qd_X_symbol_4 rfl (lv_at hl 1 rfl) ?_
    refine lv_iconst (v := zI 3) hx hb qd_X_symbol_5 rfl ?_
    refine zz_icmp_le (tgt := 19) hx hb qd_X_symbol_6 (by decide) (by omega) (by omega) (fun h6 => ?_) (fun h6 => ?_)
    · skip
      refine lv_aload_n hx hb qd_X_symbol_19 rfl (lv_at hl 0 rfl) ?_
      refine va_get (D := (dC, dI)) (ci := 5) (v := .ref o) (C := "TermOrders") (T := qT_X) (N := 6) hx hb hg qi_X hown hK hF 0 rfl rfl 0 (by decide) (hg _ wd_120) (fun _ h9 => h9) rfl qd_X_symbol_20 ?_
      refine va_getN (D := (dC, dI)) (ci := 0) (v := .int (zI (↑sy))) (C := "TermOrders$Symbols") (T := qT_S) (N := 5) hx hb hg qi_S hown hK hP 0 rfl rfl 4 (by decide) (va_Nw.use rfl (hN.use nw_40)) (fun _ h9 => h9) rfl qd_X_symbol_23 ?_
      refine lv_iconst (v := zI 5) hx hb qd_X_symbol_26 rfl ?_
      refine zz_icmp_ne (tgt := 40) hx hb qd_X_symbol_27 (by decide) (by omega) (by omega) (fun h27 => ?_) (fun h27 => ?_)
      · skip
        refine lv_aload_n hx hb qd_X_symbol_40 rfl (lv_at hl 0 rfl) ?_
        refine va_get (D := (dC, dI)) (ci := 5) (v := .ref o) (C := "TermOrders") (T := qT_X) (N := 6) hx hb hg qi_X hown hK hF 0 rfl rfl 0 (by decide) (hg _ wd_120) (fun _ h9 => h9) rfl qd_X_symbol_41 ?_
        refine lv_iload_n hx hb qd_X_symbol_44 rfl (lv_at hl 1 rfl) ?_
        have hPc := hP.sub (ws' := [(o, .inr (0, [.ref aA, .ref aR, .ref aW, .ref aV, .int (zI (↑sy))])), (aA, .inl (cI, 5, .inl (zA ar))), (aR, .inl (cI, 5, .inl (zA rk))), (aW, .inl (cI, 5, .inl (zA wt)))]) [0, 1, 2, 3] rfl
        have hDc := hD.sub (ws' := [(o, .inr (0, [.ref aA, .ref aR, .ref aW, .ref aV, .int (zI (↑sy))])), (aA, .inl (cI, 5, .inl (zA ar))), (aR, .inl (cI, 5, .inl (zA rk))), (aW, .inl (cI, 5, .inl (zA wt)))]) [0, 1, 2, 3] (by decide) rfl
        have hFr := va_free (wc := [(o, .inr (0, [.ref aA, .ref aR, .ref aW, .ref aV, .int (zI (↑sy))])), (aA, .inl (cI, 5, .inl (zA ar))), (aR, .inl (cI, 5, .inl (zA rk))), (aW, .inl (cI, 5, .inl (zA wt)))]) hD hS hA [0, 1, 2, 3] rfl
        refine mw_callI (va_runVN (As := [.int (zI (x))]) (rest := []) ⟨hx, hb, hml, hown, hg⟩ (c_S_add l dC dI cI cZ cT cJ o aA aR aW aV sy ar rk wt sv x sg.heap.size (by omega)) ⟨va_cnB 1 hg (gw_ok (fun _ h => h) wd_259) rfl rfl rfl (hN.use nw_256) (hg _ wd_2) (by decide +kernel) ⟨Nat.le_of_ble_eq_true rfl, Nat.le_of_ble_eq_true rfl⟩, hg _ wd_258, hg _ se_S_add⟩ (mw_preV (va_recv (q0 := 0) hK hP rfl rfl) hPc (pw_nil) hK hN hDc (apw_nil)) rfl rfl hl.1 rfl (lv_room (Nat.le_of_ble_eq_true rfl)) qd_X_symbol_45 ⟨Nat.le_of_ble_eq_true rfl, Nat.le_of_ble_eq_true rfl⟩) hS (fun q _ h => hFr q h) hFr (fun r45 u9 t9 H45_2 L45_2 ht9 hv9 hr45 hB9 hz9 hk9 hS => ?_)
        obtain ⟨hP, hD⟩ := mw_join (wr := []) (w1 := [(o, .inr (0, [.ref aA, .ref aR, .ref aW, .ref aV, .int (zI (↑(sy + 1)))])), (aA, .inl (cI, 5, .inl (zA (uz ar sy x)))), (aR, .inl (cI, 5, .inl (zA (uz rk sy ↑sy)))), (aW, .inl (cI, 5, .inl (zA (uz wt sy 1))))]) hP hD [0, 1, 2, 3] [] rfl rfl (by decide) (by decide) hk9 hFr ht9 hB9
        have hP := hP.sub (ws' := [(o, .inr (0, [.ref aA, .ref aR, .ref aW, .ref aV, .int (zI (↑(sy + 1)))])), (aA, .inl (cI, 5, .inl (zA (uz ar sy x)))), (aR, .inl (cI, 5, .inl (zA (uz rk sy ↑sy)))), (aW, .inl (cI, 5, .inl (zA (uz wt sy 1))))]) [0, 1, 2, 3] rfl
        have hD := hD.sub (ws' := [(o, .inr (0, [.ref aA, .ref aR, .ref aW, .ref aV, .int (zI (↑(sy + 1)))])), (aA, .inl (cI, 5, .inl (zA (uz ar sy x)))), (aR, .inl (cI, 5, .inl (zA (uz rk sy ↑sy)))), (aW, .inl (cI, 5, .inl (zA (uz wt sy 1))))]) [0, 1, 2, 3] (by decide) rfl
        have hF := fz_keep hF0 hFA hS
        refine W.widen (k := 1) (n := 6) (by omega) (by omega) ?_
        refine vx_ret ?_
        exact W.iret (v := zI r45) hx hb hr (fun t9 ht9 hW9 => ⟨⟨r45, (), rfl, ⟨by omega, by omega, by omega, hr45⟩, mwB_i (by rw [ht9]; exact hP) (va_K.moved hW9.alike hK) hD⟩, hS.F ht9⟩) hS.2.2 qd_X_symbol_48
      · skip
        exact zx_throw_s hx hb hst hown hg hE sx_61 hS (hl.1.trans hml.symm) qd_X_symbol_30 qd_X_symbol_33 qd_X_symbol_34 qd_X_symbol_36 qd_X_symbol_39 htab (Nat.le_of_ble_eq_true rfl) (Nat.le_of_ble_eq_true rfl) (Nat.le_of_ble_eq_true rfl) (Nat.le_of_ble_eq_true rfl) hlocks (fun t9 g1 g2 g3 => (fun w9 => ⟨(), trivial, ⟨(Or.inr ⟨rfl, by omega, by omega, by omega⟩), w9.1⟩, w9.2⟩) (zx_x hP hK hD hS g1 g2 g3)) hS.2.2 (by omega) (by omega)
    · skip
      exact zx_throw_a hx hb hst hown hg hE sx_51 hS (hl.1.trans hml.symm) qd_X_symbol_9 qd_X_symbol_12 qd_X_symbol_13 qd_X_symbol_15 qd_X_symbol_18 htab (Nat.le_of_ble_eq_true rfl) (Nat.le_of_ble_eq_true rfl) (Nat.le_of_ble_eq_true rfl) (Nat.le_of_ble_eq_true rfl) hlocks (fun t9 g1 g2 g3 => (fun w9 => ⟨(), trivial, ⟨(Or.inl ⟨rfl, by omega⟩), w9.1⟩, w9.2⟩) (zx_x hP hK hD hS g1 g2 g3)) hS.2.2 (by omega) (by omega)
set_option maxHeartbeats 4000000 in
set_option maxRecDepth 100000 in
theorem c_X_rank (l : Launch) (dC : Nat → ClassId) (dI : Nat → Nat → Nat) (cI cZ cT cJ : ClassId) (ox : Nat) (o aA aR aW aV sy : Nat) (ar rk wt sv : Nat → Int) (od dH dP dE dT dz : Nat) (dt : Bool) (hd pcs : Nat → Int) (de : Nat → Nat) (dh : Nat → Int) (orr rL rR rB rc : Nat) (lf rf : Nat → Option Nat) (bd : Nat → Int) (og oG : Nat) (gr : Nat → Bool) (ta tH tP tE tn : Nat → Nat) (TH TM : Nat → Nat → Int) (TE : Nat → Nat → Nat) (TG : Nat → Int) (HT : Nat → Nat → Int) (LI RI : Nat → Nat) (pl : va_W) (tc : Nat) (xT : Nat) (tf : Nat → Option Nat) (x : Int) (zh : Nat) (hst : l.stackTraces = false) (hsy : sy ≤ 5) (h32x : -2147483648 ≤ x ∧ x < 2147483648) : vx_Met l qy_X_rank qw_X_rank ({ frames := 7, cells := 1, slots := 6, locals := 121 }) (mxP (dC, dI) qcl (qty cI cZ cT cJ) nwL [] [(ox, .inr (5, [.ref o, .ref od, .ref xT, .ref orr, .ref og, .int (zI (↑tc))])), (o, .inr (0, [.ref aA, .ref aR, .ref aW, .ref aV, .int (zI (↑sy))])), (aR, .inl (cI, 5, .inl (zA rk)))] zh [.ref ox, .int (zI (x))]) (mwI (S := Unit) (fun r uq => (0 ≤ x ∧ x < sy) ∧ r = rk x.toNat) (fun uq tq => mwB (dC, dI) qcl (qty cI cZ cT cJ) (va_A [] zh) [] tq) (va_A [] zh)) (vx_X (S := Unit) (fun _ => True) (fun E uq tq => (E = "java/lang/IllegalArgumentException" ∧ ¬ (0 ≤ x ∧ x < sy)) ∧ mwB (dC, dI) qcl (qty cI cZ cT cJ) (va_A [] zh) [] tq) (va_A [] zh)) 1 6 (va_A [] zh) := by
  refine vx_ofW (cc := qc_X_rank) (maxL := 2) (ret := (Option.some Jvm.ClassFile.FieldType.int)) (by decide) rfl ?_
  intro pg eg sg mg args below meth cg s₁ B hml htab hv
  obtain ⟨rfl, ⟨hsz, hP, hF0, hK, hN, hD0, hap⟩, hE⟩ := hv
  have hx := B.exec
  have hb := B.bytes
  have hr := B.returns
  have hts := atoms_spec (ws := qw_X_rank) B.pre
  have hg : ∀ w ∈ gw, w.before _ sg = true := fun w h => hts w (List.mem_cons_of_mem _ h)
  have hown : sg.vm.findClass "TermOrders" = some mg.cls := findClass_of_methodNamed B.named
  have hlocks := B.notSynchronized
  have hl := lv_entry ([.ref ox, .int (zI (x))]) (n := 2) (Nat.le_of_ble_eq_true rfl)
  rw [lg_entry_eq]
  generalize (lg_sl ([.ref ox, .int (zI (x))]) ++ List.replicate (2 - (lg_sl ([.ref ox, .int (zI (x))])).length) Slot.unset).toArray = ls at hl ⊢
  subst hsz
  have hD := hD0.self (sz := sg.heap.size)
  have hFA := apw_A hap (fun k q hk => (hF0 k q hk).lt)
  generalize hAe : va_A [] sg.heap.size = A at hD hFA hE ⊢
  have hA : ∀ q : Nat, sg.heap.size ≤ q → A q := fun q h => by rw [← hAe]; exact Or.inr h
  have hS : va_S A sg.heap sg.heap [] := va_S.rf
  have hF := hF0
  have hl : lv_has ls 2 [(0, .ref ox), (1, .int (zI (x)))] := hl
  refine lv_aload_n hx hb qd_X_rank_0 rfl (lv_at hl 0 rfl) ?_
  refine lv_iload_n hx hb qd_X_rank_1 rfl (lv_at hl 1 rfl) ?_
  by_cases hs2 : 0 ≤ x ∧ x < sy
  · skip
    have hPc := hP.sub (ws' := []) [] rfl
    have hDc := hD.sub (ws' := []) [] (by decide) rfl
    have hFr := va_free (wc := []) hD hS hA [] rfl
    refine va_callv (va_runV (As := [.int (zI (x))]) (rest := []) ⟨hx, hb, hml, hown, hg⟩ (c_X_checkSymbol_ok l dC dI cI cZ cT cJ ox o aA aR aW aV sy ar rk wt sv od dH dP dE dT dz dt hd pcs de dh orr rL rR rB rc lf rf bd og oG gr ta tH tP tE tn TH TM TE TG HT LI RI pl tc xT tf x sg.heap.size hsy h32x hs2) ⟨callB_of 1 hg (gw_ok (fun _ h => h) wd_363) rfl rfl rfl (hg _ wd_1) (hg _ wd_360) (by decide +kernel) ⟨Nat.le_of_ble_eq_true rfl, Nat.le_of_ble_eq_true rfl⟩, hg _ wd_362, hg _ se_X_checkSymbol⟩ (mw_preV (va_recv (q0 := 0) hK hF rfl rfl) hPc (pw_c (q := (ox, .inr (5, [.ref o, .ref od, .ref xT, .ref orr, .ref og, .int (zI (↑tc))]))) hF 0 rfl (pw_c (q := (o, .inr (0, [.ref aA, .ref aR, .ref aW, .ref aV, .int (zI (↑sy))]))) hF 1 rfl (pw_nil))) hK hN hDc (apw_c (q := (ox, .inr (5, [.ref o, .ref od, .ref xT, .ref orr, .ref og, .int (zI (↑tc))]))) (apw_f hD [] rfl (hFA 0 _ rfl)) (apw_c (q := (o, .inr (0, [.ref aA, .ref aR, .ref aW, .ref aV, .int (zI (↑sy))]))) (apw_f hD [] rfl (hFA 1 _ rfl)) (apw_nil)))) rfl rfl hl.1 rfl (lv_room (Nat.le_of_ble_eq_true rfl)) qd_X_rank_2 ⟨Nat.le_of_ble_eq_true rfl, Nat.le_of_ble_eq_true rfl⟩) hS (fun q _ h => hFr q h) hFr (fun u9 t9 H2_1 L2_1 ht9 hv9 hr2 hB9 hz9 hk9 hS => ?_)
    obtain ⟨hP, hD⟩ := mw_join (wr := []) (w1 := []) hP hD [] [] rfl rfl (by decide) (by decide) hk9 hFr ht9 hB9
    have hP := hP.sub (ws' := []) [] rfl
    have hD := hD.sub (ws' := []) [] (by decide) rfl
    have hF := fz_keep hF0 hFA hS
    refine lv_aload_n hx hb qd_X_rank_5 rfl (lv_at hl 0 rfl) ?_
    refine va_get (D := (dC, dI)) (ci := 5) (v := .ref o) (C := "TermOrders") (T := qT_X) (N := 6) hx hb hg qi_X hown hK hF 0 rfl rfl 0 (by decide) (hg _ wd_120) (fun _ h9 => h9) rfl qd_X_rank_6 ?_
    refine va_getN (D := (dC, dI)) (ci := 0) (v := .ref aR) (C := "TermOrders$Symbols") (T := qT_S) (N := 5) hx hb hg qi_S hown hK hF 1 rfl rfl 1 (by decide) (va_Nw.use rfl (hN.use nw_35)) (fun _ h9 => h9) rfl qd_X_rank_9 ?_
    refine lv_iload_n hx hb qd_X_rank_12 rfl (lv_at hl 1 rfl) ?_
    refine zz_iald hx hb hK hF 2 0 rfl rfl x.toNat (by omega) (by omega) (by omega) qd_X_rank_13 ?_
    refine W.widen (k := 1) (n := 6) (by omega) (by omega) ?_
    refine vx_ret ?_
    exact W.iret (v := zI (rk x.toNat)) hx hb hr (fun t9 ht9 hW9 => ⟨⟨rk x.toNat, (), rfl, ⟨hs2, rfl⟩, mwB_i (by rw [ht9]; exact hP) (va_K.moved hW9.alike hK) hD⟩, hS.F ht9⟩) hS.2.2 qd_X_rank_14
  · skip
    have hPc := hP.sub (ws' := []) [] rfl
    have hDc := hD.sub (ws' := []) [] (by decide) rfl
    have hFr := va_free (wc := []) hD hS hA [] rfl
    refine vx_callv (vx_runV (As := [.int (zI (x))]) (rest := []) ⟨hx, hb, hml, hown, hg⟩ (c_X_checkSymbol_no l dC dI cI cZ cT cJ ox o aA aR aW aV sy ar rk wt sv od dH dP dE dT dz dt hd pcs de dh orr rL rR rB rc lf rf bd og oG gr ta tH tP tE tn TH TM TE TG HT LI RI pl tc xT tf x sg.heap.size hst hsy h32x hs2) ⟨callB_of 1 hg (gw_ok (fun _ h => h) wd_363) rfl rfl rfl (hg _ wd_1) (hg _ wd_360) (by decide +kernel) ⟨Nat.le_of_ble_eq_true rfl, Nat.le_of_ble_eq_true rfl⟩, hg _ wd_362, hg _ se_X_checkSymbol⟩ (mx_preV (va_recv (q0 := 0) hK hF rfl rfl) hPc (pw_c (q := (ox, .inr (5, [.ref o, .ref od, .ref xT, .ref orr, .ref og, .int (zI (↑tc))]))) hF 0 rfl (pw_c (q := (o, .inr (0, [.ref aA, .ref aR, .ref aW, .ref aV, .int (zI (↑sy))]))) hF 1 rfl (pw_nil))) hK hN hDc (apw_c (q := (ox, .inr (5, [.ref o, .ref od, .ref xT, .ref orr, .ref og, .int (zI (↑tc))]))) (apw_f hD [] rfl (hFA 0 _ rfl)) (apw_c (q := (o, .inr (0, [.ref aA, .ref aR, .ref aW, .ref aV, .int (zI (↑sy))]))) (apw_f hD [] rfl (hFA 1 _ rfl)) (apw_nil))) (exH.narrow (exH.kept hE hS.2.1) hFr)) rfl rfl hl.1 rfl (lv_room (Nat.le_of_ble_eq_true rfl)) qd_X_rank_2 ⟨Nat.le_of_ble_eq_true rfl, Nat.le_of_ble_eq_true rfl⟩) hS (fun q _ h => hFr q h) hFr (fun q _ h => hFr q h) (fun E9 ce9 q9 u9 t9 H2_2 L2_2 ht9 hv9 _ hx2 hz9 hk9 hS hc9 hcv9 hcl9 => ?_) (fun u9 t9 H2_2 L2_2 ht9 hv9 hr2 hB9 hz9 hk9 hS => ?_)
    · skip
      obtain ⟨hx2, hB9⟩ := hx2
      try dsimp only at hx2 hB9
      obtain ⟨hP, hD⟩ := mw_join (wr := []) (w1 := []) hP hD [] [] rfl rfl (by decide) (by decide) hk9 hFr ht9 hB9
      have hP := hP.sub (ws' := []) [] rfl
      have hD := hD.sub (ws' := []) [] (by decide) rfl
      have hF := fz_keep hF0 hFA hS
      refine vx_widen (k := 1) (n := 6) (by omega) (by omega) ?_
      exact vx_out (fun x h => (htab x h).elim) hlocks hc9 hcv9 hcl9 (fun t9 g1 g2 => (fun w9 => ⟨(), trivial, ⟨⟨hx2, hs2⟩, w9.1⟩, w9.2⟩) (zx_o hP hK hD hS g1 g2)) hS.2.2 (Nat.le_refl _) (Nat.le_refl _)
    · skip
      exact (hr2).elim
set_option maxHeartbeats 4000000 in
set_option maxRecDepth 100000 in
theorem c_X_order (l : Launch) (dC : Nat → ClassId) (dI : Nat → Nat → Nat) (cI cZ cT cJ : ClassId) (ox : Nat) (o aA aR aW aV sy : Nat) (ar rk wt sv : Nat → Int) (od dH dP dE dT dz : Nat) (dt : Bool) (hd pcs : Nat → Int) (de : Nat → Nat) (dh : Nat → Int) (orr rL rR rB rc : Nat) (lf rf : Nat → Option Nat) (bd : Nat → Int) (og oG : Nat) (gr : Nat → Bool) (ta tH tP tE tn : Nat → Nat) (TH TM : Nat → Nat → Int) (TE : Nat → Nat → Nat) (TG : Nat → Int) (HT : Nat → Nat → Int) (LI RI : Nat → Nat) (pl : va_W) (tc : Nat) (xT : Nat) (tf : Nat → Option Nat) (x y z : Int) (zh : Nat) (hst : l.stackTraces = false) (hsy : sy ≤ 5) (h32x : -2147483648 ≤ x ∧ x < 2147483648) (h32y : -2147483648 ≤ y ∧ y < 2147483648) (h32z : -2147483648 ≤ z ∧ z < 2147483648) : vx_Met l qy_X_order qw_X_order ({ frames := 7, cells := 1, slots := 6, locals := 121 }) (mxP (dC, dI) qcl (qty cI cZ cT cJ) nwL [(aR, .inl (cI, 5, .inl (zA rk))), (aW, .inl (cI, 5, .inl (zA wt)))] [(ox, .inr (5, [.ref o, .ref od, .ref xT, .ref orr, .ref og, .int (zI (↑tc))])), (o, .inr (0, [.ref aA, .ref aR, .ref aW, .ref aV, .int (zI (↑sy))]))] zh [.ref ox, .int (zI (x)), .int (zI (y)), .int (zI (z))]) (va_Qv (S := Unit) (fun uq => 0 ≤ x ∧ x < sy ∧ 0 ≤ y ∧ y ≤ 4 ∧ 0 ≤ z ∧ z ≤ 9) (fun uq tq => mwB (dC, dI) qcl (qty cI cZ cT cJ) (va_A [(aR, .inl (cI, 5, .inl (zA rk))), (aW, .inl (cI, 5, .inl (zA wt)))] zh) [(aR, .inl (cI, 5, .inl (zA (uz rk x.toNat y)))), (aW, .inl (cI, 5, .inl (zA (uz wt x.toNat z))))] tq) (va_A [(aR, .inl (cI, 5, .inl (zA rk))), (aW, .inl (cI, 5, .inl (zA wt)))] zh)) (vx_X (S := Unit) (fun _ => True) (fun E uq tq => (E = "java/lang/IllegalArgumentException" ∧ ¬ (0 ≤ x ∧ x < sy ∧ 0 ≤ y ∧ y ≤ 4 ∧ 0 ≤ z ∧ z ≤ 9)) ∧ mwB (dC, dI) qcl (qty cI cZ cT cJ) (va_A [(aR, .inl (cI, 5, .inl (zA rk))), (aW, .inl (cI, 5, .inl (zA wt)))] zh) [(aR, .inl (cI, 5, .inl (zA rk))), (aW, .inl (cI, 5, .inl (zA wt)))] tq) (va_A [(aR, .inl (cI, 5, .inl (zA rk))), (aW, .inl (cI, 5, .inl (zA wt)))] zh)) 1 6 (va_A [(aR, .inl (cI, 5, .inl (zA rk))), (aW, .inl (cI, 5, .inl (zA wt)))] zh) := by
  refine vx_ofW (cc := qc_X_order) (maxL := 4) (ret := (Option.none : Option Jvm.ClassFile.FieldType)) (by decide) rfl ?_
  intro pg eg sg mg args below meth cg s₁ B hml htab hv
  obtain ⟨rfl, ⟨hsz, hP, hF0, hK, hN, hD0, hap⟩, hE⟩ := hv
  have hx := B.exec
  have hb := B.bytes
  have hr := B.returns
  have hts := atoms_spec (ws := qw_X_order) B.pre
  have hg : ∀ w ∈ gw, w.before _ sg = true := fun w h => hts w (List.mem_cons_of_mem _ h)
  have hown : sg.vm.findClass "TermOrders" = some mg.cls := findClass_of_methodNamed B.named
  have hlocks := B.notSynchronized
  have hl := lv_entry ([.ref ox, .int (zI (x)), .int (zI (y)), .int (zI (z))]) (n := 4) (Nat.le_of_ble_eq_true rfl)
  rw [lg_entry_eq]
  generalize (lg_sl ([.ref ox, .int (zI (x)), .int (zI (y)), .int (zI (z))]) ++ List.replicate (4 - (lg_sl ([.ref ox, .int (zI (x)), .int (zI (y)), .int (zI (z))])).length) Slot.unset).toArray = ls at hl ⊢
  subst hsz
  have hD := hD0.self (sz := sg.heap.size)
  have hFA := apw_A hap (fun k q hk => (hF0 k q hk).lt)
  generalize hAe : va_A [(aR, .inl (cI, 5, .inl (zA rk))), (aW, .inl (cI, 5, .inl (zA wt)))] sg.heap.size = A at hD hFA hE ⊢
  have hA : ∀ q : Nat, sg.heap.size ≤ q → A q := fun q h => by rw [← hAe]; exact Or.inr h
  have hS : va_S A sg.heap sg.heap [] := va_S.rf
  have hF := hF0
  have hl : lv_has ls 4 [(0, .ref ox), (1, .int (zI (x))), (2, .int (zI (y))), (3, .int (zI (z)))] := hl
  refine lv_aload_n hx hb qd_X_order_0 rfl (lv_at hl 0 rfl) ?_
  refine lv_iload_n hx hb qd_X_order_1 rfl (lv_at hl 1 rfl) ?_
  by_cases hs2 : 0 ≤ x ∧ x < sy
  · skip
    have hPc := hP.sub (ws' := []) [] rfl
    have hDc := hD.sub (ws' := []) [] (by decide) rfl
    have hFr := va_free (wc := []) hD hS hA [] rfl
    refine va_callv (va_runV (As := [.int (zI (x))]) (rest := []) ⟨hx, hb, hml, hown, hg⟩ (c_X_checkSymbol_ok l dC dI cI cZ cT cJ ox o aA aR aW aV sy ar rk wt sv od dH dP dE dT dz dt hd pcs de dh orr rL rR rB rc lf rf bd og oG gr ta tH tP tE tn TH TM TE TG HT LI RI pl tc xT tf x sg.heap.size hsy h32x hs2) ⟨callB_of 1 hg (gw_ok (fun _ h => h) wd_363) rfl rfl rfl (hg _ wd_1) (hg _ wd_360) (by decide +kernel) ⟨Nat.le_of_ble_eq_true rfl, Nat.le_of_ble_eq_true rfl⟩, hg _ wd_362, hg _ se_X_checkSymbol⟩ (mw_preV (va_recv (q0 := 0) hK hF rfl rfl) hPc (pw_c (q := (ox, .inr (5, [.ref o, .ref od, .ref xT, .ref orr, .ref og, .int (zI (↑tc))]))) hF 0 rfl (pw_c (q := (o, .inr (0, [.ref aA, .ref aR, .ref aW, .ref aV, .int (zI (↑sy))]))) hF 1 rfl (pw_nil))) hK hN hDc (apw_c (q := (ox, .inr (5, [.ref o, .ref od, .ref xT, .ref orr, .ref og, .int (zI (↑tc))]))) (apw_f hD [] rfl (hFA 0 _ rfl)) (apw_c (q := (o, .inr (0, [.ref aA, .ref aR, .ref aW, .ref aV, .int (zI (↑sy))]))) (apw_f hD [] rfl (hFA 1 _ rfl)) (apw_nil)))) rfl rfl hl.1 rfl (lv_room (Nat.le_of_ble_eq_true rfl)) qd_X_order_2 ⟨Nat.le_of_ble_eq_true rfl, Nat.le_of_ble_eq_true rfl⟩) hS (fun q _ h => hFr q h) hFr (fun u9 t9 H2_1 L2_1 ht9 hv9 hr2 hB9 hz9 hk9 hS => ?_)
    obtain ⟨hP, hD⟩ := mw_join (wr := [(aR, .inl (cI, 5, .inl (zA rk))), (aW, .inl (cI, 5, .inl (zA wt)))]) (w1 := []) hP hD [] [0, 1] rfl rfl (by decide) (by decide) hk9 hFr ht9 hB9
    have hP := hP.sub (ws' := [(aR, .inl (cI, 5, .inl (zA rk))), (aW, .inl (cI, 5, .inl (zA wt)))]) [0, 1] rfl
    have hD := hD.sub (ws' := [(aR, .inl (cI, 5, .inl (zA rk))), (aW, .inl (cI, 5, .inl (zA wt)))]) [0, 1] (by decide) rfl
    have hF := fz_keep hF0 hFA hS
    refine lv_iload_n hx hb qd_X_order_5 rfl (lv_at hl 2 rfl) ?_
    refine zz_if_lt (tgt := 14) hx hb qd_X_order_6 (by decide) (by omega) (fun h6 => ?_) (fun h6 => ?_)
    · skip
      exact zx_throw_a hx hb hst hown hg hE sx_118 hS (hl.1.trans hml.symm) qd_X_order_14 qd_X_order_17 qd_X_order_18 qd_X_order_20 qd_X_order_23 htab (Nat.le_of_ble_eq_true rfl) (Nat.le_of_ble_eq_true rfl) (Nat.le_of_ble_eq_true rfl) (Nat.le_of_ble_eq_true rfl) hlocks (fun t9 g1 g2 g3 => (fun w9 => ⟨(), trivial, ⟨⟨rfl, by omega⟩, w9.1⟩, w9.2⟩) (zx_x hP hK hD hS g1 g2 g3)) hS.2.2 (by omega) (by omega)
    · skip
      refine lv_iload_n hx hb qd_X_order_9 rfl (lv_at hl 2 rfl) ?_
      refine lv_iconst (v := zI 4) hx hb qd_X_order_10 rfl ?_
      refine zz_icmp_le (tgt := 24) hx hb qd_X_order_11 (by decide) (by omega) (by omega) (fun h11 => ?_) (fun h11 => ?_)
      · skip
        refine lv_iload_n hx hb qd_X_order_24 rfl (lv_at hl 3 rfl) ?_
        refine zz_if_lt (tgt := 34) hx hb qd_X_order_25 (by decide) (by omega) (fun h25 => ?_) (fun h25 => ?_)
        · skip
          exact zx_throw_a hx hb hst hown hg hE sx_120 hS (hl.1.trans hml.symm) qd_X_order_34 qd_X_order_37 qd_X_order_38 qd_X_order_40 qd_X_order_43 htab (Nat.le_of_ble_eq_true rfl) (Nat.le_of_ble_eq_true rfl) (Nat.le_of_ble_eq_true rfl) (Nat.le_of_ble_eq_true rfl) hlocks (fun t9 g1 g2 g3 => (fun w9 => ⟨(), trivial, ⟨⟨rfl, by omega⟩, w9.1⟩, w9.2⟩) (zx_x hP hK hD hS g1 g2 g3)) hS.2.2 (by omega) (by omega)
        · skip
          refine lv_iload_n hx hb qd_X_order_28 rfl (lv_at hl 3 rfl) ?_
          refine lv_bipush (v := zI 9) hx hb qd_X_order_29 (by decide) ?_
          refine zz_icmp_le (tgt := 44) hx hb qd_X_order_31 (by decide) (by omega) (by omega) (fun h31 => ?_) (fun h31 => ?_)
          · skip
            refine lv_aload_n hx hb qd_X_order_44 rfl (lv_at hl 0 rfl) ?_
            refine va_get (D := (dC, dI)) (ci := 5) (v := .ref o) (C := "TermOrders") (T := qT_X) (N := 6) hx hb hg qi_X hown hK hF 0 rfl rfl 0 (by decide) (hg _ wd_120) (fun _ h9 => h9) rfl qd_X_order_45 ?_
            refine va_getN (D := (dC, dI)) (ci := 0) (v := .ref aR) (C := "TermOrders$Symbols") (T := qT_S) (N := 5) hx hb hg qi_S hown hK hF 1 rfl rfl 1 (by decide) (va_Nw.use rfl (hN.use nw_35)) (fun _ h9 => h9) rfl qd_X_order_48 ?_
            refine lv_iload_n hx hb qd_X_order_51 rfl (lv_at hl 1 rfl) ?_
            refine lv_iload_n hx hb qd_X_order_52 rfl (lv_at hl 2 rfl) ?_
            refine zz_iast hx hb hK hP hD hS 0 0 rfl rfl x.toNat (by omega) (by omega) (by omega) qd_X_order_53 (fun H53_4 L53_4 hP hD hS => ?_)
            have hP : va_P (dC, dI) qcl [(aR, .inl (cI, 5, .inl (zA (uz rk x.toNat y)))), (aW, .inl (cI, 5, .inl (zA wt)))] H53_4 := hP
            have hD : va_D A [(aR, .inl (cI, 5, .inl (zA (uz rk x.toNat y)))), (aW, .inl (cI, 5, .inl (zA wt)))] := hD
            have hF := fz_keep hF0 hFA hS
            refine lv_aload_n hx hb qd_X_order_54 rfl (lv_at hl 0 rfl) ?_
            refine va_get (D := (dC, dI)) (ci := 5) (v := .ref o) (C := "TermOrders") (T := qT_X) (N := 6) hx hb hg qi_X hown hK hF 0 rfl rfl 0 (by decide) (hg _ wd_120) (fun _ h9 => h9) rfl qd_X_order_55 ?_
            refine va_getN (D := (dC, dI)) (ci := 0) (v := .ref aW) (C := "TermOrders$Symbols") (T := qT_S) (N := 5) hx hb hg qi_S hown hK hF 1 rfl rfl 2 (by decide) (va_Nw.use rfl (hN.use nw_37)) (fun _ h9 => h9) rfl qd_X_order_58 ?_
            refine lv_iload_n hx hb qd_X_order_61 rfl (lv_at hl 1 rfl) ?_
            refine lv_iload_n hx hb qd_X_order_62 rfl (lv_at hl 3 rfl) ?_
            refine zz_iast hx hb hK hP hD hS 1 0 rfl rfl x.toNat (by omega) (by omega) (by omega) qd_X_order_63 (fun H63_5 L63_5 hP hD hS => ?_)
            have hP : va_P (dC, dI) qcl [(aR, .inl (cI, 5, .inl (zA (uz rk x.toNat y)))), (aW, .inl (cI, 5, .inl (zA (uz wt x.toNat z))))] H63_5 := hP
            have hD : va_D A [(aR, .inl (cI, 5, .inl (zA (uz rk x.toNat y)))), (aW, .inl (cI, 5, .inl (zA (uz wt x.toNat z))))] := hD
            have hF := fz_keep hF0 hFA hS
            refine W.widen (k := 1) (n := 6) (by omega) (by omega) ?_
            refine vx_ret ?_
            exact W.vret hx hb hr (fun t9 ht9 hW9 => ⟨⟨(), rfl, ⟨by omega, by omega, by omega, by omega, by omega, by omega⟩, mwB_i (by rw [ht9]; exact hP) (va_K.moved hW9.alike hK) hD⟩, hS.F ht9⟩) hS.2.2 qd_X_order_64
          · skip
            exact zx_throw_a hx hb hst hown hg hE sx_120 hS (hl.1.trans hml.symm) qd_X_order_34 qd_X_order_37 qd_X_order_38 qd_X_order_40 qd_X_order_43 htab (Nat.le_of_ble_eq_true rfl) (Nat.le_of_ble_eq_true rfl) (Nat.le_of_ble_eq_true rfl) (Nat.le_of_ble_eq_true rfl) hlocks (fun t9 g1 g2 g3 => (fun w9 => ⟨(), trivial, ⟨⟨rfl, by omega⟩, w9.1⟩, w9.2⟩) (zx_x hP hK hD hS g1 g2 g3)) hS.2.2 (by omega) (by omega)
      · skip
        exact zx_throw_a hx hb hst hown hg hE sx_118 hS (hl.1.trans hml.symm) qd_X_order_14 qd_X_order_17 qd_X_order_18 qd_X_order_20 qd_X_order_23 htab (Nat.le_of_ble_eq_true rfl) (Nat.le_of_ble_eq_true rfl) (Nat.le_of_ble_eq_true rfl) (Nat.le_of_ble_eq_true rfl) hlocks (fun t9 g1 g2 g3 => (fun w9 => ⟨(), trivial, ⟨⟨rfl, by omega⟩, w9.1⟩, w9.2⟩) (zx_x hP hK hD hS g1 g2 g3)) hS.2.2 (by omega) (by omega)
  · skip
    have hPc := hP.sub (ws' := []) [] rfl
    have hDc := hD.sub (ws' := []) [] (by decide) rfl
    have hFr := va_free (wc := []) hD hS hA [] rfl
    refine vx_callv (vx_runV (As := [.int (zI (x))]) (rest := []) ⟨hx, hb, hml, hown, hg⟩ (c_X_checkSymbol_no l dC dI cI cZ cT cJ ox o aA aR aW aV sy ar rk wt sv od dH dP dE dT dz dt hd pcs de dh orr rL rR rB rc lf rf bd og oG gr ta tH tP tE tn TH TM TE TG HT LI RI pl tc xT tf x sg.heap.size hst hsy h32x hs2) ⟨callB_of 1 hg (gw_ok (fun _ h => h) wd_363) rfl rfl rfl (hg _ wd_1) (hg _ wd_360) (by decide +kernel) ⟨Nat.le_of_ble_eq_true rfl, Nat.le_of_ble_eq_true rfl⟩, hg _ wd_362, hg _ se_X_checkSymbol⟩ (mx_preV (va_recv (q0 := 0) hK hF rfl rfl) hPc (pw_c (q := (ox, .inr (5, [.ref o, .ref od, .ref xT, .ref orr, .ref og, .int (zI (↑tc))]))) hF 0 rfl (pw_c (q := (o, .inr (0, [.ref aA, .ref aR, .ref aW, .ref aV, .int (zI (↑sy))]))) hF 1 rfl (pw_nil))) hK hN hDc (apw_c (q := (ox, .inr (5, [.ref o, .ref od, .ref xT, .ref orr, .ref og, .int (zI (↑tc))]))) (apw_f hD [] rfl (hFA 0 _ rfl)) (apw_c (q := (o, .inr (0, [.ref aA, .ref aR, .ref aW, .ref aV, .int (zI (↑sy))]))) (apw_f hD [] rfl (hFA 1 _ rfl)) (apw_nil))) (exH.narrow (exH.kept hE hS.2.1) hFr)) rfl rfl hl.1 rfl (lv_room (Nat.le_of_ble_eq_true rfl)) qd_X_order_2 ⟨Nat.le_of_ble_eq_true rfl, Nat.le_of_ble_eq_true rfl⟩) hS (fun q _ h => hFr q h) hFr (fun q _ h => hFr q h) (fun E9 ce9 q9 u9 t9 H2_8 L2_8 ht9 hv9 _ hx2 hz9 hk9 hS hc9 hcv9 hcl9 => ?_) (fun u9 t9 H2_8 L2_8 ht9 hv9 hr2 hB9 hz9 hk9 hS => ?_)
    · skip
      obtain ⟨hx2, hB9⟩ := hx2
      try dsimp only at hx2 hB9
      obtain ⟨hP, hD⟩ := mw_join (wr := [(aR, .inl (cI, 5, .inl (zA rk))), (aW, .inl (cI, 5, .inl (zA wt)))]) (w1 := []) hP hD [] [0, 1] rfl rfl (by decide) (by decide) hk9 hFr ht9 hB9
      have hP := hP.sub (ws' := [(aR, .inl (cI, 5, .inl (zA rk))), (aW, .inl (cI, 5, .inl (zA wt)))]) [0, 1] rfl
      have hD := hD.sub (ws' := [(aR, .inl (cI, 5, .inl (zA rk))), (aW, .inl (cI, 5, .inl (zA wt)))]) [0, 1] (by decide) rfl
      have hF := fz_keep hF0 hFA hS
      refine vx_widen (k := 1) (n := 6) (by omega) (by omega) ?_
      exact vx_out (fun x h => (htab x h).elim) hlocks hc9 hcv9 hcl9 (fun t9 g1 g2 => (fun w9 => ⟨(), trivial, ⟨⟨hx2, by omega⟩, w9.1⟩, w9.2⟩) (zx_o hP hK hD hS g1 g2)) hS.2.2 (Nat.le_refl _) (Nat.le_refl _)
    · skip
      exact (hr2).elim
set_option maxHeartbeats 4000000 in
set_option maxRecDepth 100000 in
theorem c_X_admissible (l : Launch) (dC : Nat → ClassId) (dI : Nat → Nat → Nat) (cI cZ cT cJ : ClassId) (ox : Nat) (o aA aR aW aV sy : Nat) (ar rk wt sv : Nat → Int) (od dH dP dE dT dz : Nat) (dt : Bool) (hd pcs : Nat → Int) (de : Nat → Nat) (dh : Nat → Int) (orr rL rR rB rc : Nat) (lf rf : Nat → Option Nat) (bd : Nat → Int) (og oG : Nat) (gr : Nat → Bool) (ta tH tP tE tn : Nat → Nat) (TH TM : Nat → Nat → Int) (TE : Nat → Nat → Nat) (TG : Nat → Int) (HT : Nat → Nat → Int) (LI RI : Nat → Nat) (pl : va_W) (tc : Nat) (xT : Nat) (tf : Nat → Option Nat) (hsy : sy ≤ 5) (hrk : ∀ q, q < 5 → 0 ≤ rk q ∧ rk q ≤ 4) (har : ∀ q, q < 5 → 0 ≤ ar q ∧ ar q ≤ 3) (hwt : ∀ q, q < 5 → 0 ≤ wt q ∧ wt q ≤ 9) : Met l qy_X_admissible qw_X_admissible ({ frames := 4, cells := 0, slots := 0, locals := 86 }) (rdP (dC, dI) qcl (qty cI cZ cT cJ) nwL [(ox, .inr (5, [.ref o, .ref od, .ref xT, .ref orr, .ref og, .int (zI (↑tc))])), (o, .inr (0, [.ref aA, .ref aR, .ref aW, .ref aV, .int (zI (↑sy))])), (aA, .inl (cI, 5, .inl (zA ar))), (aR, .inl (cI, 5, .inl (zA rk))), (aW, .inl (cI, 5, .inl (zA wt))), (aV, .inl (cI, 5, .inl (zA sv)))] [.ref ox]) (rdB (∀ x, x < sy → ¬ (ar x = 0 ∧ wt x = 0) ∧ ∀ t, t < sy → ¬ (ar x = 1 ∧ wt x = 0 ∧ t ≠ x ∧ rk x ≤ rk t))) 0 0 (fun _ => False) := by
  refine Met.ofW (cc := qc_X_admissible) (maxL := 1) (ret := (Option.some Jvm.ClassFile.FieldType.boolean)) (by decide) rfl ?_
  intro pg eg sg mg args below meth cg s₁ B hml hv
  obtain ⟨rfl, hF, hK, hN⟩ := hv
  have hx := B.exec
  have hb := B.bytes
  have hr := B.returns
  have hts := atoms_spec (ws := qw_X_admissible) B.pre
  have hg : ∀ w ∈ gw, w.before _ sg = true := fun w h => hts w (List.mem_cons_of_mem _ h)
  have hown : sg.vm.findClass "TermOrders" = some mg.cls := findClass_of_methodNamed B.named
  have hlocks := B.notSynchronized
  have hl := lv_entry ([.ref ox]) (n := 1) (Nat.le_of_ble_eq_true rfl)
  rw [lg_entry_eq]
  generalize (lg_sl ([.ref ox]) ++ List.replicate (1 - (lg_sl ([.ref ox])).length) Slot.unset).toArray = ls at hl ⊢
  have hl : lv_has ls 1 [(0, .ref ox)] := hl
  refine lv_aload_n hx hb qd_X_admissible_0 rfl (lv_at hl 0 rfl) ?_
  refine va_get (D := (dC, dI)) (ci := 5) (v := .ref o) (C := "TermOrders") (T := qT_X) (N := 6) hx hb hg qi_X hown hK hF 0 rfl rfl 0 (by decide) (hg _ wd_120) (fun _ h9 => h9) rfl qd_X_admissible_1 ?_
  refine rd_callB (va_runVN (As := []) (rest := []) ⟨hx, hb, hml, hown, hg⟩ (c_S_haveAdmissibleWeights l dC dI cI cZ cT cJ o aA aR aW aV sy ar rk wt sv hsy hrk har hwt) ⟨va_cnB 0 hg (gw_ok (fun _ h => h) wd_146) rfl rfl rfl (hN.use nw_143) (hg _ wd_2) (by decide +kernel) ⟨Nat.le_of_ble_eq_true rfl, Nat.le_of_ble_eq_true rfl⟩, hg _ wd_145, hg _ se_S_haveAdmissibleWeights⟩ (rd_preV (va_recv (q0 := 1) hK hF rfl rfl) (pw_c (q := (o, .inr (0, [.ref aA, .ref aR, .ref aW, .ref aV, .int (zI (↑sy))]))) hF 1 rfl (pw_c (q := (aA, .inl (cI, 5, .inl (zA ar)))) hF 2 rfl (pw_c (q := (aR, .inl (cI, 5, .inl (zA rk)))) hF 3 rfl (pw_c (q := (aW, .inl (cI, 5, .inl (zA wt)))) hF 4 rfl (pw_c (q := (aV, .inl (cI, 5, .inl (zA sv)))) hF 5 rfl (pw_nil)))))) hK hN) rfl rfl hl.1 rfl (lv_room (Nat.le_of_ble_eq_true rfl)) qd_X_admissible_4 ⟨Nat.le_of_ble_eq_true rfl, Nat.le_of_ble_eq_true rfl⟩).run (fun r4 hr4 => ?_)
  exact W.zret (v := zI (bI r4)) (ty := .boolean) hx hb hr (bI_n _) (fun t9 ht9 _ => ⟨r4, rfl, (hr4.trans (adm_eq hsy har)), ht9⟩) t_nil qd_X_admissible_7
set_option maxHeartbeats 4000000 in
set_option maxRecDepth 100000 in
theorem c_X_same (l : Launch) (dC : Nat → ClassId) (dI : Nat → Nat → Nat) (cI cZ cT cJ : ClassId) (ox : Nat) (o aA aR aW aV sy : Nat) (ar rk wt sv : Nat → Int) (od dH dP dE dT dz : Nat) (dt : Bool) (hd pcs : Nat → Int) (de : Nat → Nat) (dh : Nat → Int) (orr rL rR rB rc : Nat) (lf rf : Nat → Option Nat) (bd : Nat → Int) (og oG : Nat) (gr : Nat → Bool) (ta tH tP tE tn : Nat → Nat) (TH TM : Nat → Nat → Int) (TE : Nat → Nat → Nat) (TG : Nat → Int) (HT : Nat → Nat → Int) (LI RI : Nat → Nat) (pl : va_W) (tc : Nat) (xT : Nat) (tf : Nat → Option Nat) (x y : Int) (zh : Nat) (hst : l.stackTraces = false) (hsy : sy ≤ 5) (htc : tc ≤ 160) (htf : ∀ t, t < tc → tf t = some (ta t)) (htp : ∀ t, t < tc → okT sy ar (tn t) (TH t) (TM t) (TE t) (HT t) ∧ tin pl cI (ta t) (tH t) (tP t) (tE t) (tn t) (TH t) (TM t) (TE t) (TG t)) (h32x : -2147483648 ≤ x ∧ x < 2147483648) (h32y : -2147483648 ≤ y ∧ y < 2147483648) : vx_Met l qy_X_same qw_X_same ({ frames := 7, cells := 1, slots := 6, locals := 121 }) (mxP (dC, dI) qcl (qty cI cZ cT cJ) nwL [] ([(ox, .inr (5, [.ref o, .ref od, .ref xT, .ref orr, .ref og, .int (zI (↑tc))])), (xT, .inl (cT, 160, .inr (.inr (.inr (.inr tf)))))] ++ pl) zh [.ref ox, .int (zI (x)), .int (zI (y))]) (mwO (S := Unit) (fun r uq => (0 ≤ x ∧ x < tc ∧ 0 ≤ y ∧ y < tc) ∧ (r = true ↔ smP (TH x.toNat) (TE x.toNat) 0 (TH y.toNat) (TE y.toNat) 0)) (fun uq tq => mwB (dC, dI) qcl (qty cI cZ cT cJ) (va_A [] zh) [] tq) (va_A [] zh)) (vx_X (S := Unit) (fun _ => True) (fun E uq tq => (E = "java/lang/IllegalArgumentException" ∧ ¬ (0 ≤ x ∧ x < tc ∧ 0 ≤ y ∧ y < tc)) ∧ mwB (dC, dI) qcl (qty cI cZ cT cJ) (va_A [] zh) [] tq) (va_A [] zh)) 1 6 (va_A [] zh) := by
  refine vx_ofW (cc := qc_X_same) (maxL := 3) (ret := (Option.some Jvm.ClassFile.FieldType.boolean)) (by decide) rfl ?_
  intro pg eg sg mg args below meth cg s₁ B hml htab hv
  obtain ⟨rfl, ⟨hsz, hP, hF0, hK, hN, hD0, hap⟩, hE⟩ := hv
  have hx := B.exec
  have hb := B.bytes
  have hr := B.returns
  have hts := atoms_spec (ws := qw_X_same) B.pre
  have hg : ∀ w ∈ gw, w.before _ sg = true := fun w h => hts w (List.mem_cons_of_mem _ h)
  have hown : sg.vm.findClass "TermOrders" = some mg.cls := findClass_of_methodNamed B.named
  have hlocks := B.notSynchronized
  have hl := lv_entry ([.ref ox, .int (zI (x)), .int (zI (y))]) (n := 3) (Nat.le_of_ble_eq_true rfl)
  rw [lg_entry_eq]
  generalize (lg_sl ([.ref ox, .int (zI (x)), .int (zI (y))]) ++ List.replicate (3 - (lg_sl ([.ref ox, .int (zI (x)), .int (zI (y))])).length) Slot.unset).toArray = ls at hl ⊢
  subst hsz
  have hD := hD0.self (sz := sg.heap.size)
  have hFA := apw_A hap (fun k q hk => (hF0 k q hk).lt)
  generalize hAe : va_A [] sg.heap.size = A at hD hFA hE ⊢
  have hA : ∀ q : Nat, sg.heap.size ≤ q → A q := fun q h => by rw [← hAe]; exact Or.inr h
  have hS : va_S A sg.heap sg.heap [] := va_S.rf
  have hF := hF0
  have hl : lv_has ls 3 [(0, .ref ox), (1, .int (zI (x))), (2, .int (zI (y)))] := hl
  refine lv_aload_n hx hb qd_X_same_0 rfl (lv_at hl 0 rfl) ?_
  refine lv_iload_n hx hb qd_X_same_1 rfl (lv_at hl 1 rfl) ?_
  by_cases hs2 : 0 ≤ x ∧ x < tc
  · skip
    have hPc := hP.sub (ws' := []) [] rfl
    have hDc := hD.sub (ws' := []) [] (by decide) rfl
    have hFr := va_free (wc := []) hD hS hA [] rfl
    refine mw_callE (va_runV (As := [.int (zI (x))]) (rest := []) ⟨hx, hb, hml, hown, hg⟩ (c_X_termOf_ok l dC dI cI cZ cT cJ ox o aA aR aW aV sy ar rk wt sv od dH dP dE dT dz dt hd pcs de dh orr rL rR rB rc lf rf bd og oG gr ta tH tP tE tn TH TM TE TG HT LI RI pl tc xT tf x sg.heap.size htc htf h32x hs2) ⟨callB_of 1 hg (gw_ok (fun _ h => h) wd_372) rfl rfl rfl (hg _ wd_1) (hg _ wd_369) (by decide +kernel) ⟨Nat.le_of_ble_eq_true rfl, Nat.le_of_ble_eq_true rfl⟩, hg _ wd_371, hg _ se_X_termOf⟩ (mw_preV (va_recv (q0 := 0) hK hF rfl rfl) hPc (pw_c (q := (ox, .inr (5, [.ref o, .ref od, .ref xT, .ref orr, .ref og, .int (zI (↑tc))]))) hF 0 rfl (pw_c (q := (xT, .inl (cT, 160, .inr (.inr (.inr (.inr tf)))))) hF 1 rfl (pw_nil))) hK hN hDc (apw_c (q := (ox, .inr (5, [.ref o, .ref od, .ref xT, .ref orr, .ref og, .int (zI (↑tc))]))) (apw_f hD [] rfl (hFA 0 _ rfl)) (apw_c (q := (xT, .inl (cT, 160, .inr (.inr (.inr (.inr tf)))))) (apw_f hD [] rfl (hFA 1 _ rfl)) (apw_nil)))) rfl rfl hl.1 rfl (lv_room (Nat.le_of_ble_eq_true rfl)) qd_X_same_2 ⟨Nat.le_of_ble_eq_true rfl, Nat.le_of_ble_eq_true rfl⟩) hS (fun q _ h => hFr q h) hFr (fun r2 u9 t9 H2_1 L2_1 ht9 hv9 hr2 hB9 hz9 hk9 hS => ?_)
    obtain ⟨hP, hD⟩ := mw_join (wr := []) (w1 := []) hP hD [] [] rfl rfl (by decide) (by decide) hk9 hFr ht9 hB9
    have hP := hP.sub (ws' := []) [] rfl
    have hD := hD.sub (ws' := []) [] (by decide) rfl
    have hF := fz_keep hF0 hFA hS
    subst hr2
    obtain ⟨ho9, ⟨k0, hk0⟩, ⟨k1, hk1⟩, ⟨k2, hk2⟩, ⟨k3, hk3⟩⟩ := htp (x.toNat) (by omega)
    have hoa := ho9
    refine lv_iconst (v := zI 0) hx hb qd_X_same_5 rfl ?_
    refine zz_top (b := ↑(0 : Nat)) rfl ?_
    refine lv_aload_n hx hb qd_X_same_6 rfl (lv_at hl 0 rfl) ?_
    refine lv_iload_n hx hb qd_X_same_7 rfl (lv_at hl 2 rfl) ?_
    by_cases hs8 : 0 ≤ y ∧ y < tc
    · skip
      have hPc := hP.sub (ws' := []) [] rfl
      have hDc := hD.sub (ws' := []) [] (by decide) rfl
      have hFr := va_free (wc := []) hD hS hA [] rfl
      refine mw_callE (va_runV (As := [.int (zI (y))]) (rest := [.int (zI (↑(0 : Nat))), .ref (ta x.toNat)]) ⟨hx, hb, hml, hown, hg⟩ (c_X_termOf_ok l dC dI cI cZ cT cJ ox o aA aR aW aV sy ar rk wt sv od dH dP dE dT dz dt hd pcs de dh orr rL rR rB rc lf rf bd og oG gr ta tH tP tE tn TH TM TE TG HT LI RI pl tc xT tf y H2_1.size htc htf h32y hs8) ⟨callB_of 1 hg (gw_ok (fun _ h => h) wd_372) rfl rfl rfl (hg _ wd_1) (hg _ wd_369) (by decide +kernel) ⟨Nat.le_of_ble_eq_true rfl, Nat.le_of_ble_eq_true rfl⟩, hg _ wd_371, hg _ se_X_termOf⟩ (mw_preV (va_recv (q0 := 0) hK hF rfl rfl) hPc (pw_c (q := (ox, .inr (5, [.ref o, .ref od, .ref xT, .ref orr, .ref og, .int (zI (↑tc))]))) hF 0 rfl (pw_c (q := (xT, .inl (cT, 160, .inr (.inr (.inr (.inr tf)))))) hF 1 rfl (pw_nil))) hK hN hDc (apw_c (q := (ox, .inr (5, [.ref o, .ref od, .ref xT, .ref orr, .ref og, .int (zI (↑tc))]))) (apw_f hD [] rfl (hFA 0 _ rfl)) (apw_c (q := (xT, .inl (cT, 160, .inr (.inr (.inr (.inr tf)))))) (apw_f hD [] rfl (hFA 1 _ rfl)) (apw_nil)))) rfl rfl hl.1 rfl (lv_room (Nat.le_of_ble_eq_true rfl)) qd_X_same_8 ⟨Nat.le_of_ble_eq_true rfl, Nat.le_of_ble_eq_true rfl⟩) hS (fun q _ h => hFr q h) hFr (fun r8 u9 t9 H8_2 L8_2 ht9 hv9 hr8 hB9 hz9 hk9 hS => ?_)
      obtain ⟨hP, hD⟩ := mw_join (wr := []) (w1 := []) hP hD [] [] rfl rfl (by decide) (by decide) hk9 hFr ht9 hB9
      have hP := hP.sub (ws' := []) [] rfl
      have hD := hD.sub (ws' := []) [] (by decide) rfl
      have hF := fz_keep hF0 hFA hS
      subst hr8
      obtain ⟨ho9, ⟨j0, hj0⟩, ⟨j1, hj1⟩, ⟨j2, hj2⟩, ⟨j3, hj3⟩⟩ := htp (y.toNat) (by omega)
      have hob := ho9
      refine lv_iconst (v := zI 0) hx hb qd_X_same_11 rfl ?_
      refine zz_top (b := ↑(0 : Nat)) rfl ?_
      refine rd_callB (va_runVN (As := [.int (zI (↑0)), .ref ((ta y.toNat)), .int (zI (↑0))]) (rest := []) ⟨hx, hb, hml, hown, hg⟩ (c_T_isSamePlace l dC dI cI cZ cT cJ (ta x.toNat) (tH x.toNat) (tP x.toNat) (tE x.toNat) (tn x.toNat) (TH x.toNat) (TM x.toNat) (TE x.toNat) (TG x.toNat) (ta y.toNat) (tH y.toNat) (tP y.toNat) (tE y.toNat) (tn y.toNat) (TH y.toNat) (TM y.toNat) (TE y.toNat) (TG y.toNat) 0 0 hoa.2.1 hob.2.1 (okT_hh hsy hoa) (okT_hh hsy hob) hoa.2.2.2.2.1 hob.2.2.2.2.1 hoa.1 hob.1) ⟨va_cnB 3 hg (gw_ok (fun _ h => h) wd_455) rfl rfl rfl (hN.use nw_492) (hg _ wd_13) (by decide +kernel) ⟨Nat.le_of_ble_eq_true rfl, Nat.le_of_ble_eq_true rfl⟩, hg _ wd_454, hg _ se_T_isSamePlace⟩ (rd_preV (va_recv (q0 := (k0 + 2)) hK hF rfl hk0) (pw_c (q := ((ta x.toNat), .inr (1, [.ref ((tH x.toNat)), .ref ((tP x.toNat)), .ref ((tE x.toNat)), .int (zI (↑(tn x.toNat))), .int (zI ((TG x.toNat)))]))) hF (k0 + 2) hk0 (pw_c (q := ((tH x.toNat), .inl (cI, (tn x.toNat), .inl (zA ((TH x.toNat)))))) hF (k1 + 2) hk1 (pw_c (q := ((tP x.toNat), .inl (cI, (tn x.toNat), .inl (zA ((TM x.toNat)))))) hF (k2 + 2) hk2 (pw_c (q := ((tE x.toNat), .inl (cI, (tn x.toNat), .inl (zA (eI ((TE x.toNat))))))) hF (k3 + 2) hk3 (pw_c (q := ((ta y.toNat), .inr (1, [.ref ((tH y.toNat)), .ref ((tP y.toNat)), .ref ((tE y.toNat)), .int (zI (↑(tn y.toNat))), .int (zI ((TG y.toNat)))]))) hF (j0 + 2) hj0 (pw_c (q := ((tH y.toNat), .inl (cI, (tn y.toNat), .inl (zA ((TH y.toNat)))))) hF (j1 + 2) hj1 (pw_c (q := ((tP y.toNat), .inl (cI, (tn y.toNat), .inl (zA ((TM y.toNat)))))) hF (j2 + 2) hj2 (pw_c (q := ((tE y.toNat), .inl (cI, (tn y.toNat), .inl (zA (eI ((TE y.toNat))))))) hF (j3 + 2) hj3 (pw_nil))))))))) hK hN) rfl rfl hl.1 rfl (lv_room (Nat.le_of_ble_eq_true rfl)) qd_X_same_12 ⟨Nat.le_of_ble_eq_true rfl, Nat.le_of_ble_eq_true rfl⟩).run (fun r12 hr12 => ?_)
      refine W.widen (k := 1) (n := 6) (by omega) (by omega) ?_
      refine vx_ret ?_
      exact W.zret (v := zI (bI r12)) (ty := .boolean) hx hb hr (bI_n _) (fun t9 ht9 hW9 => ⟨⟨r12, (), rfl, ⟨⟨hs2.1, hs2.2, hs8.1, hs8.2⟩, hr12⟩, mwB_i (by rw [ht9]; exact hP) (va_K.moved hW9.alike hK) hD⟩, hS.F ht9⟩) hS.2.2 qd_X_same_15
    · skip
      have hPc := hP.sub (ws' := []) [] rfl
      have hDc := hD.sub (ws' := []) [] (by decide) rfl
      have hFr := va_free (wc := []) hD hS hA [] rfl
      refine mx_callR (vx_runV (As := [.int (zI (y))]) (rest := [.int (zI (↑(0 : Nat))), .ref (ta x.toNat)]) ⟨hx, hb, hml, hown, hg⟩ (c_X_termOf_no l dC dI cI cZ cT cJ ox o aA aR aW aV sy ar rk wt sv od dH dP dE dT dz dt hd pcs de dh orr rL rR rB rc lf rf bd og oG gr ta tH tP tE tn TH TM TE TG HT LI RI pl tc xT tf y H2_1.size hst htc htf h32y hs8) ⟨callB_of 1 hg (gw_ok (fun _ h => h) wd_372) rfl rfl rfl (hg _ wd_1) (hg _ wd_369) (by decide +kernel) ⟨Nat.le_of_ble_eq_true rfl, Nat.le_of_ble_eq_true rfl⟩, hg _ wd_371, hg _ se_X_termOf⟩ (mx_preV (va_recv (q0 := 0) hK hF rfl rfl) hPc (pw_c (q := (ox, .inr (5, [.ref o, .ref od, .ref xT, .ref orr, .ref og, .int (zI (↑tc))]))) hF 0 rfl (pw_c (q := (xT, .inl (cT, 160, .inr (.inr (.inr (.inr tf)))))) hF 1 rfl (pw_nil))) hK hN hDc (apw_c (q := (ox, .inr (5, [.ref o, .ref od, .ref xT, .ref orr, .ref og, .int (zI (↑tc))]))) (apw_f hD [] rfl (hFA 0 _ rfl)) (apw_c (q := (xT, .inl (cT, 160, .inr (.inr (.inr (.inr tf)))))) (apw_f hD [] rfl (hFA 1 _ rfl)) (apw_nil))) (exH.narrow (exH.kept hE hS.2.1) hFr)) rfl rfl hl.1 rfl (lv_room (Nat.le_of_ble_eq_true rfl)) qd_X_same_8 ⟨Nat.le_of_ble_eq_true rfl, Nat.le_of_ble_eq_true rfl⟩) hS (fun q _ h => hFr q h) hFr (fun q _ h => hFr q h) (fun E9 ce9 q9 u9 t9 H8_3 L8_3 ht9 hv9 _ hx8 hz9 hk9 hS hc9 hcv9 hcl9 => ?_) (fun r8 u9 t9 H8_3 L8_3 ht9 hv9 hr8 hB9 hz9 hk9 hS => ?_)
      · skip
        obtain ⟨hx8, hB9⟩ := hx8
        try dsimp only at hx8 hB9
        obtain ⟨hP, hD⟩ := mw_join (wr := []) (w1 := []) hP hD [] [] rfl rfl (by decide) (by decide) hk9 hFr ht9 hB9
        have hP := hP.sub (ws' := []) [] rfl
        have hD := hD.sub (ws' := []) [] (by decide) rfl
        have hF := fz_keep hF0 hFA hS
        refine vx_widen (k := 1) (n := 6) (by omega) (by omega) ?_
        exact vx_out (fun x h => (htab x h).elim) hlocks hc9 hcv9 hcl9 (fun t9 g1 g2 => (fun w9 => ⟨(), trivial, ⟨⟨hx8, (fun z9 => hs8 ⟨z9.2.2.1, z9.2.2.2⟩)⟩, w9.1⟩, w9.2⟩) (zx_o hP hK hD hS g1 g2)) hS.2.2 (Nat.le_refl _) (Nat.le_refl _)
      · skip
        exact (hr8).elim
  · skip
    have hPc := hP.sub (ws' := []) [] rfl
    have hDc := hD.sub (ws' := []) [] (by decide) rfl
    have hFr := va_free (wc := []) hD hS hA [] rfl
    refine mx_callR (vx_runV (As := [.int (zI (x))]) (rest := []) ⟨hx, hb, hml, hown, hg⟩ (c_X_termOf_no l dC dI cI cZ cT cJ ox o aA aR aW aV sy ar rk wt sv od dH dP dE dT dz dt hd pcs de dh orr rL rR rB rc lf rf bd og oG gr ta tH tP tE tn TH TM TE TG HT LI RI pl tc xT tf x sg.heap.size hst htc htf h32x hs2) ⟨callB_of 1 hg (gw_ok (fun _ h => h) wd_372) rfl rfl rfl (hg _ wd_1) (hg _ wd_369) (by decide +kernel) ⟨Nat.le_of_ble_eq_true rfl, Nat.le_of_ble_eq_true rfl⟩, hg _ wd_371, hg _ se_X_termOf⟩ (mx_preV (va_recv (q0 := 0) hK hF rfl rfl) hPc (pw_c (q := (ox, .inr (5, [.ref o, .ref od, .ref xT, .ref orr, .ref og, .int (zI (↑tc))]))) hF 0 rfl (pw_c (q := (xT, .inl (cT, 160, .inr (.inr (.inr (.inr tf)))))) hF 1 rfl (pw_nil))) hK hN hDc (apw_c (q := (ox, .inr (5, [.ref o, .ref od, .ref xT, .ref orr, .ref og, .int (zI (↑tc))]))) (apw_f hD [] rfl (hFA 0 _ rfl)) (apw_c (q := (xT, .inl (cT, 160, .inr (.inr (.inr (.inr tf)))))) (apw_f hD [] rfl (hFA 1 _ rfl)) (apw_nil))) (exH.narrow (exH.kept hE hS.2.1) hFr)) rfl rfl hl.1 rfl (lv_room (Nat.le_of_ble_eq_true rfl)) qd_X_same_2 ⟨Nat.le_of_ble_eq_true rfl, Nat.le_of_ble_eq_true rfl⟩) hS (fun q _ h => hFr q h) hFr (fun q _ h => hFr q h) (fun E9 ce9 q9 u9 t9 H2_4 L2_4 ht9 hv9 _ hx2 hz9 hk9 hS hc9 hcv9 hcl9 => ?_) (fun r2 u9 t9 H2_4 L2_4 ht9 hv9 hr2 hB9 hz9 hk9 hS => ?_)
    · skip
      obtain ⟨hx2, hB9⟩ := hx2
      try dsimp only at hx2 hB9
      obtain ⟨hP, hD⟩ := mw_join (wr := []) (w1 := []) hP hD [] [] rfl rfl (by decide) (by decide) hk9 hFr ht9 hB9
      have hP := hP.sub (ws' := []) [] rfl
      have hD := hD.sub (ws' := []) [] (by decide) rfl
      have hF := fz_keep hF0 hFA hS
      refine vx_widen (k := 1) (n := 6) (by omega) (by omega) ?_
      exact vx_out (fun x h => (htab x h).elim) hlocks hc9 hcv9 hcl9 (fun t9 g1 g2 => (fun w9 => ⟨(), trivial, ⟨⟨hx2, (fun z9 => hs2 ⟨z9.1, z9.2.1⟩)⟩, w9.1⟩, w9.2⟩) (zx_o hP hK hD hS g1 g2)) hS.2.2 (Nat.le_refl _) (Nat.le_refl _)
    · skip
      exact (hr2).elim
set_option maxHeartbeats 4000000 in
set_option maxRecDepth 100000 in
theorem c_X_greater (l : Launch) (dC : Nat → ClassId) (dI : Nat → Nat → Nat) (cI cZ cT cJ : ClassId) (ox : Nat) (o aA aR aW aV sy : Nat) (ar rk wt sv : Nat → Int) (od dH dP dE dT dz : Nat) (dt : Bool) (hd pcs : Nat → Int) (de : Nat → Nat) (dh : Nat → Int) (orr rL rR rB rc : Nat) (lf rf : Nat → Option Nat) (bd : Nat → Int) (og oG : Nat) (gr : Nat → Bool) (ta tH tP tE tn : Nat → Nat) (TH TM : Nat → Nat → Int) (TE : Nat → Nat → Nat) (TG : Nat → Int) (HT : Nat → Nat → Int) (LI RI : Nat → Nat) (pl : va_W) (tc : Nat) (xT : Nat) (tf : Nat → Option Nat) (x y z : Int) (zh : Nat) (hst : l.stackTraces = false) (hsy : sy ≤ 5) (har : ∀ q, q < 5 → 0 ≤ ar q ∧ ar q ≤ 3) (hrk : ∀ q, q < 5 → 0 ≤ rk q ∧ rk q ≤ 4) (hwt : ∀ q, q < 5 → 0 ≤ wt q ∧ wt q ≤ 9) (htc : tc ≤ 160) (htf : ∀ t, t < tc → tf t = some (ta t)) (htp : ∀ t, t < tc → okT sy ar (tn t) (TH t) (TM t) (TE t) (HT t) ∧ tin pl cI (ta t) (tH t) (tP t) (tE t) (tn t) (TH t) (TM t) (TE t) (TG t)) (h32x : -2147483648 ≤ x ∧ x < 2147483648) (h32y : -2147483648 ≤ y ∧ y < 2147483648) (h32z : -2147483648 ≤ z ∧ z < 2147483648) : vx_Met l qy_X_greater qw_X_greater ({ frames := 7, cells := 1, slots := 6, locals := 123 }) (mxP (dC, dI) qcl (qty cI cZ cT cJ) nwL [(oG, .inl (cZ, 256, .inl (zB gr)))] ([(ox, .inr (5, [.ref o, .ref od, .ref xT, .ref orr, .ref og, .int (zI (↑tc))])), (xT, .inl (cT, 160, .inr (.inr (.inr (.inr tf))))), (og, .inr (3, [.ref o, .ref oG])), (o, .inr (0, [.ref aA, .ref aR, .ref aW, .ref aV, .int (zI (↑sy))])), (aA, .inl (cI, 5, .inl (zA ar))), (aR, .inl (cI, 5, .inl (zA rk))), (aW, .inl (cI, 5, .inl (zA wt))), (aV, .inl (cI, 5, .inl (zA sv)))] ++ pl) zh [.ref ox, .int (zI (x)), .int (zI (y)), .int (zI (z))]) (mwO (S := (Nat → Bool)) (fun r uq => (0 ≤ x ∧ x ≤ 1 ∧ 0 ≤ y ∧ y < tc ∧ 0 ≤ z ∧ z < tc) ∧ (r = true ↔ gtO x rk wt (TH y.toNat) (TE y.toNat) (TM y.toNat) (tn y.toNat) (TH z.toNat) (TE z.toNat) (TM z.toNat) (tn z.toNat))) (fun uq tq => mwB (dC, dI) qcl (qty cI cZ cT cJ) (va_A [(oG, .inl (cZ, 256, .inl (zB gr)))] zh) [(oG, .inl (cZ, 256, .inl (zB uq)))] tq) (va_A [(oG, .inl (cZ, 256, .inl (zB gr)))] zh)) (vx_X (S := Unit) (fun _ => True) (fun E uq tq => (E = "java/lang/IllegalArgumentException" ∧ ¬ (0 ≤ x ∧ x ≤ 1 ∧ 0 ≤ y ∧ y < tc ∧ 0 ≤ z ∧ z < tc)) ∧ mwB (dC, dI) qcl (qty cI cZ cT cJ) (va_A [(oG, .inl (cZ, 256, .inl (zB gr)))] zh) [(oG, .inl (cZ, 256, .inl (zB gr)))] tq) (va_A [(oG, .inl (cZ, 256, .inl (zB gr)))] zh)) 1 6 (va_A [(oG, .inl (cZ, 256, .inl (zB gr)))] zh) := by
  refine vx_ofW (cc := qc_X_greater) (maxL := 4) (ret := (Option.some Jvm.ClassFile.FieldType.boolean)) (by decide) rfl ?_
  intro pg eg sg mg args below meth cg s₁ B hml htab hv
  obtain ⟨rfl, ⟨hsz, hP, hF0, hK, hN, hD0, hap⟩, hE⟩ := hv
  have hx := B.exec
  have hb := B.bytes
  have hr := B.returns
  have hts := atoms_spec (ws := qw_X_greater) B.pre
  have hg : ∀ w ∈ gw, w.before _ sg = true := fun w h => hts w (List.mem_cons_of_mem _ h)
  have hown : sg.vm.findClass "TermOrders" = some mg.cls := findClass_of_methodNamed B.named
  have hlocks := B.notSynchronized
  have hl := lv_entry ([.ref ox, .int (zI (x)), .int (zI (y)), .int (zI (z))]) (n := 4) (Nat.le_of_ble_eq_true rfl)
  rw [lg_entry_eq]
  generalize (lg_sl ([.ref ox, .int (zI (x)), .int (zI (y)), .int (zI (z))]) ++ List.replicate (4 - (lg_sl ([.ref ox, .int (zI (x)), .int (zI (y)), .int (zI (z))])).length) Slot.unset).toArray = ls at hl ⊢
  subst hsz
  have hD := hD0.self (sz := sg.heap.size)
  have hFA := apw_A hap (fun k q hk => (hF0 k q hk).lt)
  generalize hAe : va_A [(oG, .inl (cZ, 256, .inl (zB gr)))] sg.heap.size = A at hD hFA hE ⊢
  have hA : ∀ q : Nat, sg.heap.size ≤ q → A q := fun q h => by rw [← hAe]; exact Or.inr h
  have hS : va_S A sg.heap sg.heap [] := va_S.rf
  have hF := hF0
  have hl : lv_has ls 4 [(0, .ref ox), (1, .int (zI (x))), (2, .int (zI (y))), (3, .int (zI (z)))] := hl
  refine lv_aload_n hx hb qd_X_greater_0 rfl (lv_at hl 0 rfl) ?_
  refine lv_iload_n hx hb qd_X_greater_1 rfl (lv_at hl 1 rfl) ?_
  by_cases hs2 : 0 ≤ x ∧ x ≤ 1
  · skip
    have hPc := hP.sub (ws' := []) [] rfl
    have hDc := hD.sub (ws' := []) [] (by decide) rfl
    have hFr := va_free (wc := []) hD hS hA [] rfl
    refine va_callv (va_runV (As := [.int (zI (x))]) (rest := []) ⟨hx, hb, hml, hown, hg⟩ (c_X_checkOrder_ok l dC dI cI cZ cT cJ ox o aA aR aW aV sy ar rk wt sv od dH dP dE dT dz dt hd pcs de dh orr rL rR rB rc lf rf bd og oG gr ta tH tP tE tn TH TM TE TG HT LI RI pl tc xT tf x sg.heap.size h32x hs2) ⟨callB_of 1 hg (gw_ok (fun _ h => h) wd_430) rfl rfl rfl (hg _ wd_1) (hg _ wd_427) (by decide +kernel) ⟨Nat.le_of_ble_eq_true rfl, Nat.le_of_ble_eq_true rfl⟩, hg _ wd_429, hg _ se_X_checkOrder⟩ (mw_preV (va_recv (q0 := 0) hK hF rfl rfl) hPc (pw_c (q := (ox, .inr (5, [.ref o, .ref od, .ref xT, .ref orr, .ref og, .int (zI (↑tc))]))) hF 0 rfl (pw_nil)) hK hN hDc (apw_c (q := (ox, .inr (5, [.ref o, .ref od, .ref xT, .ref orr, .ref og, .int (zI (↑tc))]))) (apw_f hD [] rfl (hFA 0 _ rfl)) (apw_nil))) rfl rfl hl.1 rfl (lv_room (Nat.le_of_ble_eq_true rfl)) qd_X_greater_2 ⟨Nat.le_of_ble_eq_true rfl, Nat.le_of_ble_eq_true rfl⟩) hS (fun q _ h => hFr q h) hFr (fun u9 t9 H2_1 L2_1 ht9 hv9 hr2 hB9 hz9 hk9 hS => ?_)
    obtain ⟨hP, hD⟩ := mw_join (wr := [(oG, .inl (cZ, 256, .inl (zB gr)))]) (w1 := []) hP hD [] [0] rfl rfl (by decide) (by decide) hk9 hFr ht9 hB9
    have hP := hP.sub (ws' := [(oG, .inl (cZ, 256, .inl (zB gr)))]) [0] rfl
    have hD := hD.sub (ws' := [(oG, .inl (cZ, 256, .inl (zB gr)))]) [0] (by decide) rfl
    have hF := fz_keep hF0 hFA hS
    refine lv_aload_n hx hb qd_X_greater_5 rfl (lv_at hl 0 rfl) ?_
    refine va_get (D := (dC, dI)) (ci := 5) (v := .ref og) (C := "TermOrders") (T := qT_X) (N := 6) hx hb hg qi_X hown hK hF 0 rfl rfl 4 (by decide) (hg _ wd_124) (fun _ h9 => h9) rfl qd_X_greater_6 ?_
    refine lv_iload_n hx hb qd_X_greater_9 rfl (lv_at hl 1 rfl) ?_
    refine lv_aload_n hx hb qd_X_greater_10 rfl (lv_at hl 0 rfl) ?_
    refine lv_iload_n hx hb qd_X_greater_11 rfl (lv_at hl 2 rfl) ?_
    by_cases hs12 : 0 ≤ y ∧ y < tc
    · skip
      have hPc := hP.sub (ws' := []) [] rfl
      have hDc := hD.sub (ws' := []) [] (by decide) rfl
      have hFr := va_free (wc := []) hD hS hA [] rfl
      refine mw_callE (va_runV (As := [.int (zI (y))]) (rest := [.int (zI (x)), .ref og]) ⟨hx, hb, hml, hown, hg⟩ (c_X_termOf_ok l dC dI cI cZ cT cJ ox o aA aR aW aV sy ar rk wt sv od dH dP dE dT dz dt hd pcs de dh orr rL rR rB rc lf rf bd og oG gr ta tH tP tE tn TH TM TE TG HT LI RI pl tc xT tf y H2_1.size htc htf h32y hs12) ⟨callB_of 1 hg (gw_ok (fun _ h => h) wd_372) rfl rfl rfl (hg _ wd_1) (hg _ wd_369) (by decide +kernel) ⟨Nat.le_of_ble_eq_true rfl, Nat.le_of_ble_eq_true rfl⟩, hg _ wd_371, hg _ se_X_termOf⟩ (mw_preV (va_recv (q0 := 0) hK hF rfl rfl) hPc (pw_c (q := (ox, .inr (5, [.ref o, .ref od, .ref xT, .ref orr, .ref og, .int (zI (↑tc))]))) hF 0 rfl (pw_c (q := (xT, .inl (cT, 160, .inr (.inr (.inr (.inr tf)))))) hF 1 rfl (pw_nil))) hK hN hDc (apw_c (q := (ox, .inr (5, [.ref o, .ref od, .ref xT, .ref orr, .ref og, .int (zI (↑tc))]))) (apw_f hD [] rfl (hFA 0 _ rfl)) (apw_c (q := (xT, .inl (cT, 160, .inr (.inr (.inr (.inr tf)))))) (apw_f hD [] rfl (hFA 1 _ rfl)) (apw_nil)))) rfl rfl hl.1 rfl (lv_room (Nat.le_of_ble_eq_true rfl)) qd_X_greater_12 ⟨Nat.le_of_ble_eq_true rfl, Nat.le_of_ble_eq_true rfl⟩) hS (fun q _ h => hFr q h) hFr (fun r12 u9 t9 H12_2 L12_2 ht9 hv9 hr12 hB9 hz9 hk9 hS => ?_)
      obtain ⟨hP, hD⟩ := mw_join (wr := [(oG, .inl (cZ, 256, .inl (zB gr)))]) (w1 := []) hP hD [] [0] rfl rfl (by decide) (by decide) hk9 hFr ht9 hB9
      have hP := hP.sub (ws' := [(oG, .inl (cZ, 256, .inl (zB gr)))]) [0] rfl
      have hD := hD.sub (ws' := [(oG, .inl (cZ, 256, .inl (zB gr)))]) [0] (by decide) rfl
      have hF := fz_keep hF0 hFA hS
      subst hr12
      obtain ⟨ho9, ⟨k0, hk0⟩, ⟨k1, hk1⟩, ⟨k2, hk2⟩, ⟨k3, hk3⟩⟩ := htp (y.toNat) (by omega)
      have hoa := ho9
      refine lv_aload_n hx hb qd_X_greater_15 rfl (lv_at hl 0 rfl) ?_
      refine lv_iload_n hx hb qd_X_greater_16 rfl (lv_at hl 3 rfl) ?_
      by_cases hs17 : 0 ≤ z ∧ z < tc
      · skip
        have hPc := hP.sub (ws' := []) [] rfl
        have hDc := hD.sub (ws' := []) [] (by decide) rfl
        have hFr := va_free (wc := []) hD hS hA [] rfl
        refine mw_callE (va_runV (As := [.int (zI (z))]) (rest := [.ref (ta y.toNat), .int (zI (x)), .ref og]) ⟨hx, hb, hml, hown, hg⟩ (c_X_termOf_ok l dC dI cI cZ cT cJ ox o aA aR aW aV sy ar rk wt sv od dH dP dE dT dz dt hd pcs de dh orr rL rR rB rc lf rf bd og oG gr ta tH tP tE tn TH TM TE TG HT LI RI pl tc xT tf z H12_2.size htc htf h32z hs17) ⟨callB_of 1 hg (gw_ok (fun _ h => h) wd_372) rfl rfl rfl (hg _ wd_1) (hg _ wd_369) (by decide +kernel) ⟨Nat.le_of_ble_eq_true rfl, Nat.le_of_ble_eq_true rfl⟩, hg _ wd_371, hg _ se_X_termOf⟩ (mw_preV (va_recv (q0 := 0) hK hF rfl rfl) hPc (pw_c (q := (ox, .inr (5, [.ref o, .ref od, .ref xT, .ref orr, .ref og, .int (zI (↑tc))]))) hF 0 rfl (pw_c (q := (xT, .inl (cT, 160, .inr (.inr (.inr (.inr tf)))))) hF 1 rfl (pw_nil))) hK hN hDc (apw_c (q := (ox, .inr (5, [.ref o, .ref od, .ref xT, .ref orr, .ref og, .int (zI (↑tc))]))) (apw_f hD [] rfl (hFA 0 _ rfl)) (apw_c (q := (xT, .inl (cT, 160, .inr (.inr (.inr (.inr tf)))))) (apw_f hD [] rfl (hFA 1 _ rfl)) (apw_nil)))) rfl rfl hl.1 rfl (lv_room (Nat.le_of_ble_eq_true rfl)) qd_X_greater_17 ⟨Nat.le_of_ble_eq_true rfl, Nat.le_of_ble_eq_true rfl⟩) hS (fun q _ h => hFr q h) hFr (fun r17 u9 t9 H17_3 L17_3 ht9 hv9 hr17 hB9 hz9 hk9 hS => ?_)
        obtain ⟨hP, hD⟩ := mw_join (wr := [(oG, .inl (cZ, 256, .inl (zB gr)))]) (w1 := []) hP hD [] [0] rfl rfl (by decide) (by decide) hk9 hFr ht9 hB9
        have hP := hP.sub (ws' := [(oG, .inl (cZ, 256, .inl (zB gr)))]) [0] rfl
        have hD := hD.sub (ws' := [(oG, .inl (cZ, 256, .inl (zB gr)))]) [0] (by decide) rfl
        have hF := fz_keep hF0 hFA hS
        subst hr17
        obtain ⟨ho9, ⟨j0, hj0⟩, ⟨j1, hj1⟩, ⟨j2, hj2⟩, ⟨j3, hj3⟩⟩ := htp (z.toNat) (by omega)
        have hob := ho9
        have hPc := hP.sub (ws' := [(oG, .inl (cZ, 256, .inl (zB gr)))]) [0] rfl
        have hDc := hD.sub (ws' := [(oG, .inl (cZ, 256, .inl (zB gr)))]) [0] (by decide) rfl
        have hFr := va_free (wc := [(oG, .inl (cZ, 256, .inl (zB gr)))]) hD hS hA [0] rfl
        refine mw_callO (va_runVN (As := [.int (zI (x)), .ref ((ta y.toNat)), .ref ((ta z.toNat))]) (rest := []) ⟨hx, hb, hml, hown, hg⟩ (c_O_isGreater l dC dI cI cZ cT cJ o aA aR aW aV sy ar rk wt sv og oG gr (ta y.toNat) (tH y.toNat) (tP y.toNat) (tE y.toNat) (tn y.toNat) (TH y.toNat) (TM y.toNat) (TE y.toNat) (TG y.toNat) (ta z.toNat) (tH z.toNat) (tP z.toNat) (tE z.toNat) (tn z.toNat) (TH z.toNat) (TM z.toNat) (TE z.toNat) (TG z.toNat) (HT y.toNat) x H17_3.size hrk hwt hoa.2.1 hob.2.1 (okT_hh hsy hoa) (okT_hh hsy hob) hoa.2.2.2.2.1 hob.2.2.2.2.1 (okT_hm hsy har hoa) (okT_hm hsy har hob) (okT_mm hoa hob) hoa.1 hob.1 (okT_mm hoa hoa) hoa.2.2.2.2.2.2.1 hoa.2.2.2.2.2.2.2 (by omega)) ⟨va_cnB 3 hg (gw_ok (fun _ h => h) wd_435) rfl rfl rfl (hN.use nw_432) (hg _ wd_5) (by decide +kernel) ⟨Nat.le_of_ble_eq_true rfl, Nat.le_of_ble_eq_true rfl⟩, hg _ wd_434, hg _ se_O_isGreater⟩ (mw_preV (va_recv (q0 := 2) hK hF rfl rfl) hPc (pw_c (q := (og, .inr (3, [.ref o, .ref oG]))) hF 2 rfl (pw_c (q := (o, .inr (0, [.ref aA, .ref aR, .ref aW, .ref aV, .int (zI (↑sy))]))) hF 3 rfl (pw_c (q := (aA, .inl (cI, 5, .inl (zA ar)))) hF 4 rfl (pw_c (q := (aR, .inl (cI, 5, .inl (zA rk)))) hF 5 rfl (pw_c (q := (aW, .inl (cI, 5, .inl (zA wt)))) hF 6 rfl (pw_c (q := (aV, .inl (cI, 5, .inl (zA sv)))) hF 7 rfl (pw_c (q := ((ta y.toNat), .inr (1, [.ref ((tH y.toNat)), .ref ((tP y.toNat)), .ref ((tE y.toNat)), .int (zI (↑(tn y.toNat))), .int (zI ((TG y.toNat)))]))) hF (k0 + 8) hk0 (pw_c (q := ((tH y.toNat), .inl (cI, (tn y.toNat), .inl (zA ((TH y.toNat)))))) hF (k1 + 8) hk1 (pw_c (q := ((tP y.toNat), .inl (cI, (tn y.toNat), .inl (zA ((TM y.toNat)))))) hF (k2 + 8) hk2 (pw_c (q := ((tE y.toNat), .inl (cI, (tn y.toNat), .inl (zA (eI ((TE y.toNat))))))) hF (k3 + 8) hk3 (pw_c (q := ((ta z.toNat), .inr (1, [.ref ((tH z.toNat)), .ref ((tP z.toNat)), .ref ((tE z.toNat)), .int (zI (↑(tn z.toNat))), .int (zI ((TG z.toNat)))]))) hF (j0 + 8) hj0 (pw_c (q := ((tH z.toNat), .inl (cI, (tn z.toNat), .inl (zA ((TH z.toNat)))))) hF (j1 + 8) hj1 (pw_c (q := ((tP z.toNat), .inl (cI, (tn z.toNat), .inl (zA ((TM z.toNat)))))) hF (j2 + 8) hj2 (pw_c (q := ((tE z.toNat), .inl (cI, (tn z.toNat), .inl (zA (eI ((TE z.toNat))))))) hF (j3 + 8) hj3 (pw_nil))))))))))))))) hK hN hDc (apw_c (q := (og, .inr (3, [.ref o, .ref oG]))) (apw_f hD [0] rfl (hFA 2 _ rfl)) (apw_c (q := (o, .inr (0, [.ref aA, .ref aR, .ref aW, .ref aV, .int (zI (↑sy))]))) (apw_f hD [0] rfl (hFA 3 _ rfl)) (apw_c (q := (aA, .inl (cI, 5, .inl (zA ar)))) (apw_f hD [0] rfl (hFA 4 _ rfl)) (apw_c (q := (aR, .inl (cI, 5, .inl (zA rk)))) (apw_f hD [0] rfl (hFA 5 _ rfl)) (apw_c (q := (aW, .inl (cI, 5, .inl (zA wt)))) (apw_f hD [0] rfl (hFA 6 _ rfl)) (apw_c (q := (aV, .inl (cI, 5, .inl (zA sv)))) (apw_f hD [0] rfl (hFA 7 _ rfl)) (apw_c (q := ((ta y.toNat), .inr (1, [.ref ((tH y.toNat)), .ref ((tP y.toNat)), .ref ((tE y.toNat)), .int (zI (↑(tn y.toNat))), .int (zI ((TG y.toNat)))]))) (apw_f hD [0] rfl (hFA (k0 + 8) _ hk0)) (apw_c (q := ((tH y.toNat), .inl (cI, (tn y.toNat), .inl (zA ((TH y.toNat)))))) (apw_f hD [0] rfl (hFA (k1 + 8) _ hk1)) (apw_c (q := ((tP y.toNat), .inl (cI, (tn y.toNat), .inl (zA ((TM y.toNat)))))) (apw_f hD [0] rfl (hFA (k2 + 8) _ hk2)) (apw_c (q := ((tE y.toNat), .inl (cI, (tn y.toNat), .inl (zA (eI ((TE y.toNat))))))) (apw_f hD [0] rfl (hFA (k3 + 8) _ hk3)) (apw_c (q := ((ta z.toNat), .inr (1, [.ref ((tH z.toNat)), .ref ((tP z.toNat)), .ref ((tE z.toNat)), .int (zI (↑(tn z.toNat))), .int (zI ((TG z.toNat)))]))) (apw_f hD [0] rfl (hFA (j0 + 8) _ hj0)) (apw_c (q := ((tH z.toNat), .inl (cI, (tn z.toNat), .inl (zA ((TH z.toNat)))))) (apw_f hD [0] rfl (hFA (j1 + 8) _ hj1)) (apw_c (q := ((tP z.toNat), .inl (cI, (tn z.toNat), .inl (zA ((TM z.toNat)))))) (apw_f hD [0] rfl (hFA (j2 + 8) _ hj2)) (apw_c (q := ((tE z.toNat), .inl (cI, (tn z.toNat), .inl (zA (eI ((TE z.toNat))))))) (apw_f hD [0] rfl (hFA (j3 + 8) _ hj3)) (apw_nil)))))))))))))))) rfl rfl hl.1 rfl (lv_room (Nat.le_of_ble_eq_true rfl)) qd_X_greater_20 ⟨Nat.le_of_ble_eq_true rfl, Nat.le_of_ble_eq_true rfl⟩) hS (fun q _ h => hFr q h) hFr (fun r20 gr3 t9 H20_4 L20_4 ht9 hv9 hr20 hB9 hz9 hk9 hS => ?_)
        try dsimp only at hr20 hB9
        obtain ⟨hP, hD⟩ := mw_join (wr := []) (w1 := [(oG, .inl (cZ, 256, .inl (zB gr3)))]) hP hD [0] [] rfl rfl (by decide) (by decide) hk9 hFr ht9 hB9
        have hP := hP.sub (ws' := [(oG, .inl (cZ, 256, .inl (zB gr3)))]) [0] rfl
        have hD := hD.sub (ws' := [(oG, .inl (cZ, 256, .inl (zB gr3)))]) [0] (by decide) rfl
        have hF := fz_keep hF0 hFA hS
        refine W.widen (k := 1) (n := 6) (by omega) (by omega) ?_
        refine vx_ret ?_
        exact W.zret (v := zI (bI r20)) (ty := .boolean) hx hb hr (bI_n _) (fun t9 ht9 hW9 => ⟨⟨r20, gr3, rfl, ⟨⟨hs2.1, hs2.2, hs12.1, hs12.2, hs17.1, hs17.2⟩, hr20⟩, mwB_i (by rw [ht9]; exact hP) (va_K.moved hW9.alike hK) hD⟩, hS.F ht9⟩) hS.2.2 qd_X_greater_23
      · skip
        have hPc := hP.sub (ws' := []) [] rfl
        have hDc := hD.sub (ws' := []) [] (by decide) rfl
        have hFr := va_free (wc := []) hD hS hA [] rfl
        refine mx_callR (vx_runV (As := [.int (zI (z))]) (rest := [.ref (ta y.toNat), .int (zI (x)), .ref og]) ⟨hx, hb, hml, hown, hg⟩ (c_X_termOf_no l dC dI cI cZ cT cJ ox o aA aR aW aV sy ar rk wt sv od dH dP dE dT dz dt hd pcs de dh orr rL rR rB rc lf rf bd og oG gr ta tH tP tE tn TH TM TE TG HT LI RI pl tc xT tf z H12_2.size hst htc htf h32z hs17) ⟨callB_of 1 hg (gw_ok (fun _ h => h) wd_372) rfl rfl rfl (hg _ wd_1) (hg _ wd_369) (by decide +kernel) ⟨Nat.le_of_ble_eq_true rfl, Nat.le_of_ble_eq_true rfl⟩, hg _ wd_371, hg _ se_X_termOf⟩ (mx_preV (va_recv (q0 := 0) hK hF rfl rfl) hPc (pw_c (q := (ox, .inr (5, [.ref o, .ref od, .ref xT, .ref orr, .ref og, .int (zI (↑tc))]))) hF 0 rfl (pw_c (q := (xT, .inl (cT, 160, .inr (.inr (.inr (.inr tf)))))) hF 1 rfl (pw_nil))) hK hN hDc (apw_c (q := (ox, .inr (5, [.ref o, .ref od, .ref xT, .ref orr, .ref og, .int (zI (↑tc))]))) (apw_f hD [] rfl (hFA 0 _ rfl)) (apw_c (q := (xT, .inl (cT, 160, .inr (.inr (.inr (.inr tf)))))) (apw_f hD [] rfl (hFA 1 _ rfl)) (apw_nil))) (exH.narrow (exH.kept hE hS.2.1) hFr)) rfl rfl hl.1 rfl (lv_room (Nat.le_of_ble_eq_true rfl)) qd_X_greater_17 ⟨Nat.le_of_ble_eq_true rfl, Nat.le_of_ble_eq_true rfl⟩) hS (fun q _ h => hFr q h) hFr (fun q _ h => hFr q h) (fun E9 ce9 q9 u9 t9 H17_5 L17_5 ht9 hv9 _ hx17 hz9 hk9 hS hc9 hcv9 hcl9 => ?_) (fun r17 u9 t9 H17_5 L17_5 ht9 hv9 hr17 hB9 hz9 hk9 hS => ?_)
        · skip
          obtain ⟨hx17, hB9⟩ := hx17
          try dsimp only at hx17 hB9
          obtain ⟨hP, hD⟩ := mw_join (wr := [(oG, .inl (cZ, 256, .inl (zB gr)))]) (w1 := []) hP hD [] [0] rfl rfl (by decide) (by decide) hk9 hFr ht9 hB9
          have hP := hP.sub (ws' := [(oG, .inl (cZ, 256, .inl (zB gr)))]) [0] rfl
          have hD := hD.sub (ws' := [(oG, .inl (cZ, 256, .inl (zB gr)))]) [0] (by decide) rfl
          have hF := fz_keep hF0 hFA hS
          refine vx_widen (k := 1) (n := 6) (by omega) (by omega) ?_
          exact vx_out (fun x h => (htab x h).elim) hlocks hc9 hcv9 hcl9 (fun t9 g1 g2 => (fun w9 => ⟨(), trivial, ⟨⟨hx17, (fun z9 => hs17 ⟨z9.2.2.2.2.1, z9.2.2.2.2.2⟩)⟩, w9.1⟩, w9.2⟩) (zx_o hP hK hD hS g1 g2)) hS.2.2 (Nat.le_refl _) (Nat.le_refl _)
        · skip
          exact (hr17).elim
    · skip
      have hPc := hP.sub (ws' := []) [] rfl
      have hDc := hD.sub (ws' := []) [] (by decide) rfl
      have hFr := va_free (wc := []) hD hS hA [] rfl
      refine mx_callR (vx_runV (As := [.int (zI (y))]) (rest := [.int (zI (x)), .ref og]) ⟨hx, hb, hml, hown, hg⟩ (c_X_termOf_no l dC dI cI cZ cT cJ ox o aA aR aW aV sy ar rk wt sv od dH dP dE dT dz dt hd pcs de dh orr rL rR rB rc lf rf bd og oG gr ta tH tP tE tn TH TM TE TG HT LI RI pl tc xT tf y H2_1.size hst htc htf h32y hs12) ⟨callB_of 1 hg (gw_ok (fun _ h => h) wd_372) rfl rfl rfl (hg _ wd_1) (hg _ wd_369) (by decide +kernel) ⟨Nat.le_of_ble_eq_true rfl, Nat.le_of_ble_eq_true rfl⟩, hg _ wd_371, hg _ se_X_termOf⟩ (mx_preV (va_recv (q0 := 0) hK hF rfl rfl) hPc (pw_c (q := (ox, .inr (5, [.ref o, .ref od, .ref xT, .ref orr, .ref og, .int (zI (↑tc))]))) hF 0 rfl (pw_c (q := (xT, .inl (cT, 160, .inr (.inr (.inr (.inr tf)))))) hF 1 rfl (pw_nil))) hK hN hDc (apw_c (q := (ox, .inr (5, [.ref o, .ref od, .ref xT, .ref orr, .ref og, .int (zI (↑tc))]))) (apw_f hD [] rfl (hFA 0 _ rfl)) (apw_c (q := (xT, .inl (cT, 160, .inr (.inr (.inr (.inr tf)))))) (apw_f hD [] rfl (hFA 1 _ rfl)) (apw_nil))) (exH.narrow (exH.kept hE hS.2.1) hFr)) rfl rfl hl.1 rfl (lv_room (Nat.le_of_ble_eq_true rfl)) qd_X_greater_12 ⟨Nat.le_of_ble_eq_true rfl, Nat.le_of_ble_eq_true rfl⟩) hS (fun q _ h => hFr q h) hFr (fun q _ h => hFr q h) (fun E9 ce9 q9 u9 t9 H12_6 L12_6 ht9 hv9 _ hx12 hz9 hk9 hS hc9 hcv9 hcl9 => ?_) (fun r12 u9 t9 H12_6 L12_6 ht9 hv9 hr12 hB9 hz9 hk9 hS => ?_)
      · skip
        obtain ⟨hx12, hB9⟩ := hx12
        try dsimp only at hx12 hB9
        obtain ⟨hP, hD⟩ := mw_join (wr := [(oG, .inl (cZ, 256, .inl (zB gr)))]) (w1 := []) hP hD [] [0] rfl rfl (by decide) (by decide) hk9 hFr ht9 hB9
        have hP := hP.sub (ws' := [(oG, .inl (cZ, 256, .inl (zB gr)))]) [0] rfl
        have hD := hD.sub (ws' := [(oG, .inl (cZ, 256, .inl (zB gr)))]) [0] (by decide) rfl
        have hF := fz_keep hF0 hFA hS
        refine vx_widen (k := 1) (n := 6) (by omega) (by omega) ?_
        exact vx_out (fun x h => (htab x h).elim) hlocks hc9 hcv9 hcl9 (fun t9 g1 g2 => (fun w9 => ⟨(), trivial, ⟨⟨hx12, (fun z9 => hs12 ⟨z9.2.2.1, z9.2.2.2.1⟩)⟩, w9.1⟩, w9.2⟩) (zx_o hP hK hD hS g1 g2)) hS.2.2 (Nat.le_refl _) (Nat.le_refl _)
      · skip
        exact (hr12).elim
  · skip
    have hPc := hP.sub (ws' := []) [] rfl
    have hDc := hD.sub (ws' := []) [] (by decide) rfl
    have hFr := va_free (wc := []) hD hS hA [] rfl
    refine vx_callv (vx_runV (As := [.int (zI (x))]) (rest := []) ⟨hx, hb, hml, hown, hg⟩ (c_X_checkOrder_no l dC dI cI cZ cT cJ ox o aA aR aW aV sy ar rk wt sv od dH dP dE dT dz dt hd pcs de dh orr rL rR rB rc lf rf bd og oG gr ta tH tP tE tn TH TM TE TG HT LI RI pl tc xT tf x sg.heap.size hst h32x hs2) ⟨callB_of 1 hg (gw_ok (fun _ h => h) wd_430) rfl rfl rfl (hg _ wd_1) (hg _ wd_427) (by decide +kernel) ⟨Nat.le_of_ble_eq_true rfl, Nat.le_of_ble_eq_true rfl⟩, hg _ wd_429, hg _ se_X_checkOrder⟩ (mx_preV (va_recv (q0 := 0) hK hF rfl rfl) hPc (pw_c (q := (ox, .inr (5, [.ref o, .ref od, .ref xT, .ref orr, .ref og, .int (zI (↑tc))]))) hF 0 rfl (pw_nil)) hK hN hDc (apw_c (q := (ox, .inr (5, [.ref o, .ref od, .ref xT, .ref orr, .ref og, .int (zI (↑tc))]))) (apw_f hD [] rfl (hFA 0 _ rfl)) (apw_nil)) (exH.narrow (exH.kept hE hS.2.1) hFr)) rfl rfl hl.1 rfl (lv_room (Nat.le_of_ble_eq_true rfl)) qd_X_greater_2 ⟨Nat.le_of_ble_eq_true rfl, Nat.le_of_ble_eq_true rfl⟩) hS (fun q _ h => hFr q h) hFr (fun q _ h => hFr q h) (fun E9 ce9 q9 u9 t9 H2_7 L2_7 ht9 hv9 _ hx2 hz9 hk9 hS hc9 hcv9 hcl9 => ?_) (fun u9 t9 H2_7 L2_7 ht9 hv9 hr2 hB9 hz9 hk9 hS => ?_)
    · skip
      obtain ⟨hx2, hB9⟩ := hx2
      try dsimp only at hx2 hB9
      obtain ⟨hP, hD⟩ := mw_join (wr := [(oG, .inl (cZ, 256, .inl (zB gr)))]) (w1 := []) hP hD [] [0] rfl rfl (by decide) (by decide) hk9 hFr ht9 hB9
      have hP := hP.sub (ws' := [(oG, .inl (cZ, 256, .inl (zB gr)))]) [0] rfl
      have hD := hD.sub (ws' := [(oG, .inl (cZ, 256, .inl (zB gr)))]) [0] (by decide) rfl
      have hF := fz_keep hF0 hFA hS
      refine vx_widen (k := 1) (n := 6) (by omega) (by omega) ?_
      exact vx_out (fun x h => (htab x h).elim) hlocks hc9 hcv9 hcl9 (fun t9 g1 g2 => (fun w9 => ⟨(), trivial, ⟨⟨hx2, (fun z9 => hs2 ⟨z9.1, z9.2.1⟩)⟩, w9.1⟩, w9.2⟩) (zx_o hP hK hD hS g1 g2)) hS.2.2 (Nat.le_refl _) (Nat.le_refl _)
    · skip
      exact (hr2).elim
set_option maxHeartbeats 4000000 in
set_option maxRecDepth 100000 in
theorem c_X_oriented (l : Launch) (dC : Nat → ClassId) (dI : Nat → Nat → Nat) (cI cZ cT cJ : ClassId) (ox : Nat) (o aA aR aW aV sy : Nat) (ar rk wt sv : Nat → Int) (od dH dP dE dT dz : Nat) (dt : Bool) (hd pcs : Nat → Int) (de : Nat → Nat) (dh : Nat → Int) (orr rL rR rB rc : Nat) (lf rf : Nat → Option Nat) (bd : Nat → Int) (og oG : Nat) (gr : Nat → Bool) (ta tH tP tE tn : Nat → Nat) (TH TM : Nat → Nat → Int) (TE : Nat → Nat → Nat) (TG : Nat → Int) (HT : Nat → Nat → Int) (LI RI : Nat → Nat) (pl : va_W) (tc : Nat) (xT : Nat) (tf : Nat → Option Nat) (x : Int) (zh : Nat) (hst : l.stackTraces = false) (hsy : sy ≤ 5) (har : ∀ q, q < 5 → 0 ≤ ar q ∧ ar q ≤ 3) (hrk : ∀ q, q < 5 → 0 ≤ rk q ∧ rk q ≤ 4) (hwt : ∀ q, q < 5 → 0 ≤ wt q ∧ wt q ≤ 9) (htp : ∀ t, t < tc → okT sy ar (tn t) (TH t) (TM t) (TE t) (HT t) ∧ tin pl cI (ta t) (tH t) (tP t) (tE t) (tn t) (TH t) (TM t) (TE t) (TG t)) (hlr : ∀ r, r < rc → LI r < tc ∧ RI r < tc ∧ lf r = some (ta (LI r)) ∧ rf r = some (ta (RI r)) ∧ ∀ q, q < tn (RI r) → TH (RI r) q < 0 → ∃ k, k < tn (LI r) ∧ TH (LI r) k = TH (RI r) q) (hrc : rc ≤ 8) (h32x : -2147483648 ≤ x ∧ x < 2147483648) : vx_Met l qy_X_oriented qw_X_oriented ({ frames := 7, cells := 1, slots := 6, locals := 123 }) (mxP (dC, dI) qcl (qty cI cZ cT cJ) nwL [(oG, .inl (cZ, 256, .inl (zB gr)))] ([(ox, .inr (5, [.ref o, .ref od, .ref xT, .ref orr, .ref og, .int (zI (↑tc))])), (orr, .inr (4, [.ref rL, .ref rR, .ref rB, .int (zI (↑rc))])), (rL, .inl (cT, 8, .inr (.inr (.inr (.inr lf))))), (rR, .inl (cT, 8, .inr (.inr (.inr (.inr rf))))), (og, .inr (3, [.ref o, .ref oG])), (o, .inr (0, [.ref aA, .ref aR, .ref aW, .ref aV, .int (zI (↑sy))])), (aA, .inl (cI, 5, .inl (zA ar))), (aR, .inl (cI, 5, .inl (zA rk))), (aW, .inl (cI, 5, .inl (zA wt))), (aV, .inl (cI, 5, .inl (zA sv)))] ++ pl) zh [.ref ox, .int (zI (x))]) (va_Qi (S := (Nat → Bool)) (fun r uq => (0 ≤ x ∧ x ≤ 1) ∧ r = obI (fun r => gtO x rk wt (TH (LI r)) (TE (LI r)) (TM (LI r)) (tn (LI r)) (TH (RI r)) (TE (RI r)) (TM (RI r)) (tn (RI r))) rc) (fun uq tq => mwB (dC, dI) qcl (qty cI cZ cT cJ) (va_A [(oG, .inl (cZ, 256, .inl (zB gr)))] zh) [(oG, .inl (cZ, 256, .inl (zB uq)))] tq) (va_A [(oG, .inl (cZ, 256, .inl (zB gr)))] zh)) (vx_X (S := Unit) (fun _ => True) (fun E uq tq => (E = "java/lang/IllegalArgumentException" ∧ ¬ (0 ≤ x ∧ x ≤ 1)) ∧ mwB (dC, dI) qcl (qty cI cZ cT cJ) (va_A [(oG, .inl (cZ, 256, .inl (zB gr)))] zh) [(oG, .inl (cZ, 256, .inl (zB gr)))] tq) (va_A [(oG, .inl (cZ, 256, .inl (zB gr)))] zh)) 1 6 (va_A [(oG, .inl (cZ, 256, .inl (zB gr)))] zh) := by
  refine vx_ofW (cc := qc_X_oriented) (maxL := 4) (ret := (Option.some Jvm.ClassFile.FieldType.int)) (by decide) rfl ?_
  intro pg eg sg mg args below meth cg s₁ B hml htab hv
  obtain ⟨rfl, ⟨hsz, hP, hF0, hK, hN, hD0, hap⟩, hE⟩ := hv
  have hx := B.exec
  have hb := B.bytes
  have hr := B.returns
  have hts := atoms_spec (ws := qw_X_oriented) B.pre
  have hg : ∀ w ∈ gw, w.before _ sg = true := fun w h => hts w (List.mem_cons_of_mem _ h)
  have hown : sg.vm.findClass "TermOrders" = some mg.cls := findClass_of_methodNamed B.named
  have hlocks := B.notSynchronized
  have hl := lv_entry ([.ref ox, .int (zI (x))]) (n := 4) (Nat.le_of_ble_eq_true rfl)
  rw [lg_entry_eq]
  generalize (lg_sl ([.ref ox, .int (zI (x))]) ++ List.replicate (4 - (lg_sl ([.ref ox, .int (zI (x))])).length) Slot.unset).toArray = ls at hl ⊢
  subst hsz
  have hD := hD0.self (sz := sg.heap.size)
  have hFA := apw_A hap (fun k q hk => (hF0 k q hk).lt)
  generalize hAe : va_A [(oG, .inl (cZ, 256, .inl (zB gr)))] sg.heap.size = A at hD hFA hE ⊢
  have hA : ∀ q : Nat, sg.heap.size ≤ q → A q := fun q h => by rw [← hAe]; exact Or.inr h
  have hS : va_S A sg.heap sg.heap [] := va_S.rf
  have hF := hF0
  have hl : lv_has ls 4 [(0, .ref ox), (1, .int (zI (x)))] := hl
  refine lv_aload_n hx hb qd_X_oriented_0 rfl (lv_at hl 0 rfl) ?_
  refine lv_iload_n hx hb qd_X_oriented_1 rfl (lv_at hl 1 rfl) ?_
  by_cases hs2 : 0 ≤ x ∧ x ≤ 1
  · skip
    have hPc := hP.sub (ws' := []) [] rfl
    have hDc := hD.sub (ws' := []) [] (by decide) rfl
    have hFr := va_free (wc := []) hD hS hA [] rfl
    refine va_callv (va_runV (As := [.int (zI (x))]) (rest := []) ⟨hx, hb, hml, hown, hg⟩ (c_X_checkOrder_ok l dC dI cI cZ cT cJ ox o aA aR aW aV sy ar rk wt sv od dH dP dE dT dz dt hd pcs de dh orr rL rR rB rc lf rf bd og oG gr ta tH tP tE tn TH TM TE TG HT LI RI pl tc xT tf x sg.heap.size h32x hs2) ⟨callB_of 1 hg (gw_ok (fun _ h => h) wd_430) rfl rfl rfl (hg _ wd_1) (hg _ wd_427) (by decide +kernel) ⟨Nat.le_of_ble_eq_true rfl, Nat.le_of_ble_eq_true rfl⟩, hg _ wd_429, hg _ se_X_checkOrder⟩ (mw_preV (va_recv (q0 := 0) hK hF rfl rfl) hPc (pw_c (q := (ox, .inr (5, [.ref o, .ref od, .ref xT, .ref orr, .ref og, .int (zI (↑tc))]))) hF 0 rfl (pw_nil)) hK hN hDc (apw_c (q := (ox, .inr (5, [.ref o, .ref od, .ref xT, .ref orr, .ref og, .int (zI (↑tc))]))) (apw_f hD [] rfl (hFA 0 _ rfl)) (apw_nil))) rfl rfl hl.1 rfl (lv_room (Nat.le_of_ble_eq_true rfl)) qd_X_oriented_2 ⟨Nat.le_of_ble_eq_true rfl, Nat.le_of_ble_eq_true rfl⟩) hS (fun q _ h => hFr q h) hFr (fun u9 t9 H2_1 L2_1 ht9 hv9 hr2 hB9 hz9 hk9 hS => ?_)
    obtain ⟨hP, hD⟩ := mw_join (wr := [(oG, .inl (cZ, 256, .inl (zB gr)))]) (w1 := []) hP hD [] [0] rfl rfl (by decide) (by decide) hk9 hFr ht9 hB9
    have hP := hP.sub (ws' := [(oG, .inl (cZ, 256, .inl (zB gr)))]) [0] rfl
    have hD := hD.sub (ws' := [(oG, .inl (cZ, 256, .inl (zB gr)))]) [0] (by decide) rfl
    have hF := fz_keep hF0 hFA hS
    refine lv_iconst (v := zI 0) hx hb qd_X_oriented_5 rfl ?_
    refine lv_istore_n (lv' := [(2, .int (zI 0)), (0, .ref ox), (1, .int (zI (x)))]) hx hb qd_X_oriented_6 rfl hl (by decide) rfl (fun ls hl => ?_)
    refine lv_iconst (v := zI 0) hx hb qd_X_oriented_7 rfl ?_
    refine lv_istore_n (lv' := [(3, .int (zI (0))), (2, .int (zI 0)), (0, .ref ox), (1, .int (zI (x)))]) hx hb qd_X_oriented_8 rfl hl (by decide) rfl (fun ls hl => ?_)
    have L9 : ∀ (mu9 : Nat) (i : Nat) (gz : Nat → Bool), (i ≤ rc) → rc - i = mu9 → ∀ (H9_2 : Heap) (L9_2 : List Loc), va_P (dC, dI) qcl [(oG, .inl (cZ, 256, .inl (zB gz)))] H9_2 → va_D A [(oG, .inl (cZ, 256, .inl (zB gz)))] → va_S A sg.heap H9_2 L9_2 → ∀ ls : Array Slot, lv_has ls 4 [(3, .int (zI (↑i))), (2, .int (obI (fun r => gtO x rk wt (TH (LI r)) (TE (LI r)) (TM (LI r)) (tn (LI r)) (TH (RI r)) (TE (RI r)) (TM (RI r)) (tn (RI r))) i)), (0, .ref ox), (1, .int (zI (x)))] → W pg l eg (headSpec qw_X_oriented ({ frames := 7, cells := 1, slots := 6, locals := 123 })).room sg mg ([.ref ox, .int (zI (x))] : List Value).toArray below meth cg H9_2 L9_2 0 0 (vx_MQ below (va_Qi (S := (Nat → Bool)) (fun r uq => (0 ≤ x ∧ x ≤ 1) ∧ r = obI (fun r => gtO x rk wt (TH (LI r)) (TE (LI r)) (TM (LI r)) (tn (LI r)) (TH (RI r)) (TE (RI r)) (TM (RI r)) (tn (RI r))) rc) (fun uq tq => mwB (dC, dI) qcl (qty cI cZ cT cJ) A [(oG, .inl (cZ, 256, .inl (zB uq)))] tq) A) (vx_X (S := Unit) (fun _ => True) (fun E uq tq => (E = "java/lang/IllegalArgumentException" ∧ ¬ (0 ≤ x ∧ x ≤ 1)) ∧ mwB (dC, dI) qcl (qty cI cZ cT cJ) A [(oG, .inl (cZ, 256, .inl (zB gr)))] tq) A) ([.ref ox, .int (zI (x))] : List Value).toArray sg 1 6 A) (F0 mg 9 ls []) := by
      intro mu9
      induction mu9 using Nat.strongRecOn with
      | _ mu9 ih9 =>
        intro i gz hi hmu9 H9_2 L9_2 hP hD hS ls hl
        have hF := fz_keep hF0 hFA hS
        refine lv_iload_n hx hb qd_X_oriented_9 rfl (lv_at hl 0 rfl) ?_
        refine lv_aload_n hx hb qd_X_oriented_10 rfl (lv_at hl 2 rfl) ?_
        refine va_get (D := (dC, dI)) (ci := 5) (v := .ref orr) (C := "TermOrders") (T := qT_X) (N := 6) hx hb hg qi_X hown hK hF 0 rfl rfl 3 (by decide) (hg _ wd_123) (fun _ h9 => h9) rfl qd_X_oriented_11 ?_
        refine va_getN (D := (dC, dI)) (ci := 4) (v := .int (zI (↑rc))) (C := "TermOrders$Rules") (T := qT_R) (N := 4) hx hb hg qi_R hown hK hF 1 rfl rfl 3 (by decide) (va_Nw.use rfl (hN.use nw_96)) (fun _ h9 => h9) rfl qd_X_oriented_14 ?_
        refine zz_icmp_ge (tgt := 61) hx hb qd_X_oriented_17 (by decide) (by omega) (by omega) (fun h17 => ?_) (fun h17 => ?_)
        · skip
          have hie : i = rc := by omega
          rw [hie] at hl
          refine lv_iload_n hx hb qd_X_oriented_61 rfl (lv_at hl 1 rfl) ?_
          refine W.widen (k := 1) (n := 6) (by omega) (by omega) ?_
          refine vx_ret ?_
          exact W.iret (v := obI (fun r => gtO x rk wt (TH (LI r)) (TE (LI r)) (TM (LI r)) (tn (LI r)) (TH (RI r)) (TE (RI r)) (TM (RI r)) (tn (RI r))) rc) hx hb hr (fun t9 ht9 hW9 => ⟨⟨obI (fun r => gtO x rk wt (TH (LI r)) (TE (LI r)) (TM (LI r)) (tn (LI r)) (TH (RI r)) (TE (RI r)) (TM (RI r)) (tn (RI r))) rc, gz, rfl, ⟨hs2, rfl⟩, mwB_i (by rw [ht9]; exact hP) (va_K.moved hW9.alike hK) hD⟩, hS.F ht9⟩) hS.2.2 qd_X_oriented_62
        · skip
          obtain ⟨hu1, hu2, hu3, hu4, hu5⟩ := hlr i (by omega)
          obtain ⟨ho9, ⟨k0, hk0⟩, ⟨k1, hk1⟩, ⟨k2, hk2⟩, ⟨k3, hk3⟩⟩ := htp (LI i) hu1
          have hoa := ho9
          obtain ⟨ho9, ⟨j0, hj0⟩, ⟨j1, hj1⟩, ⟨j2, hj2⟩, ⟨j3, hj3⟩⟩ := htp (RI i) hu2
          have hob := ho9
          refine lv_aload_n hx hb qd_X_oriented_20 rfl (lv_at hl 2 rfl) ?_
          refine va_get (D := (dC, dI)) (ci := 5) (v := .ref og) (C := "TermOrders") (T := qT_X) (N := 6) hx hb hg qi_X hown hK hF 0 rfl rfl 4 (by decide) (hg _ wd_124) (fun _ h9 => h9) rfl qd_X_oriented_21 ?_
          refine lv_iload_n hx hb qd_X_oriented_24 rfl (lv_at hl 3 rfl) ?_
          refine lv_aload_n hx hb qd_X_oriented_25 rfl (lv_at hl 2 rfl) ?_
          refine va_get (D := (dC, dI)) (ci := 5) (v := .ref orr) (C := "TermOrders") (T := qT_X) (N := 6) hx hb hg qi_X hown hK hF 0 rfl rfl 3 (by decide) (hg _ wd_123) (fun _ h9 => h9) rfl qd_X_oriented_26 ?_
          refine va_getN (D := (dC, dI)) (ci := 4) (v := .ref rL) (C := "TermOrders$Rules") (T := qT_R) (N := 4) hx hb hg qi_R hown hK hF 1 rfl rfl 0 (by decide) (va_Nw.use rfl (hN.use nw_91)) (fun _ h9 => h9) rfl qd_X_oriented_29 ?_
          refine lv_iload_n hx hb qd_X_oriented_32 rfl (lv_at hl 0 rfl) ?_
          refine zz_aald hx hb hK hF 2 2 rfl rfl i rfl (by omega) (by omega) (r := (ta (LI i))) hu3 qd_X_oriented_33 ?_
          refine lv_aload_n hx hb qd_X_oriented_34 rfl (lv_at hl 2 rfl) ?_
          refine va_get (D := (dC, dI)) (ci := 5) (v := .ref orr) (C := "TermOrders") (T := qT_X) (N := 6) hx hb hg qi_X hown hK hF 0 rfl rfl 3 (by decide) (hg _ wd_123) (fun _ h9 => h9) rfl qd_X_oriented_35 ?_
          refine va_getN (D := (dC, dI)) (ci := 4) (v := .ref rR) (C := "TermOrders$Rules") (T := qT_R) (N := 4) hx hb hg qi_R hown hK hF 1 rfl rfl 1 (by decide) (va_Nw.use rfl (hN.use nw_93)) (fun _ h9 => h9) rfl qd_X_oriented_38 ?_
          refine lv_iload_n hx hb qd_X_oriented_41 rfl (lv_at hl 0 rfl) ?_
          refine zz_aald hx hb hK hF 3 2 rfl rfl i rfl (by omega) (by omega) (r := (ta (RI i))) hu4 qd_X_oriented_42 ?_
          have hPc := hP.sub (ws' := [(oG, .inl (cZ, 256, .inl (zB gz)))]) [0] rfl
          have hDc := hD.sub (ws' := [(oG, .inl (cZ, 256, .inl (zB gz)))]) [0] (by decide) rfl
          have hFr := va_free (wc := [(oG, .inl (cZ, 256, .inl (zB gz)))]) hD hS hA [0] rfl
          refine mw_callO (va_runVN (As := [.int (zI (x)), .ref ((ta (LI i))), .ref ((ta (RI i)))]) (rest := []) ⟨hx, hb, hml, hown, hg⟩ (c_O_isGreater l dC dI cI cZ cT cJ o aA aR aW aV sy ar rk wt sv og oG gz (ta (LI i)) (tH (LI i)) (tP (LI i)) (tE (LI i)) (tn (LI i)) (TH (LI i)) (TM (LI i)) (TE (LI i)) (TG (LI i)) (ta (RI i)) (tH (RI i)) (tP (RI i)) (tE (RI i)) (tn (RI i)) (TH (RI i)) (TM (RI i)) (TE (RI i)) (TG (RI i)) (HT (LI i)) x H9_2.size hrk hwt hoa.2.1 hob.2.1 (okT_hh hsy hoa) (okT_hh hsy hob) hoa.2.2.2.2.1 hob.2.2.2.2.1 (okT_hm hsy har hoa) (okT_hm hsy har hob) (okT_mm hoa hob) hoa.1 hob.1 (okT_mm hoa hoa) hoa.2.2.2.2.2.2.1 hoa.2.2.2.2.2.2.2 (by omega)) ⟨va_cnB 3 hg (gw_ok (fun _ h => h) wd_435) rfl rfl rfl (hN.use nw_432) (hg _ wd_5) (by decide +kernel) ⟨Nat.le_of_ble_eq_true rfl, Nat.le_of_ble_eq_true rfl⟩, hg _ wd_434, hg _ se_O_isGreater⟩ (mw_preV (va_recv (q0 := 4) hK hF rfl rfl) hPc (pw_c (q := (og, .inr (3, [.ref o, .ref oG]))) hF 4 rfl (pw_c (q := (o, .inr (0, [.ref aA, .ref aR, .ref aW, .ref aV, .int (zI (↑sy))]))) hF 5 rfl (pw_c (q := (aA, .inl (cI, 5, .inl (zA ar)))) hF 6 rfl (pw_c (q := (aR, .inl (cI, 5, .inl (zA rk)))) hF 7 rfl (pw_c (q := (aW, .inl (cI, 5, .inl (zA wt)))) hF 8 rfl (pw_c (q := (aV, .inl (cI, 5, .inl (zA sv)))) hF 9 rfl (pw_c (q := ((ta (LI i)), .inr (1, [.ref ((tH (LI i))), .ref ((tP (LI i))), .ref ((tE (LI i))), .int (zI (↑(tn (LI i)))), .int (zI ((TG (LI i))))]))) hF (k0 + 10) hk0 (pw_c (q := ((tH (LI i)), .inl (cI, (tn (LI i)), .inl (zA ((TH (LI i))))))) hF (k1 + 10) hk1 (pw_c (q := ((tP (LI i)), .inl (cI, (tn (LI i)), .inl (zA ((TM (LI i))))))) hF (k2 + 10) hk2 (pw_c (q := ((tE (LI i)), .inl (cI, (tn (LI i)), .inl (zA (eI ((TE (LI i)))))))) hF (k3 + 10) hk3 (pw_c (q := ((ta (RI i)), .inr (1, [.ref ((tH (RI i))), .ref ((tP (RI i))), .ref ((tE (RI i))), .int (zI (↑(tn (RI i)))), .int (zI ((TG (RI i))))]))) hF (j0 + 10) hj0 (pw_c (q := ((tH (RI i)), .inl (cI, (tn (RI i)), .inl (zA ((TH (RI i))))))) hF (j1 + 10) hj1 (pw_c (q := ((tP (RI i)), .inl (cI, (tn (RI i)), .inl (zA ((TM (RI i))))))) hF (j2 + 10) hj2 (pw_c (q := ((tE (RI i)), .inl (cI, (tn (RI i)), .inl (zA (eI ((TE (RI i)))))))) hF (j3 + 10) hj3 (pw_nil))))))))))))))) hK hN hDc (apw_c (q := (og, .inr (3, [.ref o, .ref oG]))) (apw_f hD [0] rfl (hFA 4 _ rfl)) (apw_c (q := (o, .inr (0, [.ref aA, .ref aR, .ref aW, .ref aV, .int (zI (↑sy))]))) (apw_f hD [0] rfl (hFA 5 _ rfl)) (apw_c (q := (aA, .inl (cI, 5, .inl (zA ar)))) (apw_f hD [0] rfl (hFA 6 _ rfl)) (apw_c (q := (aR, .inl (cI, 5, .inl (zA rk)))) (apw_f hD [0] rfl (hFA 7 _ rfl)) (apw_c (q := (aW, .inl (cI, 5, .inl (zA wt)))) (apw_f hD [0] rfl (hFA 8 _ rfl)) (apw_c (q := (aV, .inl (cI, 5, .inl (zA sv)))) (apw_f hD [0] rfl (hFA 9 _ rfl)) (apw_c (q := ((ta (LI i)), .inr (1, [.ref ((tH (LI i))), .ref ((tP (LI i))), .ref ((tE (LI i))), .int (zI (↑(tn (LI i)))), .int (zI ((TG (LI i))))]))) (apw_f hD [0] rfl (hFA (k0 + 10) _ hk0)) (apw_c (q := ((tH (LI i)), .inl (cI, (tn (LI i)), .inl (zA ((TH (LI i))))))) (apw_f hD [0] rfl (hFA (k1 + 10) _ hk1)) (apw_c (q := ((tP (LI i)), .inl (cI, (tn (LI i)), .inl (zA ((TM (LI i))))))) (apw_f hD [0] rfl (hFA (k2 + 10) _ hk2)) (apw_c (q := ((tE (LI i)), .inl (cI, (tn (LI i)), .inl (zA (eI ((TE (LI i)))))))) (apw_f hD [0] rfl (hFA (k3 + 10) _ hk3)) (apw_c (q := ((ta (RI i)), .inr (1, [.ref ((tH (RI i))), .ref ((tP (RI i))), .ref ((tE (RI i))), .int (zI (↑(tn (RI i)))), .int (zI ((TG (RI i))))]))) (apw_f hD [0] rfl (hFA (j0 + 10) _ hj0)) (apw_c (q := ((tH (RI i)), .inl (cI, (tn (RI i)), .inl (zA ((TH (RI i))))))) (apw_f hD [0] rfl (hFA (j1 + 10) _ hj1)) (apw_c (q := ((tP (RI i)), .inl (cI, (tn (RI i)), .inl (zA ((TM (RI i))))))) (apw_f hD [0] rfl (hFA (j2 + 10) _ hj2)) (apw_c (q := ((tE (RI i)), .inl (cI, (tn (RI i)), .inl (zA (eI ((TE (RI i)))))))) (apw_f hD [0] rfl (hFA (j3 + 10) _ hj3)) (apw_nil)))))))))))))))) rfl rfl hl.1 rfl (lv_room (Nat.le_of_ble_eq_true rfl)) qd_X_oriented_43 ⟨Nat.le_of_ble_eq_true rfl, Nat.le_of_ble_eq_true rfl⟩) hS (fun q _ h => hFr q h) hFr (fun r43 gr3 t9 H43_3 L43_3 ht9 hv9 hr43 hB9 hz9 hk9 hS => ?_)
          try dsimp only at hr43 hB9
          obtain ⟨hP, hD⟩ := mw_join (wr := []) (w1 := [(oG, .inl (cZ, 256, .inl (zB gr3)))]) hP hD [0] [] rfl rfl (by decide) (by decide) hk9 hFr ht9 hB9
          have hP := hP.sub (ws' := [(oG, .inl (cZ, 256, .inl (zB gr3)))]) [0] rfl
          have hD := hD.sub (ws' := [(oG, .inl (cZ, 256, .inl (zB gr3)))]) [0] (by decide) rfl
          have hF := fz_keep hF0 hFA hS
          refine zz_ifeqB (tgt := 55) hx hb qd_X_oriented_46 (by decide) (fun h46 => ?_) (fun h46 => ?_)
          · skip
            refine lv_iinc (k := 0) (lv' := [(3, .int (zI (↑(i + 1)))), (2, .int (obI (fun r => gtO x rk wt (TH (LI r)) (TE (LI r)) (TM (LI r)) (tn (LI r)) (TH (RI r)) (TE (RI r)) (TM (RI r)) (tn (RI r))) i)), (0, .ref ox), (1, .int (zI (x)))]) hx hb qd_X_oriented_55 hl rfl (zI_inc (v := ↑(i + 1)) (by omega)) (by decide) rfl (fun ls hl => ?_)
            refine lv_goto (tgt := 9) hx hb qd_X_oriented_58 (by decide) ?_
            have q9 : (obI (fun r => gtO x rk wt (TH (LI r)) (TE (LI r)) (TM (LI r)) (tn (LI r)) (TH (RI r)) (TE (RI r)) (TM (RI r)) (tn (RI r))) i : Int32) = obI (fun r => gtO x rk wt (TH (LI r)) (TE (LI r)) (TM (LI r)) (tn (LI r)) (TH (RI r)) (TE (RI r)) (TM (RI r)) (tn (RI r))) (i + 1) := (by first | (rw [obI_t (P := fun r => gtO x rk wt (TH (LI r)) (TE (LI r)) (TM (LI r)) (tn (LI r)) (TH (RI r)) (TE (RI r)) (TM (RI r)) (tn (RI r))) (hr43.mp h46)]) | (rw [obI_f (P := fun r => gtO x rk wt (TH (LI r)) (TE (LI r)) (TM (LI r)) (tn (LI r)) (TH (RI r)) (TE (RI r)) (TM (RI r)) (tn (RI r))) (fun z => by rw [hr43.mpr z] at h46; exact Bool.noConfusion h46)]))
            have hl : lv_has ls 4 [(3, .int (zI (↑(i + 1)))), (2, .int (obI (fun r => gtO x rk wt (TH (LI r)) (TE (LI r)) (TM (LI r)) (tn (LI r)) (TH (RI r)) (TE (RI r)) (TM (RI r)) (tn (RI r))) (i + 1))), (0, .ref ox), (1, .int (zI (x)))] := (congrArg (fun z9 : Int32 => lv_has ls 4 [(3, .int (zI (↑(i + 1)))), (2, .int (z9)), (0, .ref ox), (1, .int (zI (x)))]) q9).mp hl
            exact ih9 _ (by omega) (i + 1) gr3 (by omega) rfl H43_3 L43_3 hP hD hS ls hl
          · skip
            refine lv_iload_n hx hb qd_X_oriented_49 rfl (lv_at hl 1 rfl) ?_
            refine lv_iconst (v := zI 1) hx hb qd_X_oriented_50 rfl ?_
            refine lv_iload_n hx hb qd_X_oriented_51 rfl (lv_at hl 0 rfl) ?_
            refine lv_ishl hx hb qd_X_oriented_52 ?_
            refine lv_ior hx hb qd_X_oriented_53 ?_
            refine lv_istore_n (lv' := [(2, .int ((obI (fun r => gtO x rk wt (TH (LI r)) (TE (LI r)) (TM (LI r)) (tn (LI r)) (TH (RI r)) (TE (RI r)) (TM (RI r)) (tn (RI r))) i) ||| ((zI 1) <<< ((zI (↑i)) &&& 31)))), (3, .int (zI (↑i))), (0, .ref ox), (1, .int (zI (x)))]) hx hb qd_X_oriented_54 rfl hl (by decide) rfl (fun ls hl => ?_)
            refine lv_iinc (k := 1) (lv' := [(3, .int (zI (↑(i + 1)))), (2, .int ((obI (fun r => gtO x rk wt (TH (LI r)) (TE (LI r)) (TM (LI r)) (tn (LI r)) (TH (RI r)) (TE (RI r)) (TM (RI r)) (tn (RI r))) i) ||| ((zI 1) <<< ((zI (↑i)) &&& 31)))), (0, .ref ox), (1, .int (zI (x)))]) hx hb qd_X_oriented_55 hl rfl (zI_inc (v := ↑(i + 1)) (by omega)) (by decide) rfl (fun ls hl => ?_)
            refine lv_goto (tgt := 9) hx hb qd_X_oriented_58 (by decide) ?_
            have q9 : ((obI (fun r => gtO x rk wt (TH (LI r)) (TE (LI r)) (TM (LI r)) (tn (LI r)) (TH (RI r)) (TE (RI r)) (TM (RI r)) (tn (RI r))) i) ||| ((zI 1) <<< ((zI (↑i)) &&& 31)) : Int32) = obI (fun r => gtO x rk wt (TH (LI r)) (TE (LI r)) (TM (LI r)) (tn (LI r)) (TH (RI r)) (TE (RI r)) (TM (RI r)) (tn (RI r))) (i + 1) := (by first | (rw [obI_t (P := fun r => gtO x rk wt (TH (LI r)) (TE (LI r)) (TM (LI r)) (tn (LI r)) (TH (RI r)) (TE (RI r)) (TM (RI r)) (tn (RI r))) (hr43.mp h46)]) | (rw [obI_f (P := fun r => gtO x rk wt (TH (LI r)) (TE (LI r)) (TM (LI r)) (tn (LI r)) (TH (RI r)) (TE (RI r)) (TM (RI r)) (tn (RI r))) (fun z => by rw [hr43.mpr z] at h46; exact Bool.noConfusion h46)]))
            have hl : lv_has ls 4 [(3, .int (zI (↑(i + 1)))), (2, .int (obI (fun r => gtO x rk wt (TH (LI r)) (TE (LI r)) (TM (LI r)) (tn (LI r)) (TH (RI r)) (TE (RI r)) (TM (RI r)) (tn (RI r))) (i + 1))), (0, .ref ox), (1, .int (zI (x)))] := (congrArg (fun z9 : Int32 => lv_has ls 4 [(3, .int (zI (↑(i + 1)))), (2, .int (z9)), (0, .ref ox), (1, .int (zI (x)))]) q9).mp hl
            exact ih9 _ (by omega) (i + 1) gr3 (by omega) rfl H43_3 L43_3 hP hD hS ls hl
    exact L9 _ 0 gr (by omega) rfl H2_1 L2_1 hP hD hS ls hl
  · skip
    have hPc := hP.sub (ws' := []) [] rfl
    have hDc := hD.sub (ws' := []) [] (by decide) rfl
    have hFr := va_free (wc := []) hD hS hA [] rfl
    refine vx_callv (vx_runV (As := [.int (zI (x))]) (rest := []) ⟨hx, hb, hml, hown, hg⟩ (c_X_checkOrder_no l dC dI cI cZ cT cJ ox o aA aR aW aV sy ar rk wt sv od dH dP dE dT dz dt hd pcs de dh orr rL rR rB rc lf rf bd og oG gr ta tH tP tE tn TH TM TE TG HT LI RI pl tc xT tf x sg.heap.size hst h32x hs2) ⟨callB_of 1 hg (gw_ok (fun _ h => h) wd_430) rfl rfl rfl (hg _ wd_1) (hg _ wd_427) (by decide +kernel) ⟨Nat.le_of_ble_eq_true rfl, Nat.le_of_ble_eq_true rfl⟩, hg _ wd_429, hg _ se_X_checkOrder⟩ (mx_preV (va_recv (q0 := 0) hK hF rfl rfl) hPc (pw_c (q := (ox, .inr (5, [.ref o, .ref od, .ref xT, .ref orr, .ref og, .int (zI (↑tc))]))) hF 0 rfl (pw_nil)) hK hN hDc (apw_c (q := (ox, .inr (5, [.ref o, .ref od, .ref xT, .ref orr, .ref og, .int (zI (↑tc))]))) (apw_f hD [] rfl (hFA 0 _ rfl)) (apw_nil)) (exH.narrow (exH.kept hE hS.2.1) hFr)) rfl rfl hl.1 rfl (lv_room (Nat.le_of_ble_eq_true rfl)) qd_X_oriented_2 ⟨Nat.le_of_ble_eq_true rfl, Nat.le_of_ble_eq_true rfl⟩) hS (fun q _ h => hFr q h) hFr (fun q _ h => hFr q h) (fun E9 ce9 q9 u9 t9 H2_4 L2_4 ht9 hv9 _ hx2 hz9 hk9 hS hc9 hcv9 hcl9 => ?_) (fun u9 t9 H2_4 L2_4 ht9 hv9 hr2 hB9 hz9 hk9 hS => ?_)
    · skip
      obtain ⟨hx2, hB9⟩ := hx2
      try dsimp only at hx2 hB9
      obtain ⟨hP, hD⟩ := mw_join (wr := [(oG, .inl (cZ, 256, .inl (zB gr)))]) (w1 := []) hP hD [] [0] rfl rfl (by decide) (by decide) hk9 hFr ht9 hB9
      have hP := hP.sub (ws' := [(oG, .inl (cZ, 256, .inl (zB gr)))]) [0] rfl
      have hD := hD.sub (ws' := [(oG, .inl (cZ, 256, .inl (zB gr)))]) [0] (by decide) rfl
      have hF := fz_keep hF0 hFA hS
      refine vx_widen (k := 1) (n := 6) (by omega) (by omega) ?_
      exact vx_out (fun x h => (htab x h).elim) hlocks hc9 hcv9 hcl9 (fun t9 g1 g2 => (fun w9 => ⟨(), trivial, ⟨⟨hx2, hs2⟩, w9.1⟩, w9.2⟩) (zx_o hP hK hD hS g1 g2)) hS.2.2 (Nat.le_refl _) (Nat.le_refl _)
    · skip
      exact (hr2).elim
set_option maxHeartbeats 4000000 in
set_option maxRecDepth 100000 in
theorem c_X_isOrientedAsDue (l : Launch) (dC : Nat → ClassId) (dI : Nat → Nat → Nat) (cI cZ cT cJ : ClassId) (ox : Nat) (o aA aR aW aV sy : Nat) (ar rk wt sv : Nat → Int) (od dH dP dE dT dz : Nat) (dt : Bool) (hd pcs : Nat → Int) (de : Nat → Nat) (dh : Nat → Int) (orr rL rR rB rc : Nat) (lf rf : Nat → Option Nat) (bd : Nat → Int) (og oG : Nat) (gr : Nat → Bool) (ta tH tP tE tn : Nat → Nat) (TH TM : Nat → Nat → Int) (TE : Nat → Nat → Nat) (TG : Nat → Int) (HT : Nat → Nat → Int) (LI RI : Nat → Nat) (pl : va_W) (tc : Nat) (xT : Nat) (tf : Nat → Option Nat) (x : Int) (zh : Nat) (hsy : sy ≤ 5) (har : ∀ q, q < 5 → 0 ≤ ar q ∧ ar q ≤ 3) (hrk : ∀ q, q < 5 → 0 ≤ rk q ∧ rk q ≤ 4) (hwt : ∀ q, q < 5 → 0 ≤ wt q ∧ wt q ≤ 9) (htp : ∀ t, t < tc → okT sy ar (tn t) (TH t) (TM t) (TE t) (HT t) ∧ tin pl cI (ta t) (tH t) (tP t) (tE t) (tn t) (TH t) (TM t) (TE t) (TG t)) (hlr : ∀ r, r < rc → LI r < tc ∧ RI r < tc ∧ lf r = some (ta (LI r)) ∧ rf r = some (ta (RI r)) ∧ ∀ q, q < tn (RI r) → TH (RI r) q < 0 → ∃ k, k < tn (LI r) ∧ TH (LI r) k = TH (RI r) q) (hrc : rc ≤ 8) (hor : 0 ≤ x ∧ x ≤ 1) : Met l qy_X_isOrientedAsDue qw_X_isOrientedAsDue ({ frames := 5, cells := 0, slots := 0, locals := 123 }) (mwP (dC, dI) qcl (qty cI cZ cT cJ) nwL [(oG, .inl (cZ, 256, .inl (zB gr)))] ([(ox, .inr (5, [.ref o, .ref od, .ref xT, .ref orr, .ref og, .int (zI (↑tc))])), (orr, .inr (4, [.ref rL, .ref rR, .ref rB, .int (zI (↑rc))])), (rL, .inl (cT, 8, .inr (.inr (.inr (.inr lf))))), (rR, .inl (cT, 8, .inr (.inr (.inr (.inr rf))))), (og, .inr (3, [.ref o, .ref oG])), (o, .inr (0, [.ref aA, .ref aR, .ref aW, .ref aV, .int (zI (↑sy))])), (aA, .inl (cI, 5, .inl (zA ar))), (aR, .inl (cI, 5, .inl (zA rk))), (aW, .inl (cI, 5, .inl (zA wt))), (aV, .inl (cI, 5, .inl (zA sv)))] ++ pl) zh [.ref ox, .int (zI (x))]) (mwO (S := (Nat → Bool)) (fun r uq => r = true ↔ ((x = 1 → ∀ us, us < sy → ¬ (ar us = 0 ∧ wt us = 0) ∧ ∀ t, t < sy → ¬ (ar us = 1 ∧ wt us = 0 ∧ t ≠ us ∧ rk us ≤ rk t)) ∧ ∀ k, k < rc → gtO x rk wt (TH (LI k)) (TE (LI k)) (TM (LI k)) (tn (LI k)) (TH (RI k)) (TE (RI k)) (TM (RI k)) (tn (RI k)))) (fun uq tq => mwB (dC, dI) qcl (qty cI cZ cT cJ) (va_A [(oG, .inl (cZ, 256, .inl (zB gr)))] zh) [(oG, .inl (cZ, 256, .inl (zB uq)))] tq) (va_A [(oG, .inl (cZ, 256, .inl (zB gr)))] zh)) 0 0 (va_A [(oG, .inl (cZ, 256, .inl (zB gr)))] zh) := by
  refine Met.ofW (cc := qc_X_isOrientedAsDue) (maxL := 3) (ret := (Option.some Jvm.ClassFile.FieldType.boolean)) (by decide) rfl ?_
  intro pg eg sg mg args below meth cg s₁ B hml hv
  obtain ⟨rfl, hsz, hP, hF0, hK, hN, hD0, hap⟩ := hv
  have hx := B.exec
  have hb := B.bytes
  have hr := B.returns
  have hts := atoms_spec (ws := qw_X_isOrientedAsDue) B.pre
  have hg : ∀ w ∈ gw, w.before _ sg = true := fun w h => hts w (List.mem_cons_of_mem _ h)
  have hown : sg.vm.findClass "TermOrders" = some mg.cls := findClass_of_methodNamed B.named
  have hlocks := B.notSynchronized
  have hl := lv_entry ([.ref ox, .int (zI (x))]) (n := 3) (Nat.le_of_ble_eq_true rfl)
  rw [lg_entry_eq]
  generalize (lg_sl ([.ref ox, .int (zI (x))]) ++ List.replicate (3 - (lg_sl ([.ref ox, .int (zI (x))])).length) Slot.unset).toArray = ls at hl ⊢
  subst hsz
  have hD := hD0.self (sz := sg.heap.size)
  have hFA := apw_A hap (fun k q hk => (hF0 k q hk).lt)
  generalize hAe : va_A [(oG, .inl (cZ, 256, .inl (zB gr)))] sg.heap.size = A at hD hFA ⊢
  have hA : ∀ q : Nat, sg.heap.size ≤ q → A q := fun q h => by rw [← hAe]; exact Or.inr h
  have hS : va_S A sg.heap sg.heap [] := va_S.rf
  have hF := hF0
  have hl : lv_has ls 3 [(0, .ref ox), (1, .int (zI (x)))] := hl
  refine lv_iload_n hx hb qd_X_isOrientedAsDue_0 rfl (lv_at hl 1 rfl) ?_
  refine lv_iconst (v := zI 1) hx hb qd_X_isOrientedAsDue_1 rfl ?_
  refine zz_icmp_ne (tgt := 17) hx hb qd_X_isOrientedAsDue_2 (by decide) (by omega) (by omega) (fun h2 => ?_) (fun h2 => ?_)
  · skip
    have hax : x = 1 → ∀ us, us < sy → ¬ (ar us = 0 ∧ wt us = 0) ∧ ∀ t, t < sy → ¬ (ar us = 1 ∧ wt us = 0 ∧ t ≠ us ∧ rk us ≤ rk t) := fun z9 => absurd z9 (by omega)
    refine lv_iconst (v := zI 0) hx hb qd_X_isOrientedAsDue_17 rfl ?_
    refine lv_istore_n (lv' := [(2, .int (zI (0))), (0, .ref ox), (1, .int (zI (x)))]) hx hb qd_X_isOrientedAsDue_18 rfl hl (by decide) rfl (fun ls hl => ?_)
    have L19 : ∀ (mu19 : Nat) (i : Nat) (gz : Nat → Bool), (i ≤ rc) → (∀ k, k < i → gtO x rk wt (TH (LI k)) (TE (LI k)) (TM (LI k)) (tn (LI k)) (TH (RI k)) (TE (RI k)) (TM (RI k)) (tn (RI k))) → rc - i = mu19 → ∀ (H19_1 : Heap) (L19_1 : List Loc), va_P (dC, dI) qcl [(oG, .inl (cZ, 256, .inl (zB gz)))] H19_1 → va_D A [(oG, .inl (cZ, 256, .inl (zB gz)))] → va_S A sg.heap H19_1 L19_1 → ∀ ls : Array Slot, lv_has ls 3 [(2, .int (zI (↑i))), (0, .ref ox), (1, .int (zI (x)))] → W pg l eg (headSpec qw_X_isOrientedAsDue ({ frames := 5, cells := 0, slots := 0, locals := 123 })).room sg mg ([.ref ox, .int (zI (x))] : List Value).toArray below meth cg H19_1 L19_1 0 0 (MQ below (mwO (S := (Nat → Bool)) (fun r uq => r = true ↔ ((x = 1 → ∀ us, us < sy → ¬ (ar us = 0 ∧ wt us = 0) ∧ ∀ t, t < sy → ¬ (ar us = 1 ∧ wt us = 0 ∧ t ≠ us ∧ rk us ≤ rk t)) ∧ ∀ k, k < rc → gtO x rk wt (TH (LI k)) (TE (LI k)) (TM (LI k)) (tn (LI k)) (TH (RI k)) (TE (RI k)) (TM (RI k)) (tn (RI k)))) (fun uq tq => mwB (dC, dI) qcl (qty cI cZ cT cJ) A [(oG, .inl (cZ, 256, .inl (zB uq)))] tq) A) ([.ref ox, .int (zI (x))] : List Value).toArray sg 0 0 A) (F0 mg 19 ls []) := by
      intro mu19
      induction mu19 using Nat.strongRecOn with
      | _ mu19 ih19 =>
        intro i gz hi hz hmu19 H19_1 L19_1 hP hD hS ls hl
        have hF := fz_keep hF0 hFA hS
        refine lv_iload_n hx hb qd_X_isOrientedAsDue_19 rfl (lv_at hl 0 rfl) ?_
        refine lv_aload_n hx hb qd_X_isOrientedAsDue_20 rfl (lv_at hl 1 rfl) ?_
        refine va_get (D := (dC, dI)) (ci := 5) (v := .ref orr) (C := "TermOrders") (T := qT_X) (N := 6) hx hb hg qi_X hown hK hF 0 rfl rfl 3 (by decide) (hg _ wd_123) (fun _ h9 => h9) rfl qd_X_isOrientedAsDue_21 ?_
        refine va_getN (D := (dC, dI)) (ci := 4) (v := .int (zI (↑rc))) (C := "TermOrders$Rules") (T := qT_R) (N := 4) hx hb hg qi_R hown hK hF 1 rfl rfl 3 (by decide) (va_Nw.use rfl (hN.use nw_96)) (fun _ h9 => h9) rfl qd_X_isOrientedAsDue_24 ?_
        refine zz_icmp_ge (tgt := 67) hx hb qd_X_isOrientedAsDue_27 (by decide) (by omega) (by omega) (fun h27 => ?_) (fun h27 => ?_)
        · skip
          refine lv_iconst (v := zI 1) hx hb qd_X_isOrientedAsDue_67 rfl ?_
          exact W.zret (v := zI (bI true)) (ty := .boolean) hx hb hr (bI_n _) (fun t9 ht9 hW9 => ⟨⟨true, gz, rfl, (bT ⟨hax, fun k hk => hz k (by omega)⟩), mwB_i (by rw [ht9]; exact hP) (va_K.moved hW9.alike hK) hD⟩, hS.F ht9⟩) hS.2.2 qd_X_isOrientedAsDue_68
        · skip
          obtain ⟨hu1, hu2, hu3, hu4, hu5⟩ := hlr i (by omega)
          obtain ⟨ho9, ⟨k0, hk0⟩, ⟨k1, hk1⟩, ⟨k2, hk2⟩, ⟨k3, hk3⟩⟩ := htp (LI i) hu1
          have hoa := ho9
          obtain ⟨ho9, ⟨j0, hj0⟩, ⟨j1, hj1⟩, ⟨j2, hj2⟩, ⟨j3, hj3⟩⟩ := htp (RI i) hu2
          have hob := ho9
          refine lv_aload_n hx hb qd_X_isOrientedAsDue_30 rfl (lv_at hl 1 rfl) ?_
          refine va_get (D := (dC, dI)) (ci := 5) (v := .ref og) (C := "TermOrders") (T := qT_X) (N := 6) hx hb hg qi_X hown hK hF 0 rfl rfl 4 (by decide) (hg _ wd_124) (fun _ h9 => h9) rfl qd_X_isOrientedAsDue_31 ?_
          refine lv_iload_n hx hb qd_X_isOrientedAsDue_34 rfl (lv_at hl 2 rfl) ?_
          refine lv_aload_n hx hb qd_X_isOrientedAsDue_35 rfl (lv_at hl 1 rfl) ?_
          refine va_get (D := (dC, dI)) (ci := 5) (v := .ref orr) (C := "TermOrders") (T := qT_X) (N := 6) hx hb hg qi_X hown hK hF 0 rfl rfl 3 (by decide) (hg _ wd_123) (fun _ h9 => h9) rfl qd_X_isOrientedAsDue_36 ?_
          refine va_getN (D := (dC, dI)) (ci := 4) (v := .ref rL) (C := "TermOrders$Rules") (T := qT_R) (N := 4) hx hb hg qi_R hown hK hF 1 rfl rfl 0 (by decide) (va_Nw.use rfl (hN.use nw_91)) (fun _ h9 => h9) rfl qd_X_isOrientedAsDue_39 ?_
          refine lv_iload_n hx hb qd_X_isOrientedAsDue_42 rfl (lv_at hl 0 rfl) ?_
          refine zz_aald hx hb hK hF 2 2 rfl rfl i rfl (by omega) (by omega) (r := (ta (LI i))) hu3 qd_X_isOrientedAsDue_43 ?_
          refine lv_aload_n hx hb qd_X_isOrientedAsDue_44 rfl (lv_at hl 1 rfl) ?_
          refine va_get (D := (dC, dI)) (ci := 5) (v := .ref orr) (C := "TermOrders") (T := qT_X) (N := 6) hx hb hg qi_X hown hK hF 0 rfl rfl 3 (by decide) (hg _ wd_123) (fun _ h9 => h9) rfl qd_X_isOrientedAsDue_45 ?_
          refine va_getN (D := (dC, dI)) (ci := 4) (v := .ref rR) (C := "TermOrders$Rules") (T := qT_R) (N := 4) hx hb hg qi_R hown hK hF 1 rfl rfl 1 (by decide) (va_Nw.use rfl (hN.use nw_93)) (fun _ h9 => h9) rfl qd_X_isOrientedAsDue_48 ?_
          refine lv_iload_n hx hb qd_X_isOrientedAsDue_51 rfl (lv_at hl 0 rfl) ?_
          refine zz_aald hx hb hK hF 3 2 rfl rfl i rfl (by omega) (by omega) (r := (ta (RI i))) hu4 qd_X_isOrientedAsDue_52 ?_
          have hPc := hP.sub (ws' := [(oG, .inl (cZ, 256, .inl (zB gz)))]) [0] rfl
          have hDc := hD.sub (ws' := [(oG, .inl (cZ, 256, .inl (zB gz)))]) [0] (by decide) rfl
          have hFr := va_free (wc := [(oG, .inl (cZ, 256, .inl (zB gz)))]) hD hS hA [0] rfl
          refine mw_callO (va_runVN (As := [.int (zI (x)), .ref ((ta (LI i))), .ref ((ta (RI i)))]) (rest := []) ⟨hx, hb, hml, hown, hg⟩ (c_O_isGreater l dC dI cI cZ cT cJ o aA aR aW aV sy ar rk wt sv og oG gz (ta (LI i)) (tH (LI i)) (tP (LI i)) (tE (LI i)) (tn (LI i)) (TH (LI i)) (TM (LI i)) (TE (LI i)) (TG (LI i)) (ta (RI i)) (tH (RI i)) (tP (RI i)) (tE (RI i)) (tn (RI i)) (TH (RI i)) (TM (RI i)) (TE (RI i)) (TG (RI i)) (HT (LI i)) x H19_1.size hrk hwt hoa.2.1 hob.2.1 (okT_hh hsy hoa) (okT_hh hsy hob) hoa.2.2.2.2.1 hob.2.2.2.2.1 (okT_hm hsy har hoa) (okT_hm hsy har hob) (okT_mm hoa hob) hoa.1 hob.1 (okT_mm hoa hoa) hoa.2.2.2.2.2.2.1 hoa.2.2.2.2.2.2.2 (by omega)) ⟨va_cnB 3 hg (gw_ok (fun _ h => h) wd_435) rfl rfl rfl (hN.use nw_432) (hg _ wd_5) (by decide +kernel) ⟨Nat.le_of_ble_eq_true rfl, Nat.le_of_ble_eq_true rfl⟩, hg _ wd_434, hg _ se_O_isGreater⟩ (mw_preV (va_recv (q0 := 4) hK hF rfl rfl) hPc (pw_c (q := (og, .inr (3, [.ref o, .ref oG]))) hF 4 rfl (pw_c (q := (o, .inr (0, [.ref aA, .ref aR, .ref aW, .ref aV, .int (zI (↑sy))]))) hF 5 rfl (pw_c (q := (aA, .inl (cI, 5, .inl (zA ar)))) hF 6 rfl (pw_c (q := (aR, .inl (cI, 5, .inl (zA rk)))) hF 7 rfl (pw_c (q := (aW, .inl (cI, 5, .inl (zA wt)))) hF 8 rfl (pw_c (q := (aV, .inl (cI, 5, .inl (zA sv)))) hF 9 rfl (pw_c (q := ((ta (LI i)), .inr (1, [.ref ((tH (LI i))), .ref ((tP (LI i))), .ref ((tE (LI i))), .int (zI (↑(tn (LI i)))), .int (zI ((TG (LI i))))]))) hF (k0 + 10) hk0 (pw_c (q := ((tH (LI i)), .inl (cI, (tn (LI i)), .inl (zA ((TH (LI i))))))) hF (k1 + 10) hk1 (pw_c (q := ((tP (LI i)), .inl (cI, (tn (LI i)), .inl (zA ((TM (LI i))))))) hF (k2 + 10) hk2 (pw_c (q := ((tE (LI i)), .inl (cI, (tn (LI i)), .inl (zA (eI ((TE (LI i)))))))) hF (k3 + 10) hk3 (pw_c (q := ((ta (RI i)), .inr (1, [.ref ((tH (RI i))), .ref ((tP (RI i))), .ref ((tE (RI i))), .int (zI (↑(tn (RI i)))), .int (zI ((TG (RI i))))]))) hF (j0 + 10) hj0 (pw_c (q := ((tH (RI i)), .inl (cI, (tn (RI i)), .inl (zA ((TH (RI i))))))) hF (j1 + 10) hj1 (pw_c (q := ((tP (RI i)), .inl (cI, (tn (RI i)), .inl (zA ((TM (RI i))))))) hF (j2 + 10) hj2 (pw_c (q := ((tE (RI i)), .inl (cI, (tn (RI i)), .inl (zA (eI ((TE (RI i)))))))) hF (j3 + 10) hj3 (pw_nil))))))))))))))) hK hN hDc (apw_c (q := (og, .inr (3, [.ref o, .ref oG]))) (apw_f hD [0] rfl (hFA 4 _ rfl)) (apw_c (q := (o, .inr (0, [.ref aA, .ref aR, .ref aW, .ref aV, .int (zI (↑sy))]))) (apw_f hD [0] rfl (hFA 5 _ rfl)) (apw_c (q := (aA, .inl (cI, 5, .inl (zA ar)))) (apw_f hD [0] rfl (hFA 6 _ rfl)) (apw_c (q := (aR, .inl (cI, 5, .inl (zA rk)))) (apw_f hD [0] rfl (hFA 7 _ rfl)) (apw_c (q := (aW, .inl (cI, 5, .inl (zA wt)))) (apw_f hD [0] rfl (hFA 8 _ rfl)) (apw_c (q := (aV, .inl (cI, 5, .inl (zA sv)))) (apw_f hD [0] rfl (hFA 9 _ rfl)) (apw_c (q := ((ta (LI i)), .inr (1, [.ref ((tH (LI i))), .ref ((tP (LI i))), .ref ((tE (LI i))), .int (zI (↑(tn (LI i)))), .int (zI ((TG (LI i))))]))) (apw_f hD [0] rfl (hFA (k0 + 10) _ hk0)) (apw_c (q := ((tH (LI i)), .inl (cI, (tn (LI i)), .inl (zA ((TH (LI i))))))) (apw_f hD [0] rfl (hFA (k1 + 10) _ hk1)) (apw_c (q := ((tP (LI i)), .inl (cI, (tn (LI i)), .inl (zA ((TM (LI i))))))) (apw_f hD [0] rfl (hFA (k2 + 10) _ hk2)) (apw_c (q := ((tE (LI i)), .inl (cI, (tn (LI i)), .inl (zA (eI ((TE (LI i)))))))) (apw_f hD [0] rfl (hFA (k3 + 10) _ hk3)) (apw_c (q := ((ta (RI i)), .inr (1, [.ref ((tH (RI i))), .ref ((tP (RI i))), .ref ((tE (RI i))), .int (zI (↑(tn (RI i)))), .int (zI ((TG (RI i))))]))) (apw_f hD [0] rfl (hFA (j0 + 10) _ hj0)) (apw_c (q := ((tH (RI i)), .inl (cI, (tn (RI i)), .inl (zA ((TH (RI i))))))) (apw_f hD [0] rfl (hFA (j1 + 10) _ hj1)) (apw_c (q := ((tP (RI i)), .inl (cI, (tn (RI i)), .inl (zA ((TM (RI i))))))) (apw_f hD [0] rfl (hFA (j2 + 10) _ hj2)) (apw_c (q := ((tE (RI i)), .inl (cI, (tn (RI i)), .inl (zA (eI ((TE (RI i)))))))) (apw_f hD [0] rfl (hFA (j3 + 10) _ hj3)) (apw_nil)))))))))))))))) rfl rfl hl.1 rfl (lv_room (Nat.le_of_ble_eq_true rfl)) qd_X_isOrientedAsDue_53 ⟨Nat.le_of_ble_eq_true rfl, Nat.le_of_ble_eq_true rfl⟩) hS (fun q _ h => hFr q h) hFr (fun r53 gr3 t9 H53_2 L53_2 ht9 hv9 hr53 hB9 hz9 hk9 hS => ?_)
          try dsimp only at hr53 hB9
          obtain ⟨hP, hD⟩ := mw_join (wr := []) (w1 := [(oG, .inl (cZ, 256, .inl (zB gr3)))]) hP hD [0] [] rfl rfl (by decide) (by decide) hk9 hFr ht9 hB9
          have hP := hP.sub (ws' := [(oG, .inl (cZ, 256, .inl (zB gr3)))]) [0] rfl
          have hD := hD.sub (ws' := [(oG, .inl (cZ, 256, .inl (zB gr3)))]) [0] (by decide) rfl
          have hF := fz_keep hF0 hFA hS
          refine zz_ifneB (tgt := 61) hx hb qd_X_isOrientedAsDue_56 (by decide) (fun h56 => ?_) (fun h56 => ?_)
          · skip
            refine lv_iinc (k := 0) (lv' := [(2, .int (zI (↑(i + 1)))), (0, .ref ox), (1, .int (zI (x)))]) hx hb qd_X_isOrientedAsDue_61 hl rfl (zI_inc (v := ↑(i + 1)) (by omega)) (by decide) rfl (fun ls hl => ?_)
            refine lv_goto (tgt := 19) hx hb qd_X_isOrientedAsDue_64 (by decide) ?_
            exact ih19 _ (by omega) (i + 1) gr3 (by omega) (fun k hk => if h8 : k < i then hz k h8 else (by rw [show k = i by omega]; exact hr53.mp h56)) rfl H53_2 L53_2 hP hD hS ls hl
          · skip
            refine lv_iconst (v := zI 0) hx hb qd_X_isOrientedAsDue_59 rfl ?_
            exact W.zret (v := zI (bI false)) (ty := .boolean) hx hb hr (bI_n _) (fun t9 ht9 hW9 => ⟨⟨false, gr3, rfl, (bF (fun z9 => by rw [hr53.mpr (z9.2 i (by omega))] at h56; exact Bool.noConfusion h56)), mwB_i (by rw [ht9]; exact hP) (va_K.moved hW9.alike hK) hD⟩, hS.F ht9⟩) hS.2.2 qd_X_isOrientedAsDue_60
    exact L19 _ 0 gr (by omega) (fun k hk => absurd hk (Nat.not_lt_zero _)) rfl sg.heap [] hP hD hS ls hl
  · skip
    refine lv_aload_n hx hb qd_X_isOrientedAsDue_5 rfl (lv_at hl 0 rfl) ?_
    refine va_get (D := (dC, dI)) (ci := 5) (v := .ref o) (C := "TermOrders") (T := qT_X) (N := 6) hx hb hg qi_X hown hK hF 0 rfl rfl 0 (by decide) (hg _ wd_120) (fun _ h9 => h9) rfl qd_X_isOrientedAsDue_6 ?_
    refine rd_callB (va_runVN (As := []) (rest := []) ⟨hx, hb, hml, hown, hg⟩ (c_S_haveAdmissibleWeights l dC dI cI cZ cT cJ o aA aR aW aV sy ar rk wt sv hsy hrk har hwt) ⟨va_cnB 0 hg (gw_ok (fun _ h => h) wd_146) rfl rfl rfl (hN.use nw_143) (hg _ wd_2) (by decide +kernel) ⟨Nat.le_of_ble_eq_true rfl, Nat.le_of_ble_eq_true rfl⟩, hg _ wd_145, hg _ se_S_haveAdmissibleWeights⟩ (rd_preV (va_recv (q0 := 5) hK hF rfl rfl) (pw_c (q := (o, .inr (0, [.ref aA, .ref aR, .ref aW, .ref aV, .int (zI (↑sy))]))) hF 5 rfl (pw_c (q := (aA, .inl (cI, 5, .inl (zA ar)))) hF 6 rfl (pw_c (q := (aR, .inl (cI, 5, .inl (zA rk)))) hF 7 rfl (pw_c (q := (aW, .inl (cI, 5, .inl (zA wt)))) hF 8 rfl (pw_c (q := (aV, .inl (cI, 5, .inl (zA sv)))) hF 9 rfl (pw_nil)))))) hK hN) rfl rfl hl.1 rfl (lv_room (Nat.le_of_ble_eq_true rfl)) qd_X_isOrientedAsDue_9 ⟨Nat.le_of_ble_eq_true rfl, Nat.le_of_ble_eq_true rfl⟩).run (fun r9 hr9 => ?_)
    refine zz_ifneB (tgt := 17) hx hb qd_X_isOrientedAsDue_12 (by decide) (fun h12 => ?_) (fun h12 => ?_)
    · skip
      have hax : x = 1 → ∀ us, us < sy → ¬ (ar us = 0 ∧ wt us = 0) ∧ ∀ t, t < sy → ¬ (ar us = 1 ∧ wt us = 0 ∧ t ≠ us ∧ rk us ≤ rk t) := fun _ => (adm_eq hsy har).mp (hr9.mp h12)
      refine lv_iconst (v := zI 0) hx hb qd_X_isOrientedAsDue_17 rfl ?_
      refine lv_istore_n (lv' := [(2, .int (zI (0))), (0, .ref ox), (1, .int (zI (x)))]) hx hb qd_X_isOrientedAsDue_18 rfl hl (by decide) rfl (fun ls hl => ?_)
      have L19 : ∀ (mu19 : Nat) (i : Nat) (gz : Nat → Bool), (i ≤ rc) → (∀ k, k < i → gtO x rk wt (TH (LI k)) (TE (LI k)) (TM (LI k)) (tn (LI k)) (TH (RI k)) (TE (RI k)) (TM (RI k)) (tn (RI k))) → rc - i = mu19 → ∀ (H19_3 : Heap) (L19_3 : List Loc), va_P (dC, dI) qcl [(oG, .inl (cZ, 256, .inl (zB gz)))] H19_3 → va_D A [(oG, .inl (cZ, 256, .inl (zB gz)))] → va_S A sg.heap H19_3 L19_3 → ∀ ls : Array Slot, lv_has ls 3 [(2, .int (zI (↑i))), (0, .ref ox), (1, .int (zI (x)))] → W pg l eg (headSpec qw_X_isOrientedAsDue ({ frames := 5, cells := 0, slots := 0, locals := 123 })).room sg mg ([.ref ox, .int (zI (x))] : List Value).toArray below meth cg H19_3 L19_3 0 0 (MQ below (mwO (S := (Nat → Bool)) (fun r uq => r = true ↔ ((x = 1 → ∀ us, us < sy → ¬ (ar us = 0 ∧ wt us = 0) ∧ ∀ t, t < sy → ¬ (ar us = 1 ∧ wt us = 0 ∧ t ≠ us ∧ rk us ≤ rk t)) ∧ ∀ k, k < rc → gtO x rk wt (TH (LI k)) (TE (LI k)) (TM (LI k)) (tn (LI k)) (TH (RI k)) (TE (RI k)) (TM (RI k)) (tn (RI k)))) (fun uq tq => mwB (dC, dI) qcl (qty cI cZ cT cJ) A [(oG, .inl (cZ, 256, .inl (zB uq)))] tq) A) ([.ref ox, .int (zI (x))] : List Value).toArray sg 0 0 A) (F0 mg 19 ls []) := by
        intro mu19
        induction mu19 using Nat.strongRecOn with
        | _ mu19 ih19 =>
          intro i gz hi hz hmu19 H19_3 L19_3 hP hD hS ls hl
          have hF := fz_keep hF0 hFA hS
          refine lv_iload_n hx hb qd_X_isOrientedAsDue_19 rfl (lv_at hl 0 rfl) ?_
          refine lv_aload_n hx hb qd_X_isOrientedAsDue_20 rfl (lv_at hl 1 rfl) ?_
          refine va_get (D := (dC, dI)) (ci := 5) (v := .ref orr) (C := "TermOrders") (T := qT_X) (N := 6) hx hb hg qi_X hown hK hF 0 rfl rfl 3 (by decide) (hg _ wd_123) (fun _ h9 => h9) rfl qd_X_isOrientedAsDue_21 ?_
          refine va_getN (D := (dC, dI)) (ci := 4) (v := .int (zI (↑rc))) (C := "TermOrders$Rules") (T := qT_R) (N := 4) hx hb hg qi_R hown hK hF 1 rfl rfl 3 (by decide) (va_Nw.use rfl (hN.use nw_96)) (fun _ h9 => h9) rfl qd_X_isOrientedAsDue_24 ?_
          refine zz_icmp_ge (tgt := 67) hx hb qd_X_isOrientedAsDue_27 (by decide) (by omega) (by omega) (fun h27 => ?_) (fun h27 => ?_)
          · skip
            refine lv_iconst (v := zI 1) hx hb qd_X_isOrientedAsDue_67 rfl ?_
            exact W.zret (v := zI (bI true)) (ty := .boolean) hx hb hr (bI_n _) (fun t9 ht9 hW9 => ⟨⟨true, gz, rfl, (bT ⟨hax, fun k hk => hz k (by omega)⟩), mwB_i (by rw [ht9]; exact hP) (va_K.moved hW9.alike hK) hD⟩, hS.F ht9⟩) hS.2.2 qd_X_isOrientedAsDue_68
          · skip
            obtain ⟨hu1, hu2, hu3, hu4, hu5⟩ := hlr i (by omega)
            obtain ⟨ho9, ⟨k0, hk0⟩, ⟨k1, hk1⟩, ⟨k2, hk2⟩, ⟨k3, hk3⟩⟩ := htp (LI i) hu1
            have hoa := ho9
            obtain ⟨ho9, ⟨j0, hj0⟩, ⟨j1, hj1⟩, ⟨j2, hj2⟩, ⟨j3, hj3⟩⟩ := htp (RI i) hu2
            have hob := ho9
            refine lv_aload_n hx hb qd_X_isOrientedAsDue_30 rfl (lv_at hl 1 rfl) ?_
            refine va_get (D := (dC, dI)) (ci := 5) (v := .ref og) (C := "TermOrders") (T := qT_X) (N := 6) hx hb hg qi_X hown hK hF 0 rfl rfl 4 (by decide) (hg _ wd_124) (fun _ h9 => h9) rfl qd_X_isOrientedAsDue_31 ?_
            refine lv_iload_n hx hb qd_X_isOrientedAsDue_34 rfl (lv_at hl 2 rfl) ?_
            refine lv_aload_n hx hb qd_X_isOrientedAsDue_35 rfl (lv_at hl 1 rfl) ?_
            refine va_get (D := (dC, dI)) (ci := 5) (v := .ref orr) (C := "TermOrders") (T := qT_X) (N := 6) hx hb hg qi_X hown hK hF 0 rfl rfl 3 (by decide) (hg _ wd_123) (fun _ h9 => h9) rfl qd_X_isOrientedAsDue_36 ?_
            refine va_getN (D := (dC, dI)) (ci := 4) (v := .ref rL) (C := "TermOrders$Rules") (T := qT_R) (N := 4) hx hb hg qi_R hown hK hF 1 rfl rfl 0 (by decide) (va_Nw.use rfl (hN.use nw_91)) (fun _ h9 => h9) rfl qd_X_isOrientedAsDue_39 ?_
            refine lv_iload_n hx hb qd_X_isOrientedAsDue_42 rfl (lv_at hl 0 rfl) ?_
            refine zz_aald hx hb hK hF 2 2 rfl rfl i rfl (by omega) (by omega) (r := (ta (LI i))) hu3 qd_X_isOrientedAsDue_43 ?_
            refine lv_aload_n hx hb qd_X_isOrientedAsDue_44 rfl (lv_at hl 1 rfl) ?_
            refine va_get (D := (dC, dI)) (ci := 5) (v := .ref orr) (C := "TermOrders") (T := qT_X) (N := 6) hx hb hg qi_X hown hK hF 0 rfl rfl 3 (by decide) (hg _ wd_123) (fun _ h9 => h9) rfl qd_X_isOrientedAsDue_45 ?_
            refine va_getN (D := (dC, dI)) (ci := 4) (v := .ref rR) (C := "TermOrders$Rules") (T := qT_R) (N := 4) hx hb hg qi_R hown hK hF 1 rfl rfl 1 (by decide) (va_Nw.use rfl (hN.use nw_93)) (fun _ h9 => h9) rfl qd_X_isOrientedAsDue_48 ?_
            refine lv_iload_n hx hb qd_X_isOrientedAsDue_51 rfl (lv_at hl 0 rfl) ?_
            refine zz_aald hx hb hK hF 3 2 rfl rfl i rfl (by omega) (by omega) (r := (ta (RI i))) hu4 qd_X_isOrientedAsDue_52 ?_
            have hPc := hP.sub (ws' := [(oG, .inl (cZ, 256, .inl (zB gz)))]) [0] rfl
            have hDc := hD.sub (ws' := [(oG, .inl (cZ, 256, .inl (zB gz)))]) [0] (by decide) rfl
            have hFr := va_free (wc := [(oG, .inl (cZ, 256, .inl (zB gz)))]) hD hS hA [0] rfl
            refine mw_callO (va_runVN (As := [.int (zI (x)), .ref ((ta (LI i))), .ref ((ta (RI i)))]) (rest := []) ⟨hx, hb, hml, hown, hg⟩ (c_O_isGreater l dC dI cI cZ cT cJ o aA aR aW aV sy ar rk wt sv og oG gz (ta (LI i)) (tH (LI i)) (tP (LI i)) (tE (LI i)) (tn (LI i)) (TH (LI i)) (TM (LI i)) (TE (LI i)) (TG (LI i)) (ta (RI i)) (tH (RI i)) (tP (RI i)) (tE (RI i)) (tn (RI i)) (TH (RI i)) (TM (RI i)) (TE (RI i)) (TG (RI i)) (HT (LI i)) x H19_3.size hrk hwt hoa.2.1 hob.2.1 (okT_hh hsy hoa) (okT_hh hsy hob) hoa.2.2.2.2.1 hob.2.2.2.2.1 (okT_hm hsy har hoa) (okT_hm hsy har hob) (okT_mm hoa hob) hoa.1 hob.1 (okT_mm hoa hoa) hoa.2.2.2.2.2.2.1 hoa.2.2.2.2.2.2.2 (by omega)) ⟨va_cnB 3 hg (gw_ok (fun _ h => h) wd_435) rfl rfl rfl (hN.use nw_432) (hg _ wd_5) (by decide +kernel) ⟨Nat.le_of_ble_eq_true rfl, Nat.le_of_ble_eq_true rfl⟩, hg _ wd_434, hg _ se_O_isGreater⟩ (mw_preV (va_recv (q0 := 4) hK hF rfl rfl) hPc (pw_c (q := (og, .inr (3, [.ref o, .ref oG]))) hF 4 rfl (pw_c (q := (o, .inr (0, [.ref aA, .ref aR, .ref aW, .ref aV, .int (zI (↑sy))]))) hF 5 rfl (pw_c (q := (aA, .inl (cI, 5, .inl (zA ar)))) hF 6 rfl (pw_c (q := (aR, .inl (cI, 5, .inl (zA rk)))) hF 7 rfl (pw_c (q := (aW, .inl (cI, 5, .inl (zA wt)))) hF 8 rfl (pw_c (q := (aV, .inl (cI, 5, .inl (zA sv)))) hF 9 rfl (pw_c (q := ((ta (LI i)), .inr (1, [.ref ((tH (LI i))), .ref ((tP (LI i))), .ref ((tE (LI i))), .int (zI (↑(tn (LI i)))), .int (zI ((TG (LI i))))]))) hF (k0 + 10) hk0 (pw_c (q := ((tH (LI i)), .inl (cI, (tn (LI i)), .inl (zA ((TH (LI i))))))) hF (k1 + 10) hk1 (pw_c (q := ((tP (LI i)), .inl (cI, (tn (LI i)), .inl (zA ((TM (LI i))))))) hF (k2 + 10) hk2 (pw_c (q := ((tE (LI i)), .inl (cI, (tn (LI i)), .inl (zA (eI ((TE (LI i)))))))) hF (k3 + 10) hk3 (pw_c (q := ((ta (RI i)), .inr (1, [.ref ((tH (RI i))), .ref ((tP (RI i))), .ref ((tE (RI i))), .int (zI (↑(tn (RI i)))), .int (zI ((TG (RI i))))]))) hF (j0 + 10) hj0 (pw_c (q := ((tH (RI i)), .inl (cI, (tn (RI i)), .inl (zA ((TH (RI i))))))) hF (j1 + 10) hj1 (pw_c (q := ((tP (RI i)), .inl (cI, (tn (RI i)), .inl (zA ((TM (RI i))))))) hF (j2 + 10) hj2 (pw_c (q := ((tE (RI i)), .inl (cI, (tn (RI i)), .inl (zA (eI ((TE (RI i)))))))) hF (j3 + 10) hj3 (pw_nil))))))))))))))) hK hN hDc (apw_c (q := (og, .inr (3, [.ref o, .ref oG]))) (apw_f hD [0] rfl (hFA 4 _ rfl)) (apw_c (q := (o, .inr (0, [.ref aA, .ref aR, .ref aW, .ref aV, .int (zI (↑sy))]))) (apw_f hD [0] rfl (hFA 5 _ rfl)) (apw_c (q := (aA, .inl (cI, 5, .inl (zA ar)))) (apw_f hD [0] rfl (hFA 6 _ rfl)) (apw_c (q := (aR, .inl (cI, 5, .inl (zA rk)))) (apw_f hD [0] rfl (hFA 7 _ rfl)) (apw_c (q := (aW, .inl (cI, 5, .inl (zA wt)))) (apw_f hD [0] rfl (hFA 8 _ rfl)) (apw_c (q := (aV, .inl (cI, 5, .inl (zA sv)))) (apw_f hD [0] rfl (hFA 9 _ rfl)) (apw_c (q := ((ta (LI i)), .inr (1, [.ref ((tH (LI i))), .ref ((tP (LI i))), .ref ((tE (LI i))), .int (zI (↑(tn (LI i)))), .int (zI ((TG (LI i))))]))) (apw_f hD [0] rfl (hFA (k0 + 10) _ hk0)) (apw_c (q := ((tH (LI i)), .inl (cI, (tn (LI i)), .inl (zA ((TH (LI i))))))) (apw_f hD [0] rfl (hFA (k1 + 10) _ hk1)) (apw_c (q := ((tP (LI i)), .inl (cI, (tn (LI i)), .inl (zA ((TM (LI i))))))) (apw_f hD [0] rfl (hFA (k2 + 10) _ hk2)) (apw_c (q := ((tE (LI i)), .inl (cI, (tn (LI i)), .inl (zA (eI ((TE (LI i)))))))) (apw_f hD [0] rfl (hFA (k3 + 10) _ hk3)) (apw_c (q := ((ta (RI i)), .inr (1, [.ref ((tH (RI i))), .ref ((tP (RI i))), .ref ((tE (RI i))), .int (zI (↑(tn (RI i)))), .int (zI ((TG (RI i))))]))) (apw_f hD [0] rfl (hFA (j0 + 10) _ hj0)) (apw_c (q := ((tH (RI i)), .inl (cI, (tn (RI i)), .inl (zA ((TH (RI i))))))) (apw_f hD [0] rfl (hFA (j1 + 10) _ hj1)) (apw_c (q := ((tP (RI i)), .inl (cI, (tn (RI i)), .inl (zA ((TM (RI i))))))) (apw_f hD [0] rfl (hFA (j2 + 10) _ hj2)) (apw_c (q := ((tE (RI i)), .inl (cI, (tn (RI i)), .inl (zA (eI ((TE (RI i)))))))) (apw_f hD [0] rfl (hFA (j3 + 10) _ hj3)) (apw_nil)))))))))))))))) rfl rfl hl.1 rfl (lv_room (Nat.le_of_ble_eq_true rfl)) qd_X_isOrientedAsDue_53 ⟨Nat.le_of_ble_eq_true rfl, Nat.le_of_ble_eq_true rfl⟩) hS (fun q _ h => hFr q h) hFr (fun r53 gr3 t9 H53_4 L53_4 ht9 hv9 hr53 hB9 hz9 hk9 hS => ?_)
            try dsimp only at hr53 hB9
            obtain ⟨hP, hD⟩ := mw_join (wr := []) (w1 := [(oG, .inl (cZ, 256, .inl (zB gr3)))]) hP hD [0] [] rfl rfl (by decide) (by decide) hk9 hFr ht9 hB9
            have hP := hP.sub (ws' := [(oG, .inl (cZ, 256, .inl (zB gr3)))]) [0] rfl
            have hD := hD.sub (ws' := [(oG, .inl (cZ, 256, .inl (zB gr3)))]) [0] (by decide) rfl
            have hF := fz_keep hF0 hFA hS
            refine zz_ifneB (tgt := 61) hx hb qd_X_isOrientedAsDue_56 (by decide) (fun h56 => ?_) (fun h56 => ?_)
            · skip
              refine lv_iinc (k := 0) (lv' := [(2, .int (zI (↑(i + 1)))), (0, .ref ox), (1, .int (zI (x)))]) hx hb qd_X_isOrientedAsDue_61 hl rfl (zI_inc (v := ↑(i + 1)) (by omega)) (by decide) rfl (fun ls hl => ?_)
              refine lv_goto (tgt := 19) hx hb qd_X_isOrientedAsDue_64 (by decide) ?_
              exact ih19 _ (by omega) (i + 1) gr3 (by omega) (fun k hk => if h8 : k < i then hz k h8 else (by rw [show k = i by omega]; exact hr53.mp h56)) rfl H53_4 L53_4 hP hD hS ls hl
            · skip
              refine lv_iconst (v := zI 0) hx hb qd_X_isOrientedAsDue_59 rfl ?_
              exact W.zret (v := zI (bI false)) (ty := .boolean) hx hb hr (bI_n _) (fun t9 ht9 hW9 => ⟨⟨false, gr3, rfl, (bF (fun z9 => by rw [hr53.mpr (z9.2 i (by omega))] at h56; exact Bool.noConfusion h56)), mwB_i (by rw [ht9]; exact hP) (va_K.moved hW9.alike hK) hD⟩, hS.F ht9⟩) hS.2.2 qd_X_isOrientedAsDue_60
      exact L19 _ 0 gr (by omega) (fun k hk => absurd hk (Nat.not_lt_zero _)) rfl sg.heap [] hP hD hS ls hl
    · skip
      refine lv_iconst (v := zI 0) hx hb qd_X_isOrientedAsDue_15 rfl ?_
      exact W.zret (v := zI (bI false)) (ty := .boolean) hx hb hr (bI_n _) (fun t9 ht9 hW9 => ⟨⟨false, gr, rfl, (bF (fun z9 => by rw [hr9.mpr ((adm_eq hsy har).mpr (z9.1 (by omega)))] at h12; exact Bool.noConfusion h12)), mwB_i (by rw [ht9]; exact hP) (va_K.moved hW9.alike hK) hD⟩, hS.F ht9⟩) hS.2.2 qd_X_isOrientedAsDue_16
