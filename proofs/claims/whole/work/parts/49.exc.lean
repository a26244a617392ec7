/-! throws: what a state must hold for them -/
def exL : List Cond := [(Jvm.Cond.castable "java/lang/IllegalArgumentException" "java/lang/IllegalArgumentException"), (Jvm.Cond.declares ({ cls := "java/lang/RuntimeException", name := "<init>", desc := "()V" } : Jvm.MethodName)), (Jvm.Cond.declares ({ cls := "java/lang/RuntimeException", name := "<init>", desc := "(Ljava/lang/String;)V" } : Jvm.MethodName)), (Jvm.Cond.declares ({ cls := "java/lang/Exception", name := "<init>", desc := "()V" } : Jvm.MethodName)), (Jvm.Cond.declares ({ cls := "java/lang/Exception", name := "<init>", desc := "(Ljava/lang/String;)V" } : Jvm.MethodName)), (Jvm.Cond.declares ({ cls := "java/lang/Throwable", name := "<init>", desc := "()V" } : Jvm.MethodName)), (Jvm.Cond.declares ({ cls := "java/lang/Throwable", name := "<init>", desc := "(Ljava/lang/String;)V" } : Jvm.MethodName)), (Jvm.Cond.castable "java/lang/IllegalStateException" "java/lang/IllegalStateException"), (Jvm.Cond.castable "java/lang/IndexOutOfBoundsException" "java/lang/IndexOutOfBoundsException")]
def strL : List (Nat × String) := [(51, "an arity is 0 .. 3"), (61, "there are five symbols"), (68, "variables are 0 .. 3"), (194, "the term would be too high or too great"), (196, "there are 160 terms"), (185, "there is no such symbol"), (189, "there is no such term"), (110, "a left term is no variable and has all variables of the right one"), (113, "there are eight rules"), (118, "a rank is 0 .. 4"), (120, "a weight is 0 .. 9"), (187, "the orders are 0 and 1"), (178, "what is asked about a term is 0 .. 3"), (182, "the term has no such place")]
theorem sx_51 : (51, "an arity is 0 .. 3") ∈ strL := List.mem_of_getElem? (i := 0) rfl
theorem sx_61 : (61, "there are five symbols") ∈ strL := List.mem_of_getElem? (i := 1) rfl
theorem sx_68 : (68, "variables are 0 .. 3") ∈ strL := List.mem_of_getElem? (i := 2) rfl
theorem sx_194 : (194, "the term would be too high or too great") ∈ strL := List.mem_of_getElem? (i := 3) rfl
theorem sx_196 : (196, "there are 160 terms") ∈ strL := List.mem_of_getElem? (i := 4) rfl
theorem sx_185 : (185, "there is no such symbol") ∈ strL := List.mem_of_getElem? (i := 5) rfl
theorem sx_189 : (189, "there is no such term") ∈ strL := List.mem_of_getElem? (i := 6) rfl
theorem sx_110 : (110, "a left term is no variable and has all variables of the right one") ∈ strL := List.mem_of_getElem? (i := 7) rfl
theorem sx_113 : (113, "there are eight rules") ∈ strL := List.mem_of_getElem? (i := 8) rfl
theorem sx_118 : (118, "a rank is 0 .. 4") ∈ strL := List.mem_of_getElem? (i := 9) rfl
theorem sx_120 : (120, "a weight is 0 .. 9") ∈ strL := List.mem_of_getElem? (i := 10) rfl
theorem sx_187 : (187, "the orders are 0 and 1") ∈ strL := List.mem_of_getElem? (i := 11) rfl
theorem sx_178 : (178, "what is asked about a term is 0 .. 3") ∈ strL := List.mem_of_getElem? (i := 12) rfl
theorem sx_182 : (182, "the term has no such place") ∈ strL := List.mem_of_getElem? (i := 13) rfl
/-- classes that aren't another's kind -/
def ncL : List (String × String) := [("java/lang/IllegalStateException", "java/lang/IllegalArgumentException"), ("java/lang/IndexOutOfBoundsException", "java/lang/IllegalArgumentException")]
def isEx : Cond → Bool
  | .castable _ _ => true
  | .declares _ => true
  | _ => false
theorem exL_ex : exL.all isEx = true := rfl
theorem exL_in : ∀ w ∈ exL, w ∈ lw_tbl := by
  intro w hw
  simp only [exL, List.mem_cons, List.not_mem_nil, or_false] at hw
  rcases hw with rfl | rfl | rfl | rfl | rfl | rfl | rfl | rfl | rfl
  · exact wd_174
  · exact wd_175
  · exact wd_176
  · exact wd_177
  · exact wd_178
  · exact wd_179
  · exact wd_180
  · exact wd_242
  · exact wd_598
theorem isEx_tab {w : Cond} (h : isEx w = true) : w.onTables = true := by
  cases w <;> first | rfl | exact Bool.noConfusion h
theorem va_Nw.warmE {w : Cond} (hw : isEx w = true) {s U : State} (hW : s.WarmedH U.vm) (h : va_Nw w s) : va_Nw w U := by
  cases w with
  | castable => exact va_Nw.warmC hW h
  | declares => exact va_Nw.warmD hW h
  | _ => exact Bool.noConfusion hw
/-- the words, the two statics of Throwable, the texts -/
def exH (A : Nat → Prop) (U : State) (H : Heap) : Prop := (∀ w ∈ exL, va_Nw w U) ∧ vx_Zq Bundle.tN "UNASSIGNED_STACK" Bundle.steD A U H ∧ vx_Zq Bundle.tN "SUPPRESSED_SENTINEL" Bundle.listD A U H ∧ (∀ x ∈ strL, ∃ sa, vk_R "TermOrders" x.1 x.2 sa U) ∧ ∀ x ∈ ncL, va_Nc x.1 x.2 U
theorem exH.warm {A : Nat → Prop} {s U : State} {H : Heap} (hW : s.WarmedH U.vm) (h : exH A s H) : exH A U H :=
  ⟨fun w hw => va_Nw.warmE (List.all_eq_true.mp exL_ex w hw) hW (h.1 w hw), h.2.1.moved hW.alike, h.2.2.1.moved hW.alike, fun x hx => (h.2.2.2.1 x hx).imp fun _ z => vk_R.warm hW z, fun x hx => va_Nc.moved hW.alike (h.2.2.2.2 x hx)⟩
theorem exH.same {A : Nat → Prop} {u U : State} {H : Heap} (hv : u.vm = U.vm) (h : exH A u H) : exH A U H :=
  ⟨fun w hw => va_Nw.same (isEx_tab (List.all_eq_true.mp exL_ex w hw)) hv (h.1 w hw), h.2.1.moved (by rw [hv]; exact Vm.Alike.refl _), h.2.2.1.moved (by rw [hv]; exact Vm.Alike.refl _), fun x hx => (h.2.2.2.1 x hx).imp fun _ z => vk_R.same hv.symm z, fun x hx => va_Nc.moved (by rw [hv]; exact Vm.Alike.refl _) (h.2.2.2.2 x hx)⟩
theorem exH.kept {A : Nat → Prop} {U : State} {H H1 : Heap} (h : exH A U H) (hq : ∀ a : Nat, a < H.size → ¬ A a → H1[a]? = H[a]?) : exH A U H1 := ⟨h.1, h.2.1.kept hq, h.2.2.1.kept hq, h.2.2.2⟩
theorem exH.narrow {A B : Nat → Prop} {U : State} {H : Heap} (h : exH A U H) (hAB : ∀ q, B q → A q) : exH B U H := ⟨h.1, h.2.1.narrow hAB, h.2.2.1.narrow hAB, h.2.2.2⟩
section ZZExc
variable {p : Program} {l : Launch} {e : Env} {R : Room} {s : State} {m : MethodId} {args : Array Value} {below : List Frame} {meth : Method} {c : Code} {H : Heap} {locs : List Loc} {cells slots : Nat} {Q : State → Prop} {cc : ByteArray} {pc : Nat} {ls : Array Slot} {rest st0 : List Value} {D : va_G} {cl : List vw_C} {tys : List (ClassId × FieldType)} {ws : va_W} {A : Nat → Prop} {H0 : Heap} {nws : List Cond} {av As : List Value} {b : Nat} {C : String}
/-- a method that writes wm, reads wf, and may throw -/
def mxP (D : va_G) (cl : List vw_C) (tys : List (ClassId × FieldType)) (nws : List Cond) (wm wf : va_W) (sz : Nat) (av : List Value) : Array Value → State → Prop := va_Pc av (fun U => (U.heap.size = sz ∧ va_P D cl wm U.heap ∧ va_P D cl wf U.heap ∧ va_K D cl tys U ∧ nwU nws U ∧ va_D (fun _ => True) wm ∧ apw wm wf) ∧ exH (va_A wm sz) U U.heap)
theorem mxP_bl {wm wf : va_W} {sz : Nat} : FrameBlind (mxP D cl tys nws wm wf sz av) := fun a U g mk q => ⟨q.1, ⟨q.2.1.1, q.2.1.2.1, q.2.1.2.2.1, va_K.moved (u := U) (U := U.calling g mk a) (Vm.Alike.refl U.vm) q.2.1.2.2.2.1, nwU.same (u := U) (U := U.calling g mk a) rfl q.2.1.2.2.2.2.1, q.2.1.2.2.2.2.2⟩, exH.same (u := U) (U := U.calling g mk a) rfl q.2.2⟩
theorem mx_preS {wm wf : va_W} (hP : va_P D cl wm H) (hF : va_P D cl wf H) (hK : va_K D cl tys s) (hN : nwU nws s) (hD : va_D A wm) (ha : apw wm wf) (hE : exH (va_A wm H.size) s H) : PreS s H (mxP D cl tys nws wm wf H.size av) av := ⟨mxP_bl, fun U hU hW => ⟨rfl, ⟨by rw [hU], by rw [hU]; exact hP, by rw [hU]; exact hF, va_K.moved hW.alike hK, nwU.warm hW hN, hD.weaken (fun _ _ _ _ => trivial), ha⟩, by rw [hU]; exact exH.warm hW hE⟩⟩
theorem mx_preV {wm wf : va_W} (hr : ∃ cell : Cell, H[b]? = some cell ∧ cell.vm.isStatics = false ∧ s.vm.findClass C = some cell.cls) (hP : va_P D cl wm H) (hF : va_P D cl wf H) (hK : va_K D cl tys s) (hN : nwU nws s) (hD : va_D A wm) (ha : apw wm wf) (hE : exH (va_A wm H.size) s H) : PreV s H C b (mxP D cl tys nws wm wf H.size (.ref b :: As)) As := ⟨mxP_bl, hr, fun U hU hW => ⟨rfl, ⟨by rw [hU], by rw [hU]; exact hP, by rw [hU]; exact hF, va_K.moved hW.alike hK, nwU.warm hW hN, hD.weaken (fun _ _ _ _ => trivial), ha⟩, by rw [hU]; exact exH.warm hW hE⟩⟩
/-- an answer that is a cell that was there -/
def mwR {S : Type} (post : Nat → S → Prop) (B : S → State → Prop) (A : Nat → Prop) : Array Value → State → Outcome → State → Prop := fun _ st oc t => (∃ (r : Nat) (u : S), oc = .returned (some (.ref r)) ∧ post r u ∧ B u t) ∧ va_F A st t
section
variable {mc ms : Nat} {free : Addr → Prop} {A0 A1 AX : Nat → Prop} {a : Array Value} {S SX : Type} {px : SX → Prop} {BX : String → SX → State → Prop} {B : S → State → Prop}

theorem mx_callI {post : Int → S → Prop} (hr : vx_Run p l e R s m args below meth c H locs cells slots mc ms (F0 m pc ls st0) rest (mwI post B A1 a) (vx_X px BX AX) free) (hS : va_S A0 H0 H locs) (hA : ∀ q, q < H.size → A1 q → A0 q) (hf : ∀ q, free q → A0 q) (hAX : ∀ q, q < H.size → AX q → A0 q)
    (kx : ∀ (E : String) (ce : Cell) (q9 : Addr) (u : SX) (t : State) (H1 : Heap) (locs1 : List Loc), t.heap = H1 → s.vm.Alike t.vm → px u → BX E u t → H.size ≤ H1.size → (∀ q : Nat, q < H.size → ¬ AX q → H1[q]? = H[q]?) → va_S A0 H0 H1 locs1 → H1[q9]? = some ce → ce.vm = .none → s.vm.findClass E = some ce.cls → vx_W p l e R s m args below meth c H1 locs1 (cells + mc) (slots + ms) Q (F0 m pc ls rest) q9)
    (kk : ∀ (r : Int) (u : S) (t : State) (H1 : Heap) (locs1 : List Loc), t.heap = H1 → s.vm.Alike t.vm → post r u → B u t → H.size ≤ H1.size → (∀ q : Nat, q < H.size → ¬ A1 q → H1[q]? = H[q]?) → va_S A0 H0 H1 locs1 → W p l e R s m args below meth c H1 locs1 (cells + mc) (slots + ms) Q (F0 m (pc + 3) ls (.int (zI r) :: rest))) : W p l e R s m args below meth c H locs cells slots Q (F0 m pc ls st0) := by
  intro T hT X
  rcases hr T hT X with ⟨v, st₀, t, T', L, h0, X', hL, e1, e2, ⟨⟨r, u, hv, hp, hb⟩, hF⟩, st⟩ | ⟨q, st₀, t, T', L, E, ce, h0, X', hL, e1, e2, ⟨u, hp, hb, hF⟩, hce, hcv, hcl, st⟩
  · cases hv
    obtain ⟨k1, k2, k3⟩ := vx_keep h0 e1 hS hA hf hL hF
    obtain ⟨t2, a1, b1⟩ := kk r u t T'.heap (locs ++ L) e1.symm (by rw [← e2]; exact X'.warmed.alike) hp hb k1 k2 k3 T' rfl X'
    exact ⟨t2, st t2 a1, b1⟩
  · obtain ⟨k1, k2, k3⟩ := vx_keep h0 e1 hS hAX hf hL hF
    obtain ⟨t2, a1, b1⟩ := kx E ce q u t T'.heap (locs ++ L) e1.symm (by rw [← e2]; exact X'.warmed.alike) hp hb k1 k2 k3 (by rw [e1]; exact hce) hcv hcl T' rfl X'
    exact ⟨t2, st.trans a1, b1⟩
theorem mx_callO {post : Bool → S → Prop} (hr : vx_Run p l e R s m args below meth c H locs cells slots mc ms (F0 m pc ls st0) rest (mwO post B A1 a) (vx_X px BX AX) free) (hS : va_S A0 H0 H locs) (hA : ∀ q, q < H.size → A1 q → A0 q) (hf : ∀ q, free q → A0 q) (hAX : ∀ q, q < H.size → AX q → A0 q)
    (kx : ∀ (E : String) (ce : Cell) (q9 : Addr) (u : SX) (t : State) (H1 : Heap) (locs1 : List Loc), t.heap = H1 → s.vm.Alike t.vm → px u → BX E u t → H.size ≤ H1.size → (∀ q : Nat, q < H.size → ¬ AX q → H1[q]? = H[q]?) → va_S A0 H0 H1 locs1 → H1[q9]? = some ce → ce.vm = .none → s.vm.findClass E = some ce.cls → vx_W p l e R s m args below meth c H1 locs1 (cells + mc) (slots + ms) Q (F0 m pc ls rest) q9)
    (kk : ∀ (r : Bool) (u : S) (t : State) (H1 : Heap) (locs1 : List Loc), t.heap = H1 → s.vm.Alike t.vm → post r u → B u t → H.size ≤ H1.size → (∀ q : Nat, q < H.size → ¬ A1 q → H1[q]? = H[q]?) → va_S A0 H0 H1 locs1 → W p l e R s m args below meth c H1 locs1 (cells + mc) (slots + ms) Q (F0 m (pc + 3) ls (.int (zI (bI r)) :: rest))) : W p l e R s m args below meth c H locs cells slots Q (F0 m pc ls st0) := by
  intro T hT X
  rcases hr T hT X with ⟨v, st₀, t, T', L, h0, X', hL, e1, e2, ⟨⟨r, u, hv, hp, hb⟩, hF⟩, st⟩ | ⟨q, st₀, t, T', L, E, ce, h0, X', hL, e1, e2, ⟨u, hp, hb, hF⟩, hce, hcv, hcl, st⟩
  · cases hv
    obtain ⟨k1, k2, k3⟩ := vx_keep h0 e1 hS hA hf hL hF
    obtain ⟨t2, a1, b1⟩ := kk r u t T'.heap (locs ++ L) e1.symm (by rw [← e2]; exact X'.warmed.alike) hp hb k1 k2 k3 T' rfl X'
    exact ⟨t2, st t2 a1, b1⟩
  · obtain ⟨k1, k2, k3⟩ := vx_keep h0 e1 hS hAX hf hL hF
    obtain ⟨t2, a1, b1⟩ := kx E ce q u t T'.heap (locs ++ L) e1.symm (by rw [← e2]; exact X'.warmed.alike) hp hb k1 k2 k3 (by rw [e1]; exact hce) hcv hcl T' rfl X'
    exact ⟨t2, st.trans a1, b1⟩
theorem mx_callR {post : Nat → S → Prop} (hr : vx_Run p l e R s m args below meth c H locs cells slots mc ms (F0 m pc ls st0) rest (mwR post B A1 a) (vx_X px BX AX) free) (hS : va_S A0 H0 H locs) (hA : ∀ q, q < H.size → A1 q → A0 q) (hf : ∀ q, free q → A0 q) (hAX : ∀ q, q < H.size → AX q → A0 q)
    (kx : ∀ (E : String) (ce : Cell) (q9 : Addr) (u : SX) (t : State) (H1 : Heap) (locs1 : List Loc), t.heap = H1 → s.vm.Alike t.vm → px u → BX E u t → H.size ≤ H1.size → (∀ q : Nat, q < H.size → ¬ AX q → H1[q]? = H[q]?) → va_S A0 H0 H1 locs1 → H1[q9]? = some ce → ce.vm = .none → s.vm.findClass E = some ce.cls → vx_W p l e R s m args below meth c H1 locs1 (cells + mc) (slots + ms) Q (F0 m pc ls rest) q9)
    (kk : ∀ (r : Nat) (u : S) (t : State) (H1 : Heap) (locs1 : List Loc), t.heap = H1 → s.vm.Alike t.vm → post r u → B u t → H.size ≤ H1.size → (∀ q : Nat, q < H.size → ¬ A1 q → H1[q]? = H[q]?) → va_S A0 H0 H1 locs1 → W p l e R s m args below meth c H1 locs1 (cells + mc) (slots + ms) Q (F0 m (pc + 3) ls (.ref r :: rest))) : W p l e R s m args below meth c H locs cells slots Q (F0 m pc ls st0) := by
  intro T hT X
  rcases hr T hT X with ⟨v, st₀, t, T', L, h0, X', hL, e1, e2, ⟨⟨r, u, hv, hp, hb⟩, hF⟩, st⟩ | ⟨q, st₀, t, T', L, E, ce, h0, X', hL, e1, e2, ⟨u, hp, hb, hF⟩, hce, hcv, hcl, st⟩
  · cases hv
    obtain ⟨k1, k2, k3⟩ := vx_keep h0 e1 hS hA hf hL hF
    obtain ⟨t2, a1, b1⟩ := kk r u t T'.heap (locs ++ L) e1.symm (by rw [← e2]; exact X'.warmed.alike) hp hb k1 k2 k3 T' rfl X'
    exact ⟨t2, st t2 a1, b1⟩
  · obtain ⟨k1, k2, k3⟩ := vx_keep h0 e1 hS hAX hf hL hF
    obtain ⟨t2, a1, b1⟩ := kx E ce q u t T'.heap (locs ++ L) e1.symm (by rw [← e2]; exact X'.warmed.alike) hp hb k1 k2 k3 (by rw [e1]; exact hce) hcv hcl T' rfl X'
    exact ⟨t2, st.trans a1, b1⟩
end
/-- the world where a throw has left -/
theorem zx_x (hP : va_P D cl ws H) (hK : va_K D cl tys s) (hD : va_D A ws) (hS : va_S A s.heap H locs) {t : State} (h1 : s.vm.Alike t.vm) (h2 : H.size ≤ t.heap.size) (h3 : ∀ q : Nat, q < H.size → t.heap[q]? = H[q]?) : mwB D cl tys A ws t ∧ va_F A s t :=
  ⟨⟨hP.kept (fun k q hk => h3 _ (hP k q hk).lt), va_K.moved h1 hK, hD⟩, Nat.le_trans hS.1 h2, fun q q1 q2 => (h3 q (Nat.lt_of_lt_of_le q1 hS.1)).trans (hS.2.1 q q1 q2)⟩
theorem zx_o (hP : va_P D cl ws H) (hK : va_K D cl tys s) (hD : va_D A ws) (hS : va_S A s.heap H locs) {t : State} (h1 : t.heap = H) (h2 : s.vm.Alike t.vm) : mwB D cl tys A ws t ∧ va_F A s t :=
  ⟨⟨by rw [h1]; exact hP, va_K.moved h2 hK, hD⟩, hS.F h1⟩
theorem xg_a : ∀ w ∈ (vx_atS "TermOrders" 53 "java/lang/IllegalArgumentException" ["java/lang/RuntimeException", "java/lang/Exception"]).filter goodWord, w ∈ lw_tbl := by decide +kernel
theorem xb_a : ∀ w ∈ (vx_atS "TermOrders" 53 "java/lang/IllegalArgumentException" ["java/lang/RuntimeException", "java/lang/Exception"]).filter (fun w => !goodWord w), w ∈ exL := by decide +kernel
theorem xo_a : ∀ w ∈ Cond.classLink "TermOrders" 49 "java/lang/IllegalArgumentException" :: Cond.initialized "java/lang/IllegalArgumentException" :: (vx_atS "TermOrders" 53 "java/lang/IllegalArgumentException" ["java/lang/RuntimeException", "java/lang/Exception"]), vx_ot w = true := by decide +kernel
theorem xh_a (hg : ∀ w ∈ gw, w.before args s = true) (hE : exH A s H) : ∀ w ∈ (vx_atS "TermOrders" 53 "java/lang/IllegalArgumentException" ["java/lang/RuntimeException", "java/lang/Exception"]), w.before args s = true := vx_hat (fun w h => hg w (List.mem_filter.mpr ⟨xg_a w h, (List.mem_filter.mp h).2⟩)) xb_a (fun w h => va_Nw.use (isEx_tab (List.all_eq_true.mp exL_ex w h)) (hE.1 w h))
theorem zx_throw_a {Qc : Array Value → State → Outcome → State → Prop} {XC : String → State → State → Prop} {mc ms : Nat} {free : Addr → Prop} {text : String} {is : Nat} (hexec : p.tables.exec = Jvm.exec) (hb : c.code = cc) (hl : l.stackTraces = false) (hown : s.vm.findClass "TermOrders" = some m.cls) (hg : ∀ w ∈ gw, w.before args s = true) (hE : exH A s s.heap) (htx : (is, text) ∈ strL) (hS : va_S A s.heap H locs) (hsize : ls.size = c.maxLocals)
    (d0 : decode cc pc = .ok (.new 49, 3)) (d3 : decode cc (pc + 3) = .ok (.dup, 1)) (d4 : decode cc (pc + 4) = .ok (.ldc is, 2)) (d6 : decode cc (pc + 6) = .ok (.invokespecial 53, 3)) (d9 : decode cc (pc + 9) = .ok (.athrow, 1)) (hout : ∀ x ∈ c.exceptionTable.toList, False) (hRf : 5 < R.frames) (hRl : (rest.map fun v => v.category).sum + 82 ≤ R.locals) (hRc : cells + 1 ≤ R.cells) (hRs : slots + 6 ≤ R.slots) (hlocks : meth.locks = false)
    (hx : ∀ t : State, s.vm.Alike t.vm → H.size ≤ t.heap.size → (∀ q : Nat, q < H.size → t.heap[q]? = H[q]?) → XC "java/lang/IllegalArgumentException" s t) (hf : ∀ z ∈ locs, free z.base) (hc : cells + 1 ≤ mc) (hs : slots + 6 ≤ ms) :
    W p l e R s m args below meth c H locs cells slots (vx_MQ below Qc XC args s mc ms free) (F0 m pc ls rest) := by
  obtain ⟨sa, hsa⟩ := hE.2.2.2.1 _ htx
  exact vx_throwS (names := ["java/lang/RuntimeException", "java/lang/Exception"]) (cls := "java/lang/IllegalArgumentException") hexec hb hl hown (by decide +kernel) (by decide +kernel) (hg _ wd_172) (hg _ wd_10) hsa (xh_a hg hE) xo_a hE.2.1 hE.2.2.1 hS hsize d0 d3 d4 d6 d9 (fun x h => (hout x h).elim) hRf hRl hRc hRs hlocks hx hf hc hs
theorem xg_s : ∀ w ∈ (vx_atS "TermOrders" 63 "java/lang/IllegalStateException" ["java/lang/RuntimeException", "java/lang/Exception"]).filter goodWord, w ∈ lw_tbl := by decide +kernel
theorem xb_s : ∀ w ∈ (vx_atS "TermOrders" 63 "java/lang/IllegalStateException" ["java/lang/RuntimeException", "java/lang/Exception"]).filter (fun w => !goodWord w), w ∈ exL := by decide +kernel
theorem xo_s : ∀ w ∈ Cond.classLink "TermOrders" 59 "java/lang/IllegalStateException" :: Cond.initialized "java/lang/IllegalStateException" :: (vx_atS "TermOrders" 63 "java/lang/IllegalStateException" ["java/lang/RuntimeException", "java/lang/Exception"]), vx_ot w = true := by decide +kernel
theorem xh_s (hg : ∀ w ∈ gw, w.before args s = true) (hE : exH A s H) : ∀ w ∈ (vx_atS "TermOrders" 63 "java/lang/IllegalStateException" ["java/lang/RuntimeException", "java/lang/Exception"]), w.before args s = true := vx_hat (fun w h => hg w (List.mem_filter.mpr ⟨xg_s w h, (List.mem_filter.mp h).2⟩)) xb_s (fun w h => va_Nw.use (isEx_tab (List.all_eq_true.mp exL_ex w h)) (hE.1 w h))
theorem zx_throw_s {Qc : Array Value → State → Outcome → State → Prop} {XC : String → State → State → Prop} {mc ms : Nat} {free : Addr → Prop} {text : String} {is : Nat} (hexec : p.tables.exec = Jvm.exec) (hb : c.code = cc) (hl : l.stackTraces = false) (hown : s.vm.findClass "TermOrders" = some m.cls) (hg : ∀ w ∈ gw, w.before args s = true) (hE : exH A s s.heap) (htx : (is, text) ∈ strL) (hS : va_S A s.heap H locs) (hsize : ls.size = c.maxLocals)
    (d0 : decode cc pc = .ok (.new 59, 3)) (d3 : decode cc (pc + 3) = .ok (.dup, 1)) (d4 : decode cc (pc + 4) = .ok (.ldc is, 2)) (d6 : decode cc (pc + 6) = .ok (.invokespecial 63, 3)) (d9 : decode cc (pc + 9) = .ok (.athrow, 1)) (hout : ∀ x ∈ c.exceptionTable.toList, False) (hRf : 5 < R.frames) (hRl : (rest.map fun v => v.category).sum + 82 ≤ R.locals) (hRc : cells + 1 ≤ R.cells) (hRs : slots + 6 ≤ R.slots) (hlocks : meth.locks = false)
    (hx : ∀ t : State, s.vm.Alike t.vm → H.size ≤ t.heap.size → (∀ q : Nat, q < H.size → t.heap[q]? = H[q]?) → XC "java/lang/IllegalStateException" s t) (hf : ∀ z ∈ locs, free z.base) (hc : cells + 1 ≤ mc) (hs : slots + 6 ≤ ms) :
    W p l e R s m args below meth c H locs cells slots (vx_MQ below Qc XC args s mc ms free) (F0 m pc ls rest) := by
  obtain ⟨sa, hsa⟩ := hE.2.2.2.1 _ htx
  exact vx_throwS (names := ["java/lang/RuntimeException", "java/lang/Exception"]) (cls := "java/lang/IllegalStateException") hexec hb hl hown (by decide +kernel) (by decide +kernel) (hg _ wd_240) (hg _ wd_11) hsa (xh_s hg hE) xo_s hE.2.1 hE.2.2.1 hS hsize d0 d3 d4 d6 d9 (fun x h => (hout x h).elim) hRf hRl hRc hRs hlocks hx hf hc hs
theorem xg_i : ∀ w ∈ (vx_atS "TermOrders" 184 "java/lang/IndexOutOfBoundsException" ["java/lang/RuntimeException", "java/lang/Exception"]).filter goodWord, w ∈ lw_tbl := by decide +kernel
theorem xb_i : ∀ w ∈ (vx_atS "TermOrders" 184 "java/lang/IndexOutOfBoundsException" ["java/lang/RuntimeException", "java/lang/Exception"]).filter (fun w => !goodWord w), w ∈ exL := by decide +kernel
theorem xo_i : ∀ w ∈ Cond.classLink "TermOrders" 180 "java/lang/IndexOutOfBoundsException" :: Cond.initialized "java/lang/IndexOutOfBoundsException" :: (vx_atS "TermOrders" 184 "java/lang/IndexOutOfBoundsException" ["java/lang/RuntimeException", "java/lang/Exception"]), vx_ot w = true := by decide +kernel
theorem xh_i (hg : ∀ w ∈ gw, w.before args s = true) (hE : exH A s H) : ∀ w ∈ (vx_atS "TermOrders" 184 "java/lang/IndexOutOfBoundsException" ["java/lang/RuntimeException", "java/lang/Exception"]), w.before args s = true := vx_hat (fun w h => hg w (List.mem_filter.mpr ⟨xg_i w h, (List.mem_filter.mp h).2⟩)) xb_i (fun w h => va_Nw.use (isEx_tab (List.all_eq_true.mp exL_ex w h)) (hE.1 w h))
theorem zx_throw_i {Qc : Array Value → State → Outcome → State → Prop} {XC : String → State → State → Prop} {mc ms : Nat} {free : Addr → Prop} {text : String} {is : Nat} (hexec : p.tables.exec = Jvm.exec) (hb : c.code = cc) (hl : l.stackTraces = false) (hown : s.vm.findClass "TermOrders" = some m.cls) (hg : ∀ w ∈ gw, w.before args s = true) (hE : exH A s s.heap) (htx : (is, text) ∈ strL) (hS : va_S A s.heap H locs) (hsize : ls.size = c.maxLocals)
    (d0 : decode cc pc = .ok (.new 180, 3)) (d3 : decode cc (pc + 3) = .ok (.dup, 1)) (d4 : decode cc (pc + 4) = .ok (.ldc is, 2)) (d6 : decode cc (pc + 6) = .ok (.invokespecial 184, 3)) (d9 : decode cc (pc + 9) = .ok (.athrow, 1)) (hout : ∀ x ∈ c.exceptionTable.toList, False) (hRf : 5 < R.frames) (hRl : (rest.map fun v => v.category).sum + 82 ≤ R.locals) (hRc : cells + 1 ≤ R.cells) (hRs : slots + 6 ≤ R.slots) (hlocks : meth.locks = false)
    (hx : ∀ t : State, s.vm.Alike t.vm → H.size ≤ t.heap.size → (∀ q : Nat, q < H.size → t.heap[q]? = H[q]?) → XC "java/lang/IndexOutOfBoundsException" s t) (hf : ∀ z ∈ locs, free z.base) (hc : cells + 1 ≤ mc) (hs : slots + 6 ≤ ms) :
    W p l e R s m args below meth c H locs cells slots (vx_MQ below Qc XC args s mc ms free) (F0 m pc ls rest) := by
  obtain ⟨sa, hsa⟩ := hE.2.2.2.1 _ htx
  exact vx_throwS (names := ["java/lang/RuntimeException", "java/lang/Exception"]) (cls := "java/lang/IndexOutOfBoundsException") hexec hb hl hown (by decide +kernel) (by decide +kernel) (hg _ wd_596) (hg _ wd_16) hsa (xh_i hg hE) xo_i hE.2.1 hE.2.2.1 hS hsize d0 d3 d4 d6 d9 (fun x h => (hout x h).elim) hRf hRl hRc hRs hlocks hx hf hc hs
end ZZExc
