section ZZForms
variable {p : Program} {l : Launch} {e : Env} {R : Room} {s : State} {m : MethodId} {args : Array Value} {below : List Frame} {meth : Method} {c : Code} {H : Heap} {locs : List Loc} {cells slots : Nat} {Q : State → Prop} {cc : ByteArray} {pc : Nat} {ls : Array Slot} {rest st0 : List Value} {D : va_G} {cl : List vw_C} {tys : List (ClassId × FieldType)} {ws : va_W} {A : Nat → Prop} {H0 : Heap} {nws : List Cond} {av As : List Value} {b : Nat} {C : String}
/-- words across the nest -/
def isNw : Cond → Bool
  | .fieldLinkNest _ _ _ _ _ _ => true
  | .methodLinkNest _ _ _ _ => true
  | .castable _ _ => true
  | .arrayOver (.object _) => true
  | _ => false
def nwU (nws : List Cond) (U : State) : Prop := nws.all isNw = true ∧ ∀ w ∈ nws, va_Nw w U
theorem nwU.warm {U : State} (hW : s.WarmedH U.vm) (h : nwU nws s) : nwU nws U := by
  refine ⟨h.1, fun w hw => ?_⟩
  have h1 := h.2 w hw
  have h2 := List.all_eq_true.mp h.1 w hw
  cases w with
  | fieldLinkNest => exact va_Nw.warmF hW h1
  | methodLinkNest => exact va_Nw.warmM hW h1
  | castable => exact va_Nw.warmC hW h1
  | arrayOver ty => cases ty <;> first | exact Bool.noConfusion h2 | exact va_AO.moved hW.alike h1
  | _ => exact Bool.noConfusion h2
theorem nwU.same {u U : State} (hvm : u.vm = U.vm) (h : nwU nws u) : nwU nws U := by
  refine ⟨h.1, fun w hw => ?_⟩
  have h1 := h.2 w hw
  have h2 := List.all_eq_true.mp h.1 w hw
  cases w with
  | fieldLinkNest => exact va_Nw.same rfl hvm h1
  | methodLinkNest => exact va_Nw.same rfl hvm h1
  | castable => exact va_Nw.same rfl hvm h1
  | arrayOver ty => cases ty <;> first | exact Bool.noConfusion h2 | exact va_AO.moved (by rw [hvm]; exact Vm.Alike.refl _) h1
  | _ => exact Bool.noConfusion h2
theorem nwU.use (h : nwU nws s) {w : Cond} (hw : w ∈ nws) : va_Nw w s := h.2 w hw
/-- a method that only reads -/
def rdP (D : va_G) (cl : List vw_C) (tys : List (ClassId × FieldType)) (nws : List Cond) (ws : va_W) (av : List Value) : Array Value → State → Prop := va_Pc av (fun U => va_P D cl ws U.heap ∧ va_K D cl tys U ∧ nwU nws U)
def rdI (post : Int → Prop) : Array Value → State → Outcome → State → Prop := fun _ st o t => ∃ r : Int, o = .returned (some (.int (zI r))) ∧ post r ∧ t.heap = st.heap
def rdB (post : Prop) : Array Value → State → Outcome → State → Prop := fun _ st o t => ∃ r : Bool, o = .returned (some (.int (zI (bI r)))) ∧ (r = true ↔ post) ∧ t.heap = st.heap
theorem rdP_bl : FrameBlind (rdP D cl tys nws ws av) := fun a U g mk q => ⟨q.1, q.2.1, va_K.moved (u := U) (U := U.calling g mk a) (Vm.Alike.refl U.vm) q.2.2.1, nwU.same (u := U) (U := U.calling g mk a) rfl q.2.2.2⟩
theorem rd_preS (hP : va_P D cl ws H) (hK : va_K D cl tys s) (hN : nwU nws s) : PreS s H (rdP D cl tys nws ws av) av := ⟨rdP_bl, fun U hU hW => ⟨rfl, by rw [hU]; exact hP, va_K.moved hW.alike hK, nwU.warm hW hN⟩⟩
theorem rd_preV (hr : ∃ cell : Cell, H[b]? = some cell ∧ cell.vm.isStatics = false ∧ s.vm.findClass C = some cell.cls) (hP : va_P D cl ws H) (hK : va_K D cl tys s) (hN : nwU nws s) : PreV s H C b (rdP D cl tys nws ws (.ref b :: As)) As := ⟨rdP_bl, hr, fun U hU hW => ⟨rfl, by rw [hU]; exact hP, va_K.moved hW.alike hK, nwU.warm hW hN⟩⟩
theorem rd_callI {post : Int → Prop} {a : Array Value} (hr : CallRun p l e R s m args below meth c H locs cells slots 0 0 (F0 m pc ls st0) rest (rdI post a) (fun _ => False)) (kk : ∀ r : Int, post r → W p l e R s m args below meth c H locs cells slots Q (F0 m (pc + 3) ls (.int (zI r) :: rest))) : W p l e R s m args below meth c H locs cells slots Q (F0 m pc ls st0) := by
  intro T hT X
  obtain ⟨v, st₀, t, T', L, h0, X', hL, e1, ⟨r, hv, hp, hh⟩, st⟩ := hr T hT X
  cases hv
  obtain ⟨t2, a1, b1⟩ := kk r hp T' (by rw [e1, hh, h0]) (Stand.forget X' (fun q h => (hL q h).elim))
  exact ⟨t2, st t2 a1, b1⟩
theorem rd_callB {post : Prop} {a : Array Value} (hr : CallRun p l e R s m args below meth c H locs cells slots 0 0 (F0 m pc ls st0) rest (rdB post a) (fun _ => False)) (kk : ∀ r : Bool, (r = true ↔ post) → W p l e R s m args below meth c H locs cells slots Q (F0 m (pc + 3) ls (.int (zI (bI r)) :: rest))) : W p l e R s m args below meth c H locs cells slots Q (F0 m pc ls st0) := by
  intro T hT X
  obtain ⟨v, st₀, t, T', L, h0, X', hL, e1, ⟨r, hv, hp, hh⟩, st⟩ := hr T hT X
  cases hv
  obtain ⟨t2, a1, b1⟩ := kk r hp T' (by rw [e1, hh, h0]) (Stand.forget X' (fun q h => (hL q h).elim))
  exact ⟨t2, st t2 a1, b1⟩
/-- a method that writes wm, reads wf -/
def mwP (D : va_G) (cl : List vw_C) (tys : List (ClassId × FieldType)) (nws : List Cond) (wm wf : va_W) (sz : Nat) (av : List Value) : Array Value → State → Prop := va_Pc av (fun U => U.heap.size = sz ∧ va_P D cl wm U.heap ∧ va_P D cl wf U.heap ∧ va_K D cl tys U ∧ nwU nws U ∧ va_D (fun _ => True) wm ∧ apw wm wf)
def mwB (D : va_G) (cl : List vw_C) (tys : List (ClassId × FieldType)) (A : Nat → Prop) (w1 : va_W) (t : State) : Prop := va_P D cl w1 t.heap ∧ va_K D cl tys t ∧ va_D A w1
theorem mwP_bl {wm wf : va_W} {sz : Nat} : FrameBlind (mwP D cl tys nws wm wf sz av) := fun a U g mk q => ⟨q.1, q.2.1, q.2.2.1, q.2.2.2.1, va_K.moved (u := U) (U := U.calling g mk a) (Vm.Alike.refl U.vm) q.2.2.2.2.1, nwU.same (u := U) (U := U.calling g mk a) rfl q.2.2.2.2.2.1, q.2.2.2.2.2.2⟩
theorem mw_preS {wm wf : va_W} (hP : va_P D cl wm H) (hF : va_P D cl wf H) (hK : va_K D cl tys s) (hN : nwU nws s) (hD : va_D A wm) (ha : apw wm wf) : PreS s H (mwP D cl tys nws wm wf H.size av) av := ⟨mwP_bl, fun U hU hW => ⟨rfl, by rw [hU], by rw [hU]; exact hP, by rw [hU]; exact hF, va_K.moved hW.alike hK, nwU.warm hW hN, hD.weaken (fun _ _ _ _ => trivial), ha⟩⟩
theorem mw_preV {wm wf : va_W} (hr : ∃ cell : Cell, H[b]? = some cell ∧ cell.vm.isStatics = false ∧ s.vm.findClass C = some cell.cls) (hP : va_P D cl wm H) (hF : va_P D cl wf H) (hK : va_K D cl tys s) (hN : nwU nws s) (hD : va_D A wm) (ha : apw wm wf) : PreV s H C b (mwP D cl tys nws wm wf H.size (.ref b :: As)) As := ⟨mwP_bl, hr, fun U hU hW => ⟨rfl, by rw [hU], by rw [hU]; exact hP, by rw [hU]; exact hF, va_K.moved hW.alike hK, nwU.warm hW hN, hD.weaken (fun _ _ _ _ => trivial), ha⟩⟩
theorem mw_join {A0 : Nat → Prop} {wc wr w1 : va_W} {H1 : Heap} {t : State} (hP : va_P D cl ws H) (hD : va_D A0 ws) (isC isR : List Nat) (hC : isC.map (fun i => ws[i]?) = wc.map some) (hR : isR.map (fun i => ws[i]?) = wr.map some) (hn : va_nd isR = true) (hdis : ∀ i ∈ isR, i ∉ isC) (hk : ∀ q : Nat, q < H.size → ¬ va_A wc H.size q → H1[q]? = H[q]?) (hF : ∀ q, va_A wc H.size q → A0 q) (ht : t.heap = H1) (hB : mwB D cl tys (va_A wc H.size) w1 t) : va_P D cl (wr ++ w1) H1 ∧ va_D A0 (wr ++ w1) :=
  va_join hP hD isC isR hC hR hn hdis hk hF (by rw [← ht]; exact hB.1) hB.2.2
/-- an array's picture speaks of its places alone -/
theorem pw_cell {cA : ClassId} {n : Nat} {f g : Nat → Int32} (h : ∀ j, j < n → f j = g j) : vp_cell cA (n, .inl f) = vp_cell cA (n, .inl g) := by
  rw [vp_cell_i, vp_cell_i]
  unfold arrV
  have e1 : (Array.ofFn fun j : Fin n => Value.int (f j.val)) = Array.ofFn fun j : Fin n => Value.int (g j.val) := by
    congr 1
    funext j
    rw [h j.val j.isLt]
  rw [e1]
/-- answers of methods that write -/
def mwI {S : Type} (post : Int → S → Prop) (B : S → State → Prop) (A : Nat → Prop) : Array Value → State → Outcome → State → Prop := fun _ st oc t => (∃ (r : Int) (u : S), oc = .returned (some (.int (zI r))) ∧ post r u ∧ B u t) ∧ va_F A st t
def mwO {S : Type} (post : Bool → S → Prop) (B : S → State → Prop) (A : Nat → Prop) : Array Value → State → Outcome → State → Prop := fun _ st oc t => (∃ (r : Bool) (u : S), oc = .returned (some (.int (zI (bI r)))) ∧ post r u ∧ B u t) ∧ va_F A st t
theorem mwB_i {w1 : va_W} {t : State} (h1 : va_P D cl w1 t.heap) (h2 : va_K D cl tys t) (h3 : va_D A w1) : mwB D cl tys A w1 t := ⟨h1, h2, h3⟩
section MwCalls
variable {A0 A1 : Nat → Prop} {mc ms : Nat} {free : Addr → Prop} {a : Array Value}
theorem mw_callI {S : Type} {post : Int → S → Prop} {B : S → State → Prop} (hr : va_Run p l e R s m args below meth c H locs cells slots mc ms (F0 m pc ls st0) rest (mwI post B A1 a) free) (hS : va_S A0 H0 H locs) (hA : ∀ q, q < H.size → A1 q → A0 q) (hf : ∀ q, free q → A0 q) (kk : ∀ (r : Int) (u : S) (t : State) (H1 : Heap) (locs1 : List Loc), t.heap = H1 → s.vm.Alike t.vm → post r u → B u t → H.size ≤ H1.size → (∀ q : Nat, q < H.size → ¬ A1 q → H1[q]? = H[q]?) → va_S A0 H0 H1 locs1 → W p l e R s m args below meth c H1 locs1 (cells + mc) (slots + ms) Q (F0 m (pc + 3) ls (.int (zI r) :: rest))) : W p l e R s m args below meth c H locs cells slots Q (F0 m pc ls st0) := by
  intro T hT X
  obtain ⟨v, st₀, t, T', L, h0, X', hL, e1, e2, ⟨⟨r, u, hv, hp, hb⟩, hF⟩, st⟩ := hr T hT X
  cases hv
  obtain ⟨k1, k2, k3⟩ := vx_keep h0 e1 hS hA hf hL hF
  obtain ⟨t2, a1, b1⟩ := kk r u t T'.heap (locs ++ L) e1.symm (by rw [← e2]; exact X'.warmed.alike) hp hb k1 k2 k3 T' rfl X'
  exact ⟨t2, st t2 a1, b1⟩
theorem mw_callO {S : Type} {post : Bool → S → Prop} {B : S → State → Prop} (hr : va_Run p l e R s m args below meth c H locs cells slots mc ms (F0 m pc ls st0) rest (mwO post B A1 a) free) (hS : va_S A0 H0 H locs) (hA : ∀ q, q < H.size → A1 q → A0 q) (hf : ∀ q, free q → A0 q) (kk : ∀ (r : Bool) (u : S) (t : State) (H1 : Heap) (locs1 : List Loc), t.heap = H1 → s.vm.Alike t.vm → post r u → B u t → H.size ≤ H1.size → (∀ q : Nat, q < H.size → ¬ A1 q → H1[q]? = H[q]?) → va_S A0 H0 H1 locs1 → W p l e R s m args below meth c H1 locs1 (cells + mc) (slots + ms) Q (F0 m (pc + 3) ls (.int (zI (bI r)) :: rest))) : W p l e R s m args below meth c H locs cells slots Q (F0 m pc ls st0) := by
  intro T hT X
  obtain ⟨v, st₀, t, T', L, h0, X', hL, e1, e2, ⟨⟨r, u, hv, hp, hb⟩, hF⟩, st⟩ := hr T hT X
  cases hv
  obtain ⟨k1, k2, k3⟩ := vx_keep h0 e1 hS hA hf hL hF
  obtain ⟨t2, a1, b1⟩ := kk r u t T'.heap (locs ++ L) e1.symm (by rw [← e2]; exact X'.warmed.alike) hp hb k1 k2 k3 T' rfl X'
  exact ⟨t2, st t2 a1, b1⟩
end MwCalls
theorem cA_uq {cA c0 : ClassId} {ty : FieldType} (t0 : Nat) (h2 : va_K D cl (tys ++ [(cA, ty)]) s) (hk : tys[t0]? = some (c0, ty)) : cA = c0 := by
  have a1 := (h2.2 tys.length (cA, ty) (by simp)).2
  have a2 := (h2.2 t0 (c0, ty) (by rw [List.getElem?_append_left (by have := (List.getElem?_eq_some_iff.mp hk).1; exact this)]; exact hk)).2
  cases ty with
  | object C =>
    obtain ⟨k1, c1, b1, b2, b3, b4⟩ := a1
    obtain ⟨k2, c2, d1, d2, d3, d4⟩ := a2
    exact Option.some.inj (b4.symm.trans d4)
  | _ => exact Option.some.inj (a1.symm.trans a2)
def un (f : Nat → Nat) (k x : Nat) : Nat → Nat := fun j => if j = k then x else f j
theorem un_s (f : Nat → Nat) (k x : Nat) : un f k x k = x := by simp [un]
theorem un_n (f : Nat → Nat) {k j : Nat} (x : Nat) (h : j ≠ k) : un f k x j = f j := by simp [un, h]
/-- another picture of the same array -/
theorem pw_ext {q0 : Nat} {a9 : Nat} {cA : ClassId} {n : Nat} {f g : Nat → Int32} (hP : va_P D cl ws H) (h0 : ws[q0]? = some (a9, .inl (cA, n, .inl f))) (h : ∀ j, j < n → f j = g j) : va_P D cl (ws.set q0 (a9, .inl (cA, n, .inl g))) H := by
  intro k q hk
  by_cases hkq : k = q0
  · subst hkq
    have hl := (List.getElem?_eq_some_iff.mp h0).1
    rw [List.getElem?_set_self hl] at hk
    cases hk
    have h1 := hP k _ h0
    show H[a9]? = some (vp_cell cA (n, .inl g))
    rw [← pw_cell h]
    exact h1
  · rw [List.getElem?_set_ne (fun e9 => hkq e9.symm)] at hk
    exact hP k q hk
theorem dw_ext {q0 : Nat} {a9 : Nat} {e1 e2 : va_E} (hD : va_D A ws) (h0 : ws[q0]? = some (a9, e1)) : va_D A (ws.set q0 (a9, e2)) := hD.set h0
end ZZForms
