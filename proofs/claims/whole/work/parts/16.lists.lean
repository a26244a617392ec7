/-- a stretch of a row -/
def seg (h : Nat → Int) (a b : Nat) : List Int := (List.range (b - a)).map (fun k => h (a + k))
theorem seg_len (h : Nat → Int) (a b : Nat) : (seg h a b).length = b - a := by simp [seg]
theorem seg_get (h : Nat → Int) {a b k : Nat} (hk : k < b - a) : (seg h a b).getD k 0 = h (a + k) := by
  simp [seg, List.getD_eq_getElem?_getD, List.getElem?_range hk]
theorem seg_s (h : Nat → Int) {a b : Nat} (hab : a ≤ b) : seg h a (b + 1) = seg h a b ++ [h b] := by
  have e1 : b + 1 - a = (b - a) + 1 := by omega
  have e2 : a + (b - a) = b := by omega
  simp only [seg, e1, List.range_succ, List.map_append, List.map_cons, List.map_nil, e2]
theorem seg_nil (h : Nat → Int) (a : Nat) : seg h a a = [] := by simp [seg]
theorem seg_cg {h h' : Nat → Int} {a b : Nat} (hh : ∀ k, a ≤ k → k < b → h k = h' k) : seg h a b = seg h' a b := by
  unfold seg
  refine List.map_congr_left (fun k hk => ?_)
  have := List.mem_range.mp hk
  exact hh _ (by omega) (by omega)
theorem seg_app (h : Nat → Int) {a b c : Nat} (h1 : a ≤ b) (h2 : b ≤ c) : seg h a c = seg h a b ++ seg h b c := by
  obtain ⟨d, rfl⟩ : ∃ d, c = b + d := ⟨c - b, by omega⟩
  clear h2
  induction d with
  | zero => rw [Nat.add_zero, seg_nil, List.append_nil]
  | succ d ih => rw [← Nat.add_assoc, seg_s h (by omega), ih, seg_s h (by omega), List.append_assoc]
/-- how much is needed, place by place, and nothing behind the end -/
def Lu (ar : Nat → Int) : Int → List Int → Prop
  | d, [] => d = 0
  | d, c :: r => 0 < d ∧ Lu ar (d - 1 + mny ar c) r
theorem Lu_pos {ar : Nat → Int} : ∀ {l : List Int} {d : Int}, Lu ar d l → 0 ≤ d := by
  intro l d h
  cases l with
  | nil => exact Int.le_of_eq h.symm
  | cons c r => have := h.1; omega
theorem Lu_app {ar : Nat → Int} : ∀ {l1 l2 : List Int} {d1 d2 : Int}, Lu ar d1 l1 → Lu ar d2 l2 → Lu ar (d1 + d2) (l1 ++ l2) := by
  intro l1
  induction l1 with
  | nil => intro l2 d1 d2 h1 h2; have e : d1 = 0 := h1; subst e; rw [Int.zero_add]; exact h2
  | cons c r ih =>
    intro l2 d1 d2 h1 h2
    have hp := Lu_pos h2
    refine ⟨by have := h1.1; omega, ?_⟩
    have := ih h1.2 h2
    have e : d1 + d2 - 1 + mny ar c = d1 - 1 + mny ar c + d2 := by omega
    rw [e]
    exact this
theorem Lu_cut {ar : Nat → Int} : ∀ {l1 l2 : List Int} {d k : Int}, Lu ar d (l1 ++ l2) → Lu ar k l1 → Lu ar (d - k) l2 := by
  intro l1
  induction l1 with
  | nil => intro l2 d k h1 h2; have e : k = 0 := h2; subst e; rw [Int.sub_zero]; exact h1
  | cons c r ih =>
    intro l2 d k h1 h2
    have := ih h1.2 h2.2
    have e : d - 1 + mny ar c - (k - 1 + mny ar c) = d - k := by omega
    rw [e] at this
    exact this
theorem Lu_swap {ar : Nat → Int} : ∀ {l1 b b' l2 : List Int} {d : Int}, Lu ar d (l1 ++ (b ++ l2)) → Lu ar 1 b → Lu ar 1 b' → Lu ar d (l1 ++ (b' ++ l2)) := by
  intro l1
  induction l1 with
  | nil =>
    intro b b' l2 d h1 h2 h3
    have h1 : Lu ar d (b ++ l2) := h1
    have h4 := Lu_cut h1 h2
    have := Lu_app h3 h4
    have e : 1 + (d - 1) = d := by omega
    rw [e] at this
    exact this
  | cons c r ih => intro b b' l2 d h1 h2 h3; exact ⟨h1.1, ih h1.2 h2 h3⟩
/-- the row of a list -/
def rw_ (l : List Int) : Nat → Int := fun k => l.getD k 0
def mr_ (ar : Nat → Int) (h : Nat → Int) : Nat → Int := fun k => mny ar (h k)
theorem pS_cons (ar : Nat → Int) (c : Int) (r : List Int) : ∀ q : Nat, pS (mr_ ar (rw_ (c :: r))) (q + 1) = mny ar c - 1 + pS (mr_ ar (rw_ r)) q := by
  intro q
  induction q with
  | zero =>
    rw [pS_s, pS_0, pS_0]
    show 0 + mny ar c - 1 = mny ar c - 1 + 0
    omega
  | succ q ih =>
    rw [pS_s, ih, pS_s]
    show mny ar c - 1 + pS (mr_ ar (rw_ r)) q + mny ar (rw_ (c :: r) (q + 1)) - 1 = mny ar c - 1 + (pS (mr_ ar (rw_ r)) q + mny ar (rw_ r q) - 1)
    have e : rw_ (c :: r) (q + 1) = rw_ r q := by simp [rw_]
    rw [e]; omega
theorem Lu_iff {ar : Nat → Int} : ∀ {l : List Int} {d : Int}, Lu ar d l ↔ (∀ q, q < l.length → 0 < d + pS (mr_ ar (rw_ l)) q) ∧ d + pS (mr_ ar (rw_ l)) l.length = 0 := by
  intro l
  induction l with
  | nil =>
    intro d
    show d = 0 ↔ _
    rw [List.length_nil, pS_0]
    exact ⟨fun h => ⟨fun q hq => by omega, by omega⟩, fun h => by omega⟩
  | cons c r ih =>
    intro d
    show 0 < d ∧ Lu ar (d - 1 + mny ar c) r ↔ _
    rw [ih, List.length_cons, pS_cons]
    constructor
    · rintro ⟨h1, h2, h3⟩
      refine ⟨fun q hq => ?_, by omega⟩
      cases q with
      | zero => rw [pS_0]; omega
      | succ q => rw [pS_cons]; have := h2 q (by omega); omega
    · rintro ⟨h1, h2⟩
      have h0 := h1 0 (by omega)
      rw [pS_0] at h0
      refine ⟨by omega, fun q hq => ?_, by omega⟩
      have := h1 (q + 1) (by omega)
      rw [pS_cons] at this
      omega
theorem Lu_row {ar : Nat → Int} {l : List Int} (h : Lu ar 1 l) : rowL (mr_ ar (rw_ l)) l.length := by
  obtain ⟨h1, h2⟩ := Lu_iff.mp h
  exact ⟨by omega, fun q hq => by have := h1 q hq; omega⟩
theorem pS_seg (ar h : Nat → Int) (a b : Nat) : ∀ q : Nat, q ≤ b - a → pS (mr_ ar (rw_ (seg h a b))) q = pS (mr_ ar h) (a + q) - pS (mr_ ar h) a := by
  intro q
  induction q with
  | zero => intro _; rw [pS_0, Nat.add_zero]; omega
  | succ q ih =>
    intro hq
    rw [pS_s, ih (by omega), ← Nat.add_assoc, pS_s]
    have e : mr_ ar (rw_ (seg h a b)) q = mr_ ar h (a + q) := by
      show mny ar ((seg h a b).getD q 0) = mny ar (h (a + q))
      rw [seg_get h (by omega)]
    rw [e]; omega
theorem Lu_sub {ar h : Nat → Int} {n : Nat} {e : Nat → Nat} (w : wfE (mr_ ar h) n e) {p : Nat} (hp : p < n) : Lu ar 1 (seg h p (e p)) := by
  obtain ⟨a1, a2, a3, a4⟩ := w p hp
  refine Lu_iff.mpr ⟨fun q hq => ?_, ?_⟩
  · rw [seg_len] at hq
    rw [pS_seg ar h p (e p) q (by omega)]
    have := a4 (p + q) (by omega) (by omega)
    omega
  · rw [seg_len, pS_seg ar h p (e p) _ (Nat.le_refl _)]
    have e1 : p + (e p - p) = e p := by omega
    rw [e1]; omega
/-- the right side with what stands for its variables -/
def ins (hr : Nat → Int) (ht : Nat → Int) (et : Nat → Nat) (b : Nat → Int) : Nat → List Int
  | 0 => []
  | i + 1 => ins hr ht et b i ++ (if 0 ≤ hr i then [hr i] else seg ht (b (-1 - hr i).toNat).toNat (et (b (-1 - hr i).toNat).toNat))
theorem ins_Lu {ar hr ht : Nat → Int} {et : Nat → Nat} {b : Nat → Int} {nt : Nat} (wt : wfE (mr_ ar ht) nt et) : ∀ (i : Nat) (d : Int), (∀ j, j < i → hr j < 0 → (b (-1 - hr j).toNat).toNat < nt) → (∀ q, q < i → 0 < d + pS (mr_ ar hr) q) → ∀ l, Lu ar (d + pS (mr_ ar hr) i) l → Lu ar d (ins hr ht et b i ++ l) := by
  intro i
  induction i with
  | zero => intro d _ _ l h; rw [pS_0] at h; have e : d + 0 = d := by omega
            rw [e] at h; exact h
  | succ i ih =>
    intro d hb hp l h
    show Lu ar d ((ins hr ht et b i ++ _) ++ l)
    rw [List.append_assoc]
    refine ih d (fun j hj => hb j (by omega)) (fun q hq => hp q (by omega)) _ ?_
    rw [pS_s] at h
    have hpi := hp i (by omega)
    by_cases hc : 0 ≤ hr i
    · rw [if_pos hc]
      refine ⟨hpi, ?_⟩
      have e : d + pS (mr_ ar hr) i - 1 + mny ar (hr i) = d + (pS (mr_ ar hr) i + mr_ ar hr i - 1) := by
        show _ = d + (pS (mr_ ar hr) i + mny ar (hr i) - 1)
        omega
      rw [e]; exact h
    · rw [if_neg hc]
      have h1 := Lu_sub wt (hb i (by omega) (by omega))
      have e0 : mr_ ar hr i = 0 := by show mny ar (hr i) = 0; unfold mny; rw [if_pos (by omega)]
      rw [e0] at h
      have := Lu_app h1 h
      have e : 1 + (d + (pS (mr_ ar hr) i + 0 - 1)) = d + pS (mr_ ar hr) i := by omega
      rw [e] at this
      exact this
theorem ins_1 {ar hr ht : Nat → Int} {et : Nat → Nat} {b : Nat → Int} {nr nt : Nat} (wr : rowL (mr_ ar hr) nr) (wt : wfE (mr_ ar ht) nt et) (hb : ∀ j, j < nr → hr j < 0 → (b (-1 - hr j).toNat).toNat < nt) : Lu ar 1 (ins hr ht et b nr) := by
  have := ins_Lu (b := b) wt nr 1 hb (fun q hq => by have := wr.2 q hq; omega) [] (show 1 + pS (mr_ ar hr) nr = 0 by rw [wr.1]; rfl)
  rw [List.append_nil] at this
  exact this
