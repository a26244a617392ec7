def mny (ar : Nat → Int) (c : Int) : Int := if c < 0 then 0 else ar c.toNat
/-- one place of the left side is met: place q and the bindings b go over into q' and b' -/
def mstep (hl ht : Nat → Int) (et : Nat → Nat) (i q : Nat) (b : Nat → Int) (q' : Nat) (b' : Nat → Int) : Prop :=
  (0 ≤ hl i ∧ hl i = ht q ∧ q' = q + 1 ∧ b' = b) ∨
  (hl i < 0 ∧ b (-1 - hl i).toNat < 0 ∧ q' = et q ∧ b' = uz b (-1 - hl i).toNat q) ∨
  (hl i < 0 ∧ 0 ≤ b (-1 - hl i).toNat ∧ smP ht et (b (-1 - hl i).toNat).toNat ht et q ∧ q' = et q ∧ b' = b)
def MR (hl ht : Nat → Int) (et : Nat → Nat) (p : Nat) : Nat → Nat → (Nat → Int) → Prop
  | 0, q, b => q = p ∧ b = fun _ => -1
  | i + 1, q, b => ∃ q0 b0, MR hl ht et p i q0 b0 ∧ mstep hl ht et i q0 b0 q b
theorem mstep_uq {hl ht : Nat → Int} {et : Nat → Nat} {i q q1 q2 : Nat} {b b1 b2 : Nat → Int} (h1 : mstep hl ht et i q b q1 b1) (h2 : mstep hl ht et i q b q2 b2) : q1 = q2 ∧ b1 = b2 := by
  rcases h1 with ⟨a1, a2, a3, a4⟩ | ⟨a1, a2, a3, a4⟩ | ⟨a1, a2, a3, a4, a5⟩ <;> rcases h2 with ⟨c1, c2, c3, c4⟩ | ⟨c1, c2, c3, c4⟩ | ⟨c1, c2, c3, c4, c5⟩ <;> first | omega | (subst_vars; exact ⟨rfl, rfl⟩)
theorem MR_uq {hl ht : Nat → Int} {et : Nat → Nat} {p : Nat} : ∀ {i q1 q2 : Nat} {b1 b2 : Nat → Int}, MR hl ht et p i q1 b1 → MR hl ht et p i q2 b2 → q1 = q2 ∧ b1 = b2 := by
  intro i
  induction i with
  | zero =>
    rintro q1 q2 b1 b2 ⟨h1, h2⟩ ⟨h3, h4⟩
    exact ⟨h1.trans h3.symm, h2.trans h4.symm⟩
  | succ i ih =>
    rintro q1 q2 b1 b2 ⟨x1, y1, h1, h2⟩ ⟨x2, y2, h3, h4⟩
    obtain ⟨e1, e2⟩ := ih h1 h3
    subst e1 e2
    exact mstep_uq h2 h4
theorem MR_le {hl ht : Nat → Int} {et : Nat → Nat} {p : Nat} : ∀ {i j q : Nat} {b : Nat → Int}, j ≤ i → MR hl ht et p i q b → ∃ q' b', MR hl ht et p j q' b' := by
  intro i
  induction i with
  | zero => intro j q b hj h; have : j = 0 := by omega
            subst this; exact ⟨q, b, h⟩
  | succ i ih =>
    intro j q b hj h
    by_cases hh : j = i + 1
    · subst hh; exact ⟨q, b, h⟩
    · obtain ⟨q0, b0, h1, h2⟩ := h
      exact ih (by omega) h1
/-- where a match stands -/
theorem MR_in {hl ht ml mt : Nat → Int} {el et : Nat → Nat} {nl nt p : Nat} (wl : rowL ml nl) (wt : wfE mt nt et) (hp : p < nt) (hm : ∀ i j, i < nl → j < nt → 0 ≤ hl i → hl i = ht j → ml i = mt j) (hv : ∀ i, i < nl → hl i < 0 → ml i = 0) : ∀ {i q : Nat} {b : Nat → Int}, i ≤ nl → MR hl ht et p i q b → p ≤ q ∧ q ≤ et p ∧ pS ml i = pS mt q - pS mt p ∧ (∀ v, b v = -1 ∨ ∃ r : Nat, b v = r ∧ p ≤ r ∧ r < et p) := by
  intro i
  obtain ⟨a1, a2, a3, a4⟩ := wt p hp
  induction i with
  | zero =>
    rintro q b hi ⟨rfl, rfl⟩
    refine ⟨Nat.le_refl _, by omega, ?_, fun v => Or.inl rfl⟩
    rw [pS_0]; omega
  | succ i ih =>
    rintro q b hi ⟨q0, b0, h1, h2⟩
    obtain ⟨c1, c2, c3, c4⟩ := ih (by omega) h1
    have hpos := wl.2 i (by omega)
    have hlt : q0 < et p := (wf_need wt hp c1 c2).mp (by omega)
    obtain ⟨d1, d2, d3, d4⟩ := wt q0 (by omega)
    have dn := wf_nest wt hp c1 hlt
    have s1 := pS_s ml i
    have s2 := pS_s mt q0
    rcases h2 with ⟨x1, x2, x3, x4⟩ | ⟨x1, x2, x3, x4⟩ | ⟨x1, x2, x3, x4, x5⟩
    · have := hm i q0 (by omega) (by omega) x1 x2
      subst x3 x4
      exact ⟨by omega, by omega, by omega, c4⟩
    · have := hv i (by omega) x1
      subst x3 x4
      refine ⟨by omega, dn, by omega, fun v => ?_⟩
      by_cases hvv : v = (-1 - hl i).toNat
      · subst hvv; exact Or.inr ⟨q0, uz_s _ _ _, c1, hlt⟩
      · rw [uz_n _ _ hvv]; exact c4 v
    · have := hv i (by omega) x1
      subst x4 x5
      exact ⟨by omega, dn, by omega, c4⟩
theorem MR_lt {hl ht ml mt : Nat → Int} {et : Nat → Nat} {nl nt p : Nat} (wl : rowL ml nl) (wt : wfE mt nt et) (hp : p < nt) (hm : ∀ i j, i < nl → j < nt → 0 ≤ hl i → hl i = ht j → ml i = mt j) (hv : ∀ i, i < nl → hl i < 0 → ml i = 0) {i q : Nat} {b : Nat → Int} (hi : i < nl) (h : MR hl ht et p i q b) : p ≤ q ∧ q < et p ∧ q < nt := by
  obtain ⟨c1, c2, c3, c4⟩ := MR_in (el := et) wl wt hp hm hv (by omega) h
  have hpos := wl.2 i hi
  have hlt : q < et p := (wf_need wt hp c1 c2).mp (by omega)
  have := (wt p hp).2.1
  exact ⟨c1, hlt, by omega⟩
/-- the left side matches at place p -/
def MA (hl : Nat → Int) (nl : Nat) (ht : Nat → Int) (et : Nat → Nat) (p : Nat) : Prop := ∃ q b, MR hl ht et p nl q b
theorem MA_not {hl ht : Nat → Int} {et : Nat → Nat} {nl p i q : Nat} {b : Nat → Int} (hi : i < nl) (h : MR hl ht et p i q b) (hn : ∀ q' b', ¬ mstep hl ht et i q b q' b') : ¬ MA hl nl ht et p := by
  rintro ⟨q1, b1, h1⟩
  obtain ⟨q2, b2, h2⟩ := MR_le (show i + 1 ≤ nl by omega) h1
  obtain ⟨q3, b3, h3, h4⟩ := h2
  obtain ⟨e1, e2⟩ := MR_uq h h3
  subst e1 e2
  exact hn _ _ h4
/-- every variable of the left side is bound -/
theorem MR_bound {hl ht : Nat → Int} {et : Nat → Nat} {p : Nat} : ∀ {i q : Nat} {b : Nat → Int}, MR hl ht et p i q b → ∀ j, j < i → hl j < 0 → 0 ≤ b (-1 - hl j).toNat := by
  intro i
  induction i with
  | zero => intro q b _ j hj; omega
  | succ i ih =>
    rintro q b ⟨q0, b0, h1, h2⟩ j hj hlj
    have old : j < i → 0 ≤ b0 (-1 - hl j).toNat := fun hji => ih h1 j hji hlj
    rcases h2 with ⟨x1, x2, x3, x4⟩ | ⟨x1, x2, x3, x4⟩ | ⟨x1, x2, x3, x4, x5⟩
    · subst x4
      by_cases hji : j = i
      · subst hji; omega
      · exact old (by omega)
    · subst x4
      by_cases hvv : (-1 - hl j).toNat = (-1 - hl i).toNat
      · rw [hvv, uz_s]; omega
      · rw [uz_n _ _ hvv]
        by_cases hji : j = i
        · subst hji; exact absurd rfl hvv
        · exact old (by omega)
    · subst x5
      by_cases hji : j = i
      · subst hji; exact x2
      · exact old (by omega)
/-- innermost: a match with none in its parts; the first such -/
def inn (M : Nat → Prop) (e : Nat → Nat) (k : Nat) : Prop := M k ∧ ∀ q, k < q → q < e k → ¬ M q
def inF (M : Nat → Prop) (e : Nat → Nat) (n k : Nat) : Prop := k < n ∧ inn M e k ∧ ∀ j, j < k → ¬ inn M e j
theorem inF_uq {M : Nat → Prop} {e : Nat → Nat} {n k k' : Nat} (h : inF M e n k) (h' : inF M e n k') : k = k' := by
  by_cases a : k < k'
  · exact absurd h.2.1 (h'.2.2 k a)
  · by_cases b : k' < k
    · exact absurd h'.2.1 (h.2.2 k' b)
    · omega
