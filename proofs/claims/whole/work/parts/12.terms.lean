def ps (w : Nat → Int) : Nat → Int
  | 0 => 0
  | k + 1 => ps w k + w k
def pS (m : Nat → Int) (k : Nat) : Int := ps (fun j => m j - 1) k
theorem pS_0 (m : Nat → Int) : pS m 0 = 0 := rfl
theorem pS_s (m : Nat → Int) (k : Nat) : pS m (k + 1) = pS m k + m k - 1 := by
  show ps _ k + (m k - 1) = ps _ k + m k - 1
  omega
theorem pS_cg {m m' : Nat → Int} {n : Nat} (h : ∀ k, k < n → m k = m' k) : ∀ k, k ≤ n → pS m k = pS m' k := by
  intro k
  induction k with
  | zero => intro _; rfl
  | succ k ih => intro hk; rw [pS_s, pS_s, ih (by omega), h k (by omega)]
/-- place p ends ahead of place e p -/
def wf1 (m : Nat → Int) (n : Nat) (e : Nat → Nat) (p : Nat) : Prop := p < e p ∧ e p ≤ n ∧ pS m (e p) = pS m p - 1 ∧ ∀ q, p ≤ q → q < e p → pS m p ≤ pS m q
def wfE (m : Nat → Int) (n : Nat) (e : Nat → Nat) : Prop := ∀ p, p < n → wf1 m n e p
theorem wf_nest {m : Nat → Int} {n : Nat} {e : Nat → Nat} (h : wfE m n e) {p q : Nat} (hp : p < n) (h1 : p ≤ q) (h2 : q < e p) : e q ≤ e p := by
  obtain ⟨a1, a2, a3, a4⟩ := h p hp
  obtain ⟨b1, b2, b3, b4⟩ := h q (by omega)
  by_cases hh : e p < e q
  · have := b4 (e p) (by omega) hh
    have := a4 q h1 h2
    omega
  · omega
theorem wf_uq {m : Nat → Int} {n : Nat} {e e' : Nat → Nat} (h : wfE m n e) (h' : wfE m n e') {p : Nat} (hp : p < n) : e p = e' p := by
  obtain ⟨a1, a2, a3, a4⟩ := h p hp
  obtain ⟨b1, b2, b3, b4⟩ := h' p hp
  by_cases h1 : e p < e' p
  · have := b4 (e p) (by omega) h1
    omega
  · by_cases h2 : e' p < e p
    · have := a4 (e' p) (by omega) h2
      omega
    · omega
theorem wf_cg {m m' : Nat → Int} {n : Nat} {e : Nat → Nat} (hm : ∀ k, k < n → m k = m' k) (h : wfE m n e) : wfE m' n e := by
  intro p hp
  obtain ⟨a1, a2, a3, a4⟩ := h p hp
  refine ⟨a1, a2, ?_, fun q h1 h2 => ?_⟩
  · rw [← pS_cg hm (e p) a2, ← pS_cg hm p (by omega)]; exact a3
  · rw [← pS_cg hm p (by omega), ← pS_cg hm q (by omega)]; exact a4 q h1 h2
/-- the k-th part of place p begins here -/
def prt (e : Nat → Nat) (p : Nat) : Nat → Nat
  | 0 => p + 1
  | k + 1 => e (prt e p k)
theorem prt_in {m : Nat → Int} {n : Nat} {e : Nat → Nat} (h : wfE m n e) {p : Nat} (hp : p < n) : ∀ k : Nat, (k : Int) ≤ m p → p < prt e p k ∧ prt e p k ≤ e p ∧ pS m (prt e p k) = pS m p + m p - 1 - k := by
  intro k
  obtain ⟨a1, a2, a3, a4⟩ := h p hp
  induction k with
  | zero =>
    intro _
    show p < p + 1 ∧ p + 1 ≤ e p ∧ pS m (p + 1) = _
    rw [pS_s]
    refine ⟨by omega, by omega, by omega⟩
  | succ k ih =>
    intro hk
    obtain ⟨i1, i2, i3⟩ := ih (by omega)
    have hne : prt e p k ≠ e p := by
      intro hh
      rw [hh] at i3
      omega
    have hlt : prt e p k < e p := by omega
    obtain ⟨b1, b2, b3, b4⟩ := h (prt e p k) (by omega)
    have hn := wf_nest h hp (by omega) hlt
    show p < e (prt e p k) ∧ e (prt e p k) ≤ e p ∧ pS m (e (prt e p k)) = _
    refine ⟨by omega, hn, by rw [b3, i3]; omega⟩
theorem prt_lt {m : Nat → Int} {n : Nat} {e : Nat → Nat} (h : wfE m n e) {p : Nat} (hp : p < n) {k : Nat} (hk : (k : Int) < m p) : p < prt e p k ∧ prt e p k < e p ∧ prt e p k < n := by
  obtain ⟨i1, i2, i3⟩ := prt_in h hp k (by omega)
  obtain ⟨a1, a2, a3, a4⟩ := h p hp
  have hne : prt e p k ≠ e p := by
    intro hh
    rw [hh] at i3
    omega
  exact ⟨i1, by omega, by omega⟩
theorem prt_end {m : Nat → Int} {n : Nat} {e : Nat → Nat} (h : wfE m n e) {p : Nat} (hp : p < n) {k : Nat} (hk : (k : Int) = m p) : prt e p k = e p := by
  obtain ⟨i1, i2, i3⟩ := prt_in h hp k (by omega)
  obtain ⟨a1, a2, a3, a4⟩ := h p hp
  by_cases hh : prt e p k < e p
  · have := a4 _ (by omega) hh
    omega
  · omega
theorem prt_cg {e e' : Nat → Nat} {p n : Nat} (h : ∀ q, q < n → e q = e' q) : ∀ k : Nat, (∀ j, j < k → prt e p j < n) → prt e p k = prt e' p k := by
  intro k
  induction k with
  | zero => intro _; rfl
  | succ k ih =>
    intro hk
    have i1 := ih (fun j hj => hk j (by omega))
    show e (prt e p k) = e' (prt e' p k)
    rw [← i1]
    exact h _ (hk k (by omega))
/-- what is still needed, from p on: nothing only at the end -/
theorem wf_need {m : Nat → Int} {n : Nat} {e : Nat → Nat} (h : wfE m n e) {p q : Nat} (hp : p < n) (h1 : p ≤ q) (h2 : q ≤ e p) : 0 < 1 + pS m q - pS m p ↔ q < e p := by
  obtain ⟨a1, a2, a3, a4⟩ := h p hp
  constructor
  · intro hh
    by_cases hq : q = e p
    · subst hq; omega
    · omega
  · intro hh
    have := a4 q h1 hh
    omega
/-- a whole row: one term and nothing behind it -/
def rowL (m : Nat → Int) (n : Nat) : Prop := pS m n = -1 ∧ ∀ q, q < n → 0 ≤ pS m q
theorem wf_ex {m : Nat → Int} {n : Nat} (hm : ∀ k, k < n → 0 ≤ m k) (hL : rowL m n) : ∃ e, wfE m n e := by
  have key : ∀ p, ∃ q, p < n → (p < q ∧ q ≤ n ∧ pS m q = pS m p - 1 ∧ ∀ r, p ≤ r → r < q → pS m p ≤ pS m r) := by
    intro p
    by_cases hp : p < n
    · obtain ⟨q, ⟨h1, h2⟩, h3⟩ := pk_least (fun q => p < q ∧ pS m q ≤ pS m p - 1) ⟨n, hp, by have := hL.2 p hp; rw [hL.1]; omega⟩
      have hqn : q ≤ n := by
        by_cases hh : n < q
        · exact absurd ⟨hp, by have := hL.2 p hp; rw [hL.1]; omega⟩ (h3 n hh)
        · omega
      have hlow : ∀ r, p ≤ r → r < q → pS m p ≤ pS m r := by
        intro r r1 r2
        by_cases hr : r = p
        · subst hr; omega
        · by_cases hh : pS m p ≤ pS m r
          · exact hh
          · exact absurd ⟨by omega, by omega⟩ (h3 r r2)
      refine ⟨q, fun _ => ⟨h1, hqn, ?_, hlow⟩⟩
      have h5 := hlow (q - 1) (by omega) (by omega)
      have h6 := pS_s m (q - 1)
      have h7 := hm (q - 1) (by omega)
      have h8 : q - 1 + 1 = q := by omega
      rw [h8] at h6
      omega
    · exact ⟨0, fun h => absurd h hp⟩
  refine ⟨fun p => Classical.choose (key p), fun p hp => ?_⟩
  exact Classical.choose_spec (key p) hp
theorem wf_0 {m : Nat → Int} {n : Nat} {e : Nat → Nat} (hn : 0 < n) (hL : rowL m n) (h : wfE m n e) : e 0 = n := by
  obtain ⟨a1, a2, a3, a4⟩ := h 0 hn
  by_cases hh : e 0 < n
  · have := hL.2 (e 0) hh
    rw [pS_0] at a3
    omega
  · omega
theorem wf_row {m : Nat → Int} {n : Nat} {e : Nat → Nat} (hn : 0 < n) (h0 : e 0 = n) (h : wfE m n e) : rowL m n := by
  obtain ⟨a1, a2, a3, a4⟩ := h 0 hn
  rw [h0, pS_0] at a3
  refine ⟨by omega, fun q hq => ?_⟩
  have := a4 q (by omega) (by omega)
  rw [pS_0] at this
  exact this
/-- heights -/
def mx (a b : Int) : Int := if a < b then b else a
def mxh (e : Nat → Nat) (t : Nat → Int) (p : Nat) : Nat → Int
  | 0 => 0
  | k + 1 => mx (mxh e t p k) (t (prt e p k) + 1)
def hgE (m : Nat → Int) (n : Nat) (e : Nat → Nat) (t : Nat → Int) : Prop := ∀ p, p < n → t p = mxh e t p (m p).toNat
theorem mxh_cg {e : Nat → Nat} {t t' : Nat → Int} {p : Nat} : ∀ k : Nat, (∀ j, j < k → t (prt e p j) = t' (prt e p j)) → mxh e t p k = mxh e t' p k := by
  intro k
  induction k with
  | zero => intro _; rfl
  | succ k ih =>
    intro hk
    show mx _ _ = mx _ _
    rw [ih (fun j hj => hk j (by omega)), hk k (by omega)]
theorem hg_ex {m : Nat → Int} {n : Nat} {e : Nat → Nat} (h : wfE m n e) : ∃ t, hgE m n e t := by
  have key : ∀ d, d ≤ n → ∃ t : Nat → Int, ∀ p, n - d ≤ p → p < n → t p = mxh e t p (m p).toNat := by
    intro d
    induction d with
    | zero => intro _; exact ⟨fun _ => 0, fun p h1 h2 => by omega⟩
    | succ d ih =>
      intro hd
      obtain ⟨t, ht⟩ := ih (by omega)
      refine ⟨uz t (n - (d + 1)) (mxh e t (n - (d + 1)) (m (n - (d + 1))).toNat), fun p h1 h2 => ?_⟩
      have hc : mxh e (uz t (n - (d + 1)) (mxh e t (n - (d + 1)) (m (n - (d + 1))).toNat)) p (m p).toNat = mxh e t p (m p).toNat := by
        refine mxh_cg _ (fun j hj => uz_n _ _ ?_)
        have := prt_lt h h2 (k := j) (by omega)
        omega
      rw [hc]
      by_cases hp : p = n - (d + 1)
      · subst hp; exact uz_s _ _ _
      · rw [uz_n _ _ hp]; exact ht p (by omega) h2
  obtain ⟨t, ht⟩ := key n (Nat.le_refl n)
  exact ⟨t, fun p hp => ht p (by omega) hp⟩
theorem hg_uq {m : Nat → Int} {n : Nat} {e : Nat → Nat} {t t' : Nat → Int} (h : wfE m n e) (h1 : hgE m n e t) (h2 : hgE m n e t') : ∀ p, p < n → t p = t' p := by
  have key : ∀ d p, n - p ≤ d → p < n → t p = t' p := by
    intro d
    induction d with
    | zero => intro p q1 q2; omega
    | succ d ih =>
      intro p q1 q2
      rw [h1 p q2, h2 p q2]
      refine mxh_cg _ (fun j hj => ?_)
      have := prt_lt h q2 (k := j) (by omega)
      exact ih _ (by omega) (by omega)
  exact fun p hp => key n p (by omega) hp
theorem mxh_0 {e : Nat → Nat} {t : Nat → Int} {p : Nat} : ∀ k : Nat, 0 ≤ mxh e t p k := by
  intro k
  induction k with
  | zero => exact Int.le_refl 0
  | succ k ih =>
    show 0 ≤ mx _ _
    unfold mx
    split <;> omega
theorem mxh_ge {e : Nat → Nat} {t : Nat → Int} {p : Nat} : ∀ (k j : Nat), j < k → t (prt e p j) + 1 ≤ mxh e t p k := by
  intro k
  induction k with
  | zero => intro j hj; omega
  | succ k ih =>
    intro j hj
    show _ ≤ mx _ _
    unfold mx
    by_cases hjk : j = k
    · subst hjk; split <;> omega
    · have := ih j (by omega)
      split <;> omega
theorem mxh_le {e : Nat → Nat} {t : Nat → Int} {p : Nat} {B : Int} (h0 : 0 ≤ B) : ∀ (k : Nat), (∀ j, j < k → t (prt e p j) + 1 ≤ B) → mxh e t p k ≤ B := by
  intro k
  induction k with
  | zero => intro _; exact h0
  | succ k ih =>
    intro hk
    have h1 := ih (fun j hj => hk j (by omega))
    have h2 := hk k (by omega)
    show mx _ _ ≤ B
    unfold mx
    split <;> omega
theorem hg_b {m : Nat → Int} {n : Nat} {e : Nat → Nat} {t : Nat → Int} (h : wfE m n e) (h1 : hgE m n e t) : ∀ p, p < n → 0 ≤ t p ∧ t p < n - p := by
  have key : ∀ d p, n - p ≤ d → p < n → 0 ≤ t p ∧ t p < n - p := by
    intro d
    induction d with
    | zero => intro p q1 q2; omega
    | succ d ih =>
      intro p q1 q2
      rw [h1 p q2]
      refine ⟨mxh_0 _, ?_⟩
      have : mxh e t p (m p).toNat ≤ (n : Int) - p - 1 := by
        refine mxh_le (by omega) _ (fun j hj => ?_)
        have a := prt_lt h q2 (k := j) (by omega)
        have := (ih (prt e p j) (by omega) (by omega)).2
        omega
      omega
  exact fun p hp => key n p (by omega) hp
theorem hg_part {m : Nat → Int} {n : Nat} {e : Nat → Nat} {t : Nat → Int} (h1 : hgE m n e t) {p k : Nat} (hp : p < n) (hk : (k : Int) < m p) : t (prt e p k) < t p := by
  have := mxh_ge (e := e) (t := t) (p := p) (m p).toNat k (by omega)
  rw [← h1 p hp] at this
  omega
/-- two places hold one term -/
def smP (h1 : Nat → Int) (e1 : Nat → Nat) (i : Nat) (h2 : Nat → Int) (e2 : Nat → Nat) (j : Nat) : Prop := e1 i - i = e2 j - j ∧ ∀ k, k < e1 i - i → h1 (i + k) = h2 (j + k)
/-- how often c stands in a stretch -/
def cnt (h : Nat → Int) (c : Int) (a : Nat) : Nat → Int
  | 0 => 0
  | n + 1 => cnt h c a n + (if h (a + n) = c then 1 else 0)
def wsum (h : Nat → Int) (wt : Nat → Int) (a : Nat) : Nat → Int
  | 0 => 0
  | n + 1 => wsum h wt a n + (if h (a + n) < 0 then 1 else wt (h (a + n)).toNat)
theorem cnt_b {h : Nat → Int} {c : Int} {a : Nat} : ∀ n : Nat, 0 ≤ cnt h c a n ∧ cnt h c a n ≤ n := by
  intro n
  induction n with
  | zero => exact ⟨Int.le_refl 0, Int.le_refl 0⟩
  | succ n ih =>
    show 0 ≤ cnt h c a n + _ ∧ cnt h c a n + _ ≤ _
    split <;> omega
theorem wsum_b {h wt : Nat → Int} {a : Nat} : ∀ n : Nat, (∀ k, k < n → 0 ≤ h (a + k) → 0 ≤ wt (h (a + k)).toNat ∧ wt (h (a + k)).toNat ≤ 9) → 0 ≤ wsum h wt a n ∧ wsum h wt a n ≤ 9 * n := by
  intro n
  induction n with
  | zero => intro _; exact ⟨Int.le_refl 0, Int.le_refl 0⟩
  | succ n ih =>
    intro hk
    have h1 := ih (fun k q => hk k (by omega))
    have h2 := hk n (by omega)
    show 0 ≤ wsum h wt a n + _ ∧ wsum h wt a n + _ ≤ _
    split <;> omega
theorem cnt_0 {h : Nat → Int} {c : Int} {a : Nat} : ∀ n : Nat, cnt h c a n = 0 ↔ ∀ k, k < n → h (a + k) ≠ c := by
  intro n
  induction n with
  | zero => exact ⟨fun _ k hk => by omega, fun _ => rfl⟩
  | succ n ih =>
    have hb := (cnt_b (h := h) (c := c) (a := a) n).1
    show cnt h c a n + _ = 0 ↔ _
    constructor
    · intro hh k hk
      by_cases hkn : k = n
      · subst hkn
        intro hc
        rw [if_pos hc] at hh
        omega
      · refine ih.mp ?_ k (by omega)
        split at hh <;> omega
    · intro hh
      rw [if_neg (hh n (by omega)), ih.mpr (fun k hk => hh k (by omega))]
      rfl
/-- the first parts that differ, and which is greater there -/
def ioP (G : Nat → Nat → Prop) (h1 : Nat → Int) (e1 : Nat → Nat) (m1 : Int) (i : Nat) (h2 : Nat → Int) (e2 : Nat → Nat) (j : Nat) : Prop :=
  ∃ k : Nat, (k : Int) < m1 ∧ (∀ q, q < k → smP h1 e1 (prt e1 i q) h2 e2 (prt e2 j q)) ∧ ¬ smP h1 e1 (prt e1 i k) h2 e2 (prt e2 j k) ∧ G (prt e1 i k) (prt e2 j k)
/-- place i of the one is greater than place j of the other, by paths -/
def paP (G : Nat → Nat → Prop) (rk : Nat → Int) (h1 : Nat → Int) (e1 : Nat → Nat) (m1 : Nat → Int) (i : Nat) (h2 : Nat → Int) (e2 : Nat → Nat) (m2 : Nat → Int) (j : Nat) : Prop :=
  (∃ k : Nat, (k : Int) < m1 i ∧ (G (prt e1 i k) j ∨ smP h1 e1 (prt e1 i k) h2 e2 j)) ∨
  (0 ≤ h1 i ∧ 0 ≤ h2 j ∧ (∀ k : Nat, (k : Int) < m2 j → G i (prt e2 j k)) ∧ (h1 i ≠ h2 j → rk (h2 j).toNat < rk (h1 i).toNat) ∧ (h1 i = h2 j → ioP G h1 e1 (m1 i) i h2 e2 j))
/-- one symbol of arity 1, once or oftener, around a variable -/
def rdV (h : Nat → Int) (e : Nat → Nat) (m : Nat → Int) (i : Nat) (d : Int) : Prop := i + 1 < e i ∧ h (e i - 1) = d ∧ m i = 1 ∧ ∀ k, i ≤ k → k + 1 < e i → h k = h i
def weP (G : Nat → Nat → Prop) (rk wt : Nat → Int) (h1 : Nat → Int) (e1 : Nat → Nat) (m1 : Nat → Int) (i : Nat) (h2 : Nat → Int) (e2 : Nat → Nat) (j : Nat) : Prop :=
  (∀ v : Nat, v < 4 → cnt h2 (-1 - v) j (e2 j - j) ≤ cnt h1 (-1 - v) i (e1 i - i)) ∧
  (wsum h1 wt i (e1 i - i) ≠ wsum h2 wt j (e2 j - j) → wsum h2 wt j (e2 j - j) < wsum h1 wt i (e1 i - i)) ∧
  (wsum h1 wt i (e1 i - i) = wsum h2 wt j (e2 j - j) → (h2 j < 0 → rdV h1 e1 m1 i (h2 j)) ∧ (0 ≤ h2 j → 0 ≤ h1 i ∧ (h1 i ≠ h2 j → rk (h2 j).toNat < rk (h1 i).toNat) ∧ (h1 i = h2 j → ioP G h1 e1 (m1 i) i h2 e2 j)))
theorem ioP_cg {G G' : Nat → Nat → Prop} {h1 : Nat → Int} {e1 : Nat → Nat} {m1 : Int} {i : Nat} {h2 : Nat → Int} {e2 : Nat → Nat} {j : Nat} (h : ∀ k : Nat, (k : Int) < m1 → (G (prt e1 i k) (prt e2 j k) ↔ G' (prt e1 i k) (prt e2 j k))) : ioP G h1 e1 m1 i h2 e2 j ↔ ioP G' h1 e1 m1 i h2 e2 j := by
  constructor
  · rintro ⟨k, a, b, c, d⟩; exact ⟨k, a, b, c, (h k a).mp d⟩
  · rintro ⟨k, a, b, c, d⟩; exact ⟨k, a, b, c, (h k a).mpr d⟩
