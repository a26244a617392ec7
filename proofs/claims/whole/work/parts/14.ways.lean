def dg (n w s : Nat) : Nat := w / n ^ (n - 1 - s) % n
def ds (n w : Nat) : Bool := (List.range n).all (fun s => (List.range s).all (fun o => dg n w o != dg n w s))
def cd (n : Nat) : Nat → Nat
  | 0 => 0
  | w + 1 => cd n w + (if ds n w = true then 1 else 0)
/-- the next way's ranks, where s and t change places and all behind s is turned round -/
def nxD (d : Nat → Nat) (n s t j : Nat) : Nat := if j < s then d j else if j = s then d t else if s + n - j = t then d s else d (s + n - j)
def vl (n : Nat) (d : Nat → Nat) : Nat := (List.range n).foldl (fun a j => a * n + d j) 0
def pv (n w s : Nat) : Bool := decide (dg n w s < dg n w (s + 1)) && (List.range n).all (fun q => !(decide (s < q) && decide (q + 1 < n)) || !decide (dg n w q < dg n w (q + 1)))
def pt (n w s t : Nat) : Bool := decide (s < t) && decide (dg n w s < dg n w t) && (List.range n).all (fun q => !decide (t < q) || !decide (dg n w s < dg n w q))
def gap (n a b : Nat) : Bool := (List.range (b - (a + 1))).all (fun k => !ds n (a + 1 + k))
def ck (n w : Nat) : Bool := !ds n w || ((List.range (n - 1)).all (fun s => !pv n w s || (List.range n).all (fun t => !pt n w s t || (decide (w < vl n (nxD (dg n w) n s t)) && decide (vl n (nxD (dg n w) n s t) < n ^ n) && ds n (vl n (nxD (dg n w) n s t)) && (List.range n).all (fun j => dg n (vl n (nxD (dg n w) n s t)) j == nxD (dg n w) n s t j) && gap n w (vl n (nxD (dg n w) n s t))))) && ((List.range (n - 1)).any (fun s => decide (dg n w s < dg n w (s + 1))) || gap n w (n ^ n)))
theorem ck_all (n : Nat) (a k : Nat) (h : (List.range k).all (fun j => ck n (a + j)) = true) {w : Nat} (h1 : a ≤ w) (h2 : w < a + k) : ck n w = true := by
  rw [List.all_eq_true] at h
  have := h (w - a) (List.mem_range.mpr (by omega))
  have e : a + (w - a) = w := by omega
  rwa [e] at this
theorem ck_0 : (List.range 1).all (fun j => ck 0 (0 + j)) = true := by decide +kernel
theorem ck_1 : (List.range 1).all (fun j => ck 1 (0 + j)) = true := by decide +kernel
theorem ck_2 : (List.range 4).all (fun j => ck 2 (0 + j)) = true := by decide +kernel
theorem ck_3 : (List.range 27).all (fun j => ck 3 (0 + j)) = true := by decide +kernel
theorem ck_4 : (List.range 256).all (fun j => ck 4 (0 + j)) = true := by decide +kernel
theorem ck_5a : (List.range 1000).all (fun j => ck 5 (0 + j)) = true := by decide +kernel
theorem ck_5b : (List.range 1000).all (fun j => ck 5 (1000 + j)) = true := by decide +kernel
theorem ck_5c : (List.range 1125).all (fun j => ck 5 (2000 + j)) = true := by decide +kernel
theorem ck_ok {n w : Nat} (hn : n ≤ 5) (hw : w < n ^ n) : ck n w = true := by
  rcases (show n = 0 ∨ n = 1 ∨ n = 2 ∨ n = 3 ∨ n = 4 ∨ n = 5 by omega) with rfl | rfl | rfl | rfl | rfl | rfl
  · exact ck_all 0 0 1 ck_0 (by omega) (by omega)
  · exact ck_all 1 0 1 ck_1 (by omega) (by omega)
  · exact ck_all 2 0 4 ck_2 (by omega) (by omega)
  · exact ck_all 3 0 27 ck_3 (by omega) (by omega)
  · exact ck_all 4 0 256 ck_4 (by omega) (by omega)
  · by_cases h1 : w < 1000
    · exact ck_all 5 0 1000 ck_5a (by omega) (by omega)
    · by_cases h2 : w < 2000
      · exact ck_all 5 1000 1000 ck_5b (by omega) (by omega)
      · exact ck_all 5 2000 1125 ck_5c (by omega) (by omega)
theorem gap_ok {n a b : Nat} (h : gap n a b = true) {w : Nat} (h1 : a < w) (h2 : w < b) : ds n w = false := by
  unfold gap at h
  rw [List.all_eq_true] at h
  have := h (w - (a + 1)) (List.mem_range.mpr (by omega))
  have e : a + 1 + (w - (a + 1)) = w := by omega
  rw [e] at this
  simpa using this
theorem pv_of {n w s : Nat} (h1 : dg n w s < dg n w (s + 1)) (h2 : ∀ q, s < q → q + 1 < n → ¬ dg n w q < dg n w (q + 1)) : pv n w s = true := by
  unfold pv
  rw [Bool.and_eq_true, List.all_eq_true]
  refine ⟨decide_eq_true h1, fun q _ => ?_⟩
  by_cases a : s < q ∧ q + 1 < n
  · simp [h2 q a.1 a.2]
  · simp; omega
theorem pt_of {n w s t : Nat} (h0 : s < t) (h1 : dg n w s < dg n w t) (h2 : ∀ q, t < q → q < n → ¬ dg n w s < dg n w q) : pt n w s t = true := by
  unfold pt
  rw [Bool.and_eq_true, Bool.and_eq_true, List.all_eq_true]
  refine ⟨⟨decide_eq_true h0, decide_eq_true h1⟩, fun q hq => ?_⟩
  have hq := List.mem_range.mp hq
  by_cases a : t < q
  · simp [h2 q a hq]
  · simp [a]
theorem way_next {n w s t : Nat} (hn : n ≤ 5) (hw : w < n ^ n) (hd : ds n w = true) (hs : s + 1 < n) (h1 : dg n w s < dg n w (s + 1)) (h2 : ∀ q, s < q → q + 1 < n → ¬ dg n w q < dg n w (q + 1)) (ht : s < t) (htn : t < n) (h3 : dg n w s < dg n w t) (h4 : ∀ q, t < q → q < n → ¬ dg n w s < dg n w q) :
    ∃ w2, w < w2 ∧ w2 < n ^ n ∧ ds n w2 = true ∧ (∀ j, j < n → dg n w2 j = nxD (dg n w) n s t j) ∧ ∀ w', w < w' → w' < w2 → ds n w' = false := by
  have h := ck_ok hn hw
  unfold ck at h
  rw [hd] at h
  simp only [Bool.not_true, Bool.false_or, Bool.and_eq_true, List.all_eq_true] at h
  have a := h.1 s (List.mem_range.mpr (by omega))
  rw [pv_of h1 h2] at a
  simp only [Bool.not_true, Bool.false_or, List.all_eq_true] at a
  have b := a t (List.mem_range.mpr htn)
  rw [pt_of ht h3 h4] at b
  simp only [Bool.not_true, Bool.false_or, Bool.and_eq_true, List.all_eq_true, decide_eq_true_eq] at b
  obtain ⟨⟨⟨⟨b1, b2⟩, b3⟩, b4⟩, b5⟩ := b
  exact ⟨_, b1, b2, b3, fun j hj => by simpa using b4 j (List.mem_range.mpr hj), fun w' c1 c2 => gap_ok b5 c1 c2⟩
theorem way_last {n w : Nat} (hn : n ≤ 5) (hw : w < n ^ n) (hd : ds n w = true) (h1 : ∀ s, s + 1 < n → ¬ dg n w s < dg n w (s + 1)) : ∀ w', w < w' → w' < n ^ n → ds n w' = false := by
  have h := ck_ok hn hw
  unfold ck at h
  rw [hd] at h
  simp only [Bool.not_true, Bool.false_or, Bool.and_eq_true] at h
  have a := h.2
  rw [Bool.or_eq_true] at a
  rcases a with a | a
  · rw [List.any_eq_true] at a
    obtain ⟨s, hs, hlt⟩ := a
    have hs := List.mem_range.mp hs
    exact absurd (of_decide_eq_true hlt) (h1 s (by omega))
  · exact fun w' c1 c2 => gap_ok a c1 c2
theorem cd_le {n : Nat} : ∀ {a b : Nat}, a ≤ b → cd n a ≤ cd n b := by
  intro a b h
  induction b with
  | zero => have : a = 0 := by omega
            subst this; exact Nat.le_refl _
  | succ b ih =>
    by_cases hb : a = b + 1
    · subst hb; exact Nat.le_refl _
    · have := ih (by omega)
      show _ ≤ cd n b + _
      omega
theorem cd_gap {n : Nat} : ∀ {a b : Nat}, a ≤ b → (∀ w, a ≤ w → w < b → ds n w = false) → cd n b = cd n a := by
  intro a b h
  induction b with
  | zero => intro _; have : a = 0 := by omega
            subst this; rfl
  | succ b ih =>
    intro hg
    by_cases hb : a = b + 1
    · subst hb; rfl
    · show cd n b + _ = _
      rw [hg b (by omega) (by omega), ih (by omega) (fun w c1 c2 => hg w c1 (by omega))]
      rfl
theorem cd_s {n w : Nat} (h : ds n w = true) : cd n (w + 1) = cd n w + 1 := by
  show cd n w + _ = _
  rw [h]
  rfl
theorem cd_5 : cd 5 3125 = 120 := by decide +kernel
theorem cd_4 : cd 4 256 = 24 := by decide +kernel
theorem cd_3 : cd 3 27 = 6 := by decide +kernel
theorem cd_2 : cd 2 4 = 2 := by decide +kernel
theorem cd_n {n : Nat} (hn : n ≤ 5) : cd n (n ^ n) ≤ 120 := by
  rcases (show n = 0 ∨ n = 1 ∨ n = 2 ∨ n = 3 ∨ n = 4 ∨ n = 5 by omega) with rfl | rfl | rfl | rfl | rfl | rfl
  · decide
  · decide
  · exact Nat.le_trans (Nat.le_of_eq cd_2) (by omega)
  · exact Nat.le_trans (Nat.le_of_eq cd_3) (by omega)
  · exact Nat.le_trans (Nat.le_of_eq cd_4) (by omega)
  · exact Nat.le_of_eq cd_5
/-- behind the 120th way there is none -/
theorem way_120 {n w : Nat} (hn : n ≤ 5) (hw : w < n ^ n) (hd : ds n w = true) (hc : 119 ≤ cd n w) : ∀ w', w < w' → w' < n ^ n → ds n w' = false := by
  intro w' c1 c2
  cases hq : ds n w' with
  | false => rfl
  | true =>
    have a1 := cd_s hd
    have a2 := cd_s hq
    have a3 := cd_le (n := n) (show w + 1 ≤ w' by omega)
    have a4 := cd_le (n := n) (show w' + 1 ≤ n ^ n by omega)
    have a5 := cd_n hn
    omega
/-- the first way is by number -/
def fs (n : Nat) : Nat := vl n (fun j => j)
theorem way_first {n : Nat} (hn : n ≤ 5) : fs n < n ^ n ∧ ds n (fs n) = true ∧ (∀ j, j < n → dg n (fs n) j = j) ∧ cd n (fs n) = 0 ∧ ∀ w', w' < fs n → ds n w' = false := by
  have key : ∀ n, n < 6 → (decide (fs n < n ^ n) && ds n (fs n) && (List.range n).all (fun j => dg n (fs n) j == j) && decide (cd n (fs n) = 0) && (List.range (fs n)).all (fun w => !ds n w)) = true := by decide +kernel
  have h := key n (by omega)
  simp only [Bool.and_eq_true, List.all_eq_true, decide_eq_true_eq] at h
  obtain ⟨⟨⟨⟨a1, a2⟩, a3⟩, a4⟩, a5⟩ := h
  exact ⟨a1, a2, fun j hj => by simpa using a3 j (List.mem_range.mpr hj), a4, fun w hw => by simpa using a5 w (List.mem_range.mpr hw)⟩
/-- ranks of a way, ahead of n -/
def rkW (n w : Nat) (rk : Nat → Int) : Nat → Int := fun j => if j < n then (dg n w j : Int) else rk j
