/-- rows of terms that are made -/
def bdL (sy : Nat) (l : List Int) : Prop := ∀ c ∈ l, -4 ≤ c ∧ c < sy
theorem bdL_rw {sy : Nat} {l : List Int} (h : bdL sy l) : ∀ q, q < l.length → -4 ≤ rw_ l q ∧ rw_ l q < sy := by
  intro q hq
  have e : rw_ l q = l[q] := by simp [rw_, hq]
  rw [e]
  exact h _ (List.getElem_mem hq)
theorem bdL_app {sy : Nat} {l1 l2 : List Int} (h1 : bdL sy l1) (h2 : bdL sy l2) : bdL sy (l1 ++ l2) := fun c hc => (List.mem_append.mp hc).elim (h1 c) (h2 c)
theorem bdL_seg {sy n : Nat} {h : Nat → Int} {a b : Nat} (hb : b ≤ n) (hh : ∀ q, q < n → -4 ≤ h q ∧ h q < sy) : bdL sy (seg h a b) := by
  intro c hc
  unfold seg at hc
  obtain ⟨k, hk, rfl⟩ := List.mem_map.mp hc
  have := List.mem_range.mp hk
  exact hh _ (by omega)
theorem newT_ex {sy : Nat} {ar : Nat → Int} {l : List Int} (hsy : sy ≤ 5) (har : ∀ q, q < 5 → 0 ≤ ar q ∧ ar q ≤ 3) (hl : Lu ar 1 l) (hb : bdL sy l) : ∃ (tm : Nat → Int) (te : Nat → Nat) (t : Nat → Int), newT sy ar l tm te t := by
  have h0 : 0 < l.length := by
    cases l with
    | nil => exact absurd (show (1 : Int) = 0 from hl) (by decide)
    | cons c r => exact Nat.succ_pos _
  have hm : ∀ k, k < l.length → 0 ≤ mr_ ar (rw_ l) k := fun k hk => by
    have z := bdL_rw hb k hk
    show 0 ≤ mny ar (rw_ l k)
    unfold mny
    split
    · exact Int.le_refl 0
    · exact (har _ (by omega)).1
  obtain ⟨e, he⟩ := wf_ex hm (Lu_row hl)
  obtain ⟨t, ht⟩ := hg_ex he
  exact ⟨_, e, t, h0, bdL_rw hb, fun q hq => rfl, he, wf_0 h0 (Lu_row hl) he, ht⟩
theorem okT_Lu {sy : Nat} {ar : Nat → Int} {n : Nat} {th tm : Nat → Int} {te : Nat → Nat} {ht : Nat → Int} (h : okT sy ar n th tm te ht) : wfE (mr_ ar th) n te := wf_cg (fun k hk => h.2.2.2.1 k hk) h.2.2.2.2.1
theorem okT_seg {sy : Nat} {ar : Nat → Int} {n : Nat} {th tm : Nat → Int} {te : Nat → Nat} {ht : Nat → Int} (h : okT sy ar n th tm te ht) : Lu ar 1 (seg th 0 n) := by
  have := Lu_sub (okT_Lu h) h.1
  rw [h.2.2.2.2.2.1] at this
  exact this
theorem new_var {sy : Nat} {ar : Nat → Int} {x : Int} (hsy : sy ≤ 5) (har : ∀ q, q < 5 → 0 ≤ ar q ∧ ar q ≤ 3) (hx : 0 ≤ x ∧ x ≤ 3) : ∃ (tm : Nat → Int) (te : Nat → Nat) (t : Nat → Int), newT sy ar [-1 - x] tm te t ∧ t 0 = 0 := by
  have hm : mny ar (-1 - x) = 0 := by unfold mny; rw [if_pos (by omega)]
  have hl : Lu ar 1 [-1 - x] := ⟨by decide, by rw [hm]; rfl⟩
  obtain ⟨tm, te, t, h⟩ := newT_ex hsy har hl (fun c hc => by rw [List.mem_singleton.mp hc]; omega)
  refine ⟨tm, te, t, h, ?_⟩
  have z := h.2.2.2.2.2 0 h.1
  rw [h.2.2.1 0 h.1, show rw_ [-1 - x] 0 = -1 - x from rfl, hm] at z
  exact z
theorem tR_Lu {sy : Nat} {ar : Nat → Int} {tn : Nat → Nat} {TH TM : Nat → Nat → Int} {TE : Nat → Nat → Nat} {HT : Nat → Nat → Int} {tc : Nat} (htp : ∀ t, t < tc → okT sy ar (tn t) (TH t) (TM t) (TE t) (HT t)) {s x y z : Int} : ∀ k : Nat, (∀ j, j < k → 0 ≤ prtA x y z j ∧ prtA x y z j < tc) → ∃ P, tR TH tn s x y z k = s :: P ∧ Lu ar (k : Int) P ∧ bdL sy P := by
  intro k
  induction k with
  | zero => intro _; exact ⟨[], rfl, rfl, fun c hc => absurd hc (List.not_mem_nil)⟩
  | succ k ih =>
    intro h
    obtain ⟨P, e, l, b⟩ := ih (fun j hj => h j (by omega))
    have hk := h k (by omega)
    have o := htp (prtA x y z k).toNat (by omega)
    refine ⟨P ++ seg (TH (prtA x y z k).toNat) 0 (tn (prtA x y z k).toNat), ?_, ?_, bdL_app b (bdL_seg (Nat.le_refl _) o.2.2.1)⟩
    · show tR TH tn s x y z k ++ _ = _
      rw [e]
      rfl
    · have z9 := Lu_app l (okT_seg o)
      rw [show ((k + 1 : Nat) : Int) = (k : Int) + 1 by omega]
      exact z9
theorem new_term {sy : Nat} {ar : Nat → Int} {tn : Nat → Nat} {TH TM : Nat → Nat → Int} {TE : Nat → Nat → Nat} {HT : Nat → Nat → Int} {tc : Nat} (hsy : sy ≤ 5) (har : ∀ q, q < 5 → 0 ≤ ar q ∧ ar q ≤ 3) (htp : ∀ t, t < tc → okT sy ar (tn t) (TH t) (TM t) (TE t) (HT t)) {s x y z : Int} (hg : (0 ≤ s ∧ s < sy) ∧ ∀ j, j < (ar s.toNat).toNat → 0 ≤ prtA x y z j ∧ prtA x y z j < tc) : ∃ (tm : Nat → Int) (te : Nat → Nat) (t : Nat → Int), newT sy ar (tR TH tn s x y z (ar s.toNat).toNat) tm te t := by
  obtain ⟨⟨s1, s2⟩, hg2⟩ := hg
  obtain ⟨P, e, l, b⟩ := tR_Lu htp (s := s) (ar s.toNat).toNat hg2
  rw [e]
  have ha := har s.toNat (by omega)
  refine newT_ex hsy har ?_ (fun c hc => ?_)
  · show 0 < (1 : Int) ∧ Lu ar (1 - 1 + mny ar s) P
    refine ⟨by decide, ?_⟩
    have e1 : (1 : Int) - 1 + mny ar s = ((ar s.toNat).toNat : Int) := by
      unfold mny
      rw [if_neg (by omega)]
      omega
    rw [e1]
    exact l
  · rcases List.mem_cons.mp hc with h | h
    · rw [h]; omega
    · exact b c h
theorem ins_bd {sy nr nt : Nat} {hr ht : Nat → Int} {et : Nat → Nat} {b : Nat → Int} (hhr : ∀ q, q < nr → -4 ≤ hr q ∧ hr q < sy) (hht : ∀ q, q < nt → -4 ≤ ht q ∧ ht q < sy) (hb : ∀ j, j < nr → hr j < 0 → et (b (-1 - hr j).toNat).toNat ≤ nt) : ∀ i, i ≤ nr → bdL sy (ins hr ht et b i) := by
  intro i
  induction i with
  | zero => intro _ c hc; exact absurd hc (List.not_mem_nil)
  | succ i ih =>
    intro hi
    show bdL sy (ins hr ht et b i ++ _)
    refine bdL_app (ih (by omega)) ?_
    by_cases hc : 0 ≤ hr i
    · rw [if_pos hc]
      intro c h
      rw [List.mem_singleton.mp h]
      exact hhr i (by omega)
    · rw [if_neg hc]
      exact bdL_seg (hb i (by omega) (by omega)) hht
theorem new_step {sy : Nat} {ar : Nat → Int} {n n1 n2 : Nat} {th tm th1 tm1 th2 tm2 : Nat → Int} {te te1 te2 : Nat → Nat} {ht ht1 ht2 : Nat → Int} (hsy : sy ≤ 5) (har : ∀ q, q < 5 → 0 ≤ ar q ∧ ar q ≤ 3) (h : okT sy ar n th tm te ht) (h1 : okT sy ar n1 th1 tm1 te1 ht1) (h2 : okT sy ar n2 th2 tm2 te2 ht2) (hv : ∀ q, q < n2 → th2 q < 0 → ∃ k, k < n1 ∧ th1 k = th2 q) {k q : Nat} {b : Nat → Int} (hk : k < n) (hM : MR th1 th te k n1 q b) : ∃ (tm' : Nat → Int) (te' : Nat → Nat) (t' : Nat → Int), newT sy ar (seg th 0 k ++ ins th2 th te b n2 ++ seg th (te k) n) tm' te' t' := by
  have hb : ∀ j, j < n2 → th2 j < 0 → (b (-1 - th2 j).toNat).toNat < n := by
    intro j hj hjn
    obtain ⟨x, e, l⟩ := st_bound h1 h hk hM (hv j hj hjn) hjn
    rw [e]
    omega
  obtain ⟨w1, w2, w3, w4⟩ := h.2.2.2.2.1 k hk
  have base : Lu ar 1 (seg th 0 k ++ (seg th k (te k) ++ seg th (te k) n)) := by
    rw [← seg_app th (Nat.le_of_lt w1) w2, ← seg_app th (Nat.zero_le k) (Nat.le_of_lt hk)]
    exact okT_seg h
  refine newT_ex hsy har ?_ ?_
  · rw [List.append_assoc]
    exact Lu_swap base (Lu_sub (okT_Lu h) hk) (ins_1 (wf_row h2.1 h2.2.2.2.2.2.1 (okT_Lu h2)) (okT_Lu h) hb)
  · refine bdL_app (bdL_app (bdL_seg (Nat.le_of_lt hk) h.2.2.1) (ins_bd h2.2.2.1 h.2.2.1 (fun j hj hjn => (h.2.2.2.2.1 _ (hb j hj hjn)).2.1) _ (Nat.le_refl _))) (bdL_seg (Nat.le_refl _) h.2.2.1)
theorem step_ex {sy : Nat} {ar : Nat → Int} (F : Nat → Nat → Nat → (Nat → Int) → Prop) (L : Nat → Nat → (Nat → Int) → List Int) (huq : ∀ k r0 q b k' r' q' b', F k r0 q b → F k' r' q' b' → k = k' ∧ r0 = r' ∧ b = b') (hex : ∀ k r0 q b, F k r0 q b → ∃ (tm : Nat → Int) (te : Nat → Nat) (t : Nat → Int), newT sy ar (L k r0 b) tm te t) : ∃ (tm : Nat → Int) (te : Nat → Nat) (t : Nat → Int), ∀ k r0 q b, F k r0 q b → newT sy ar (L k r0 b) tm te t := by
  by_cases h : ∃ k r0 q b, F k r0 q b
  · obtain ⟨k, r0, q, b, hf⟩ := h
    obtain ⟨tm, te, t, hn⟩ := hex k r0 q b hf
    refine ⟨tm, te, t, fun k' r' q' b' hf' => ?_⟩
    obtain ⟨e1, e2, e3⟩ := huq _ _ _ _ _ _ _ _ hf hf'
    subst e1 e2 e3
    exact hn
  · exact ⟨fun _ => 0, fun _ => 0, fun _ => 0, fun k r q b hf => absurd ⟨k, r, q, b, hf⟩ h⟩
theorem okT_add {sy : Nat} {ar : Nat → Int} {n : Nat} {th tm : Nat → Int} {te : Nat → Nat} {ht : Nat → Int} {x : Int} (h : okT sy ar n th tm te ht) : okT (sy + 1) (uz ar sy x) n th tm te ht := by
  refine ⟨h.1, h.2.1, fun q hq => by have := h.2.2.1 q hq; omega, fun q hq => ?_, h.2.2.2.2⟩
  have z := h.2.2.1 q hq
  rw [h.2.2.2.1 q hq]
  unfold mny
  split
  · rfl
  · rw [uz_n _ _ (by omega)]
theorem okT_new {sy : Nat} {ar : Nat → Int} {l : List Int} {tm : Nat → Int} {te : Nat → Nat} {t : Nat → Int} (h : newT sy ar l tm te t) (h16 : l.length ≤ 16) (h4 : t 0 ≤ 4) : okT sy ar l.length (rw_ l) tm te t := ⟨h.1, h16, h.2.1, h.2.2.1, h.2.2.2.1, h.2.2.2.2.1, h.2.2.2.2.2, h4⟩
