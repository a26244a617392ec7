def tb (g : Nat → Bool) (i j : Nat) : Prop := g (16 * i + j) = true
def cgB (n1 n2 : Nat) (B : (Nat → Nat → Prop) → Nat → Nat → Prop) : Prop := ∀ (i j : Nat) (G G' : Nat → Nat → Prop), i < n1 → j < n2 → (∀ i' j', i ≤ i' → j ≤ j' → i' < n1 → j' < n2 → (i < i' ∨ j < j') → (G i' j' ↔ G' i' j')) → (B G i j ↔ B G' i j)
def rcB (n1 n2 : Nat) (B : (Nat → Nat → Prop) → Nat → Nat → Prop) (G : Nat → Nat → Prop) : Prop := ∀ i j, i < n1 → j < n2 → (G i j ↔ B G i j)
def fld (n1 n2 : Nat) (B : (Nat → Nat → Prop) → Nat → Nat → Prop) (i j : Nat) (g : Nat → Bool) : Prop := ∀ i' j', i' < n1 → j' < n2 → (i < i' ∨ (i = i' ∧ j ≤ j')) → (tb g i' j' ↔ B (tb g) i' j')
theorem fld_1 {n1 n2 : Nat} {B : (Nat → Nat → Prop) → Nat → Nat → Prop} {i j : Nat} {g : Nat → Bool} {b : Bool} (h16 : n2 ≤ 16) (hB : cgB n1 n2 B) (hi : i < n1) (hj : j < n2) (h : fld n1 n2 B i (j + 1) g) (hb : b = true ↔ B (tb g) i j) : fld n1 n2 B i j (ub g (16 * i + j) b) := by
  have hne : ∀ i' j', i' < n1 → j' < n2 → (i < i' ∨ (i = i' ∧ j < j')) → (tb (ub g (16 * i + j) b) i' j' ↔ tb g i' j') := by
    intro i' j' a1 a2 a3
    unfold tb
    rw [ub_n g b (by omega)]
  intro i' j' a1 a2 a3
  by_cases hh : i = i' ∧ j = j'
  · obtain ⟨rfl, rfl⟩ := hh
    have e1 : tb (ub g (16 * i + j) b) i j ↔ b = true := by unfold tb; rw [ub_s]
    rw [e1, hb]
    exact hB i j _ _ hi hj (fun i' j' c1 c2 c3 c4 c5 => (hne i' j' c3 c4 (by omega)).symm)
  · rw [hne i' j' a1 a2 (by omega), h i' j' a1 a2 (by omega)]
    exact hB i' j' _ _ a1 a2 (fun x y c1 c2 c3 c4 c5 => (hne x y c3 c4 (by omega)).symm)
theorem fld_row {n1 n2 : Nat} {B : (Nat → Nat → Prop) → Nat → Nat → Prop} {i : Nat} {g : Nat → Bool} (h : fld n1 n2 B (i + 1) 0 g) : fld n1 n2 B i n2 g := fun i' j' a1 a2 a3 => h i' j' a1 a2 (by omega)
theorem fld_0 {n1 n2 : Nat} {B : (Nat → Nat → Prop) → Nat → Nat → Prop} {g : Nat → Bool} : fld n1 n2 B n1 0 g := fun i' j' a1 a2 a3 => by omega
theorem fld_rc {n1 n2 : Nat} {B : (Nat → Nat → Prop) → Nat → Nat → Prop} {g : Nat → Bool} (h : fld n1 n2 B 0 0 g) : rcB n1 n2 B (tb g) := fun i j a1 a2 => h i j a1 a2 (by omega)
theorem rcB_uq {n1 n2 : Nat} {B : (Nat → Nat → Prop) → Nat → Nat → Prop} {G G' : Nat → Nat → Prop} (hB : cgB n1 n2 B) (h : rcB n1 n2 B G) (h' : rcB n1 n2 B G') : ∀ i j, i < n1 → j < n2 → (G i j ↔ G' i j) := by
  have key : ∀ d i j, (n1 - i) + (n2 - j) ≤ d → i < n1 → j < n2 → (G i j ↔ G' i j) := by
    intro d
    induction d with
    | zero => intro i j a1 a2 a3; omega
    | succ d ih =>
      intro i j a1 a2 a3
      rw [h i j a2 a3, h' i j a2 a3]
      exact hB i j _ _ a2 a3 (fun i' j' c1 c2 c3 c4 c5 => ih i' j' (by omega) c3 c4)
  exact fun i j a1 a2 => key _ i j (Nat.le_refl _) a1 a2
theorem rcB_ex {n1 n2 : Nat} {B : (Nat → Nat → Prop) → Nat → Nat → Prop} (h16 : n2 ≤ 16) (hB : cgB n1 n2 B) : ∃ G, rcB n1 n2 B G := by
  have row : ∀ i, i < n1 → ∀ g, fld n1 n2 B (i + 1) 0 g → ∀ d, d ≤ n2 → ∃ g', fld n1 n2 B i (n2 - d) g' := by
    intro i hi g hg d
    induction d with
    | zero => intro _; exact ⟨g, fld_row hg⟩
    | succ d ih =>
      intro hd
      obtain ⟨g', hg'⟩ := ih (by omega)
      have e1 : n2 - d = (n2 - (d + 1)) + 1 := by omega
      rw [e1] at hg'
      by_cases hb : B (tb g') i (n2 - (d + 1))
      · exact ⟨_, fld_1 (b := true) h16 hB hi (by omega) hg' ⟨fun _ => hb, fun _ => rfl⟩⟩
      · exact ⟨_, fld_1 (b := false) h16 hB hi (by omega) hg' ⟨fun q => (Bool.noConfusion q), fun q => absurd q hb⟩⟩
  have all : ∀ d, d ≤ n1 → ∃ g, fld n1 n2 B (n1 - d) 0 g := by
    intro d
    induction d with
    | zero => intro _; exact ⟨fun _ => false, fld_0⟩
    | succ d ih =>
      intro hd
      obtain ⟨g, hg⟩ := ih (by omega)
      have e1 : n1 - d = (n1 - (d + 1)) + 1 := by omega
      rw [e1] at hg
      obtain ⟨g', hg'⟩ := row _ (by omega) g hg n2 (Nat.le_refl _)
      rw [Nat.sub_self] at hg'
      exact ⟨g', hg'⟩
  obtain ⟨g, hg⟩ := all n1 (Nat.le_refl _)
  rw [Nat.sub_self] at hg
  exact ⟨tb g, fld_rc hg⟩
theorem paP_cg {rk : Nat → Int} {h1 : Nat → Int} {e1 : Nat → Nat} {m1 : Nat → Int} {n1 : Nat} {h2 : Nat → Int} {e2 : Nat → Nat} {m2 : Nat → Int} {n2 : Nat} (w1 : wfE m1 n1 e1) (w2 : wfE m2 n2 e2) (hm : ∀ i j, i < n1 → j < n2 → h1 i = h2 j → m1 i = m2 j) : cgB n1 n2 (fun G i j => paP G rk h1 e1 m1 i h2 e2 m2 j) := by
  intro i j G G' hi hj h
  have hA : ∀ k : Nat, (k : Int) < m1 i → (G (prt e1 i k) j ↔ G' (prt e1 i k) j) := fun k hk => by
    obtain ⟨a1, a2, a3⟩ := prt_lt w1 hi hk
    exact h _ _ (by omega) (Nat.le_refl _) a3 hj (Or.inl a1)
  have hC : ∀ k : Nat, (k : Int) < m2 j → (G i (prt e2 j k) ↔ G' i (prt e2 j k)) := fun k hk => by
    obtain ⟨a1, a2, a3⟩ := prt_lt w2 hj hk
    exact h _ _ (Nat.le_refl _) (by omega) hi a3 (Or.inr a1)
  have hD : h1 i = h2 j → ∀ k : Nat, (k : Int) < m1 i → (G (prt e1 i k) (prt e2 j k) ↔ G' (prt e1 i k) (prt e2 j k)) := fun hq k hk => by
    obtain ⟨a1, a2, a3⟩ := prt_lt w1 hi hk
    obtain ⟨b1, b2, b3⟩ := prt_lt w2 hj (k := k) (by rw [← hm i j hi hj hq]; exact hk)
    exact h _ _ (by omega) (by omega) a3 b3 (Or.inl a1)
  have one : ∀ {X Y : Nat → Nat → Prop}, (∀ k : Nat, (k : Int) < m1 i → (X (prt e1 i k) j ↔ Y (prt e1 i k) j)) → (∀ k : Nat, (k : Int) < m2 j → (X i (prt e2 j k) ↔ Y i (prt e2 j k))) → (h1 i = h2 j → ∀ k : Nat, (k : Int) < m1 i → (X (prt e1 i k) (prt e2 j k) ↔ Y (prt e1 i k) (prt e2 j k))) → paP X rk h1 e1 m1 i h2 e2 m2 j → paP Y rk h1 e1 m1 i h2 e2 m2 j := by
    intro X Y xA xC xD hp
    rcases hp with ⟨k, hk, hg⟩ | ⟨p1, p2, p3, p4, p5⟩
    · exact Or.inl ⟨k, hk, hg.imp (xA k hk).mp id⟩
    · exact Or.inr ⟨p1, p2, fun k hk => (xC k hk).mp (p3 k hk), p4, fun hq => (ioP_cg (xD hq)).mp (p5 hq)⟩
  exact ⟨one hA hC hD, one (fun k hk => (hA k hk).symm) (fun k hk => (hC k hk).symm) (fun hq k hk => (hD hq k hk).symm)⟩
theorem weP_cg {rk wt : Nat → Int} {h1 : Nat → Int} {e1 : Nat → Nat} {m1 : Nat → Int} {n1 : Nat} {h2 : Nat → Int} {e2 : Nat → Nat} {m2 : Nat → Int} {n2 : Nat} (w1 : wfE m1 n1 e1) (w2 : wfE m2 n2 e2) (hm : ∀ i j, i < n1 → j < n2 → h1 i = h2 j → m1 i = m2 j) : cgB n1 n2 (fun G i j => weP G rk wt h1 e1 m1 i h2 e2 j) := by
  intro i j G G' hi hj h
  have hD : h1 i = h2 j → ∀ k : Nat, (k : Int) < m1 i → (G (prt e1 i k) (prt e2 j k) ↔ G' (prt e1 i k) (prt e2 j k)) := fun hq k hk => by
    obtain ⟨a1, a2, a3⟩ := prt_lt w1 hi hk
    obtain ⟨b1, b2, b3⟩ := prt_lt w2 hj (k := k) (by rw [← hm i j hi hj hq]; exact hk)
    exact h _ _ (by omega) (by omega) a3 b3 (Or.inl a1)
  constructor
  · rintro ⟨a, b, c⟩
    exact ⟨a, b, fun hw => ⟨(c hw).1, fun h0 => ⟨((c hw).2 h0).1, ((c hw).2 h0).2.1, fun hq => (ioP_cg (hD hq)).mp (((c hw).2 h0).2.2 hq)⟩⟩⟩
  · rintro ⟨a, b, c⟩
    exact ⟨a, b, fun hw => ⟨(c hw).1, fun h0 => ⟨((c hw).2 h0).1, ((c hw).2 h0).2.1, fun hq => (ioP_cg (hD hq)).mpr (((c hw).2 h0).2.2 hq)⟩⟩⟩
/-- the two orders -/
def gtP (rk : Nat → Int) (h1 : Nat → Int) (e1 : Nat → Nat) (m1 : Nat → Int) (n1 : Nat) (h2 : Nat → Int) (e2 : Nat → Nat) (m2 : Nat → Int) (n2 : Nat) : Prop := ∃ G, rcB n1 n2 (fun G i j => paP G rk h1 e1 m1 i h2 e2 m2 j) G ∧ G 0 0
def gtW (rk wt : Nat → Int) (h1 : Nat → Int) (e1 : Nat → Nat) (m1 : Nat → Int) (n1 : Nat) (h2 : Nat → Int) (e2 : Nat → Nat) (n2 : Nat) : Prop := ∃ G, rcB n1 n2 (fun G i j => weP G rk wt h1 e1 m1 i h2 e2 j) G ∧ G 0 0
theorem gtP_of {rk : Nat → Int} {h1 : Nat → Int} {e1 : Nat → Nat} {m1 : Nat → Int} {n1 : Nat} {h2 : Nat → Int} {e2 : Nat → Nat} {m2 : Nat → Int} {n2 : Nat} (w1 : wfE m1 n1 e1) (w2 : wfE m2 n2 e2) (hm : ∀ i j, i < n1 → j < n2 → h1 i = h2 j → m1 i = m2 j) (z1 : 0 < n1) (z2 : 0 < n2) {G : Nat → Nat → Prop} (h : rcB n1 n2 (fun G i j => paP G rk h1 e1 m1 i h2 e2 m2 j) G) : gtP rk h1 e1 m1 n1 h2 e2 m2 n2 ↔ G 0 0 :=
  ⟨fun ⟨_, a, b⟩ => (rcB_uq (paP_cg w1 w2 hm) a h 0 0 z1 z2).mp b, fun b => ⟨G, h, b⟩⟩
theorem gtW_of {rk wt : Nat → Int} {h1 : Nat → Int} {e1 : Nat → Nat} {m1 : Nat → Int} {n1 : Nat} {h2 : Nat → Int} {e2 : Nat → Nat} {m2 : Nat → Int} {n2 : Nat} (w1 : wfE m1 n1 e1) (w2 : wfE m2 n2 e2) (hm : ∀ i j, i < n1 → j < n2 → h1 i = h2 j → m1 i = m2 j) (z1 : 0 < n1) (z2 : 0 < n2) {G : Nat → Nat → Prop} (h : rcB n1 n2 (fun G i j => weP G rk wt h1 e1 m1 i h2 e2 j) G) : gtW rk wt h1 e1 m1 n1 h2 e2 n2 ↔ G 0 0 :=
  ⟨fun ⟨_, a, b⟩ => (rcB_uq (weP_cg w1 w2 hm) a h 0 0 z1 z2).mp b, fun b => ⟨G, h, b⟩⟩
