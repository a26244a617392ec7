def va_upd_s {f : Nat → Option Nat} {k : Nat} {v : Option Nat} : va_up f k v k = v := by simp [va_up]
theorem va_upd_n {f : Nat → Option Nat} {k j : Nat} {v : Option Nat} (h : j ≠ k) : va_up f k v j = f j := by simp [va_up, h]
def up {α : Type} (f : Nat → α) (k : Nat) (x : α) : Nat → α := fun j => if j = k then x else f j
theorem up_s {α : Type} {f : Nat → α} {k : Nat} {x : α} : up f k x k = x := by simp [up]
theorem up_n {α : Type} {f : Nat → α} {k j : Nat} {x : α} (h : j ≠ k) : up f k x j = f j := by simp [up, h]
/-- what holds between two calls of the script -/
def lwI (cI : ClassId) (sy : Nat) (ar : Nat → Int) (rk : Nat → Int) (wt : Nat → Int) (tc : Nat) (rc : Nat) (ta : Nat → Nat) (tH : Nat → Nat) (tP : Nat → Nat) (tE : Nat → Nat) (tn : Nat → Nat) (TH : Nat → Nat → Int) (TM : Nat → Nat → Int) (TE : Nat → Nat → Nat) (TG : Nat → Int) (HT : Nat → Nat → Int) (LI : Nat → Nat) (RI : Nat → Nat) (lf : Nat → Option Nat) (rf : Nat → Option Nat) (tf : Nat → Option Nat) (pl : va_W) (co : Nat → Int) (sz : Nat → Nat) : Prop :=
  sy ≤ 5 ∧ (∀ q, q < 5 → 0 ≤ ar q ∧ ar q ≤ 3) ∧ (∀ q, q < 5 → 0 ≤ rk q ∧ rk q ≤ 4) ∧ (∀ q, q < 5 → 0 ≤ wt q ∧ wt q ≤ 9) ∧ tc ≤ 160 ∧ rc ≤ 8 ∧ (∀ t, t < tc → tf t = some (ta t)) ∧
  (∀ t, t < tc → okT sy ar (tn t) (TH t) (TM t) (TE t) (HT t) ∧ tin pl cI (ta t) (tH t) (tP t) (tE t) (tn t) (TH t) (TM t) (TE t) (TG t)) ∧ (∀ t, t < tc → TG t = HT t 0) ∧ (∀ t, t < tc → sz t = tn t ∧ ∀ q, q < tn t → co (16 * t + q) = TH t q) ∧
  (∀ r, r < rc → LI r < tc ∧ RI r < tc ∧ lf r = some (ta (LI r)) ∧ rf r = some (ta (RI r)) ∧ ∀ q, q < tn (RI r) → TH (RI r) q < 0 → ∃ k, k < tn (LI r) ∧ TH (LI r) k = TH (RI r) q)
theorem lwI_mod {cI : ClassId} {sy : Nat} {ar : Nat → Int} {rk : Nat → Int} {wt : Nat → Int} {tc : Nat} {rc : Nat} {ta : Nat → Nat} {tH : Nat → Nat} {tP : Nat → Nat} {tE : Nat → Nat} {tn : Nat → Nat} {TH : Nat → Nat → Int} {TM : Nat → Nat → Int} {TE : Nat → Nat → Nat} {TG : Nat → Int} {HT : Nat → Nat → Int} {LI : Nat → Nat} {RI : Nat → Nat} {lf : Nat → Option Nat} {rf : Nat → Option Nat} {tf : Nat → Option Nat} {pl : va_W} {co : Nat → Int} {sz : Nat → Nat} (h : lwI cI sy ar rk wt tc rc ta tH tP tE tn TH TM TE TG HT LI RI lf rf tf pl co sz) : ∀ t, t < tc → okT sy ar (tn t) (TH t) (TM t) (TE t) (HT t) ∧ sz t = tn t ∧ ∀ q, q < tn t → co (16 * t + q) = TH t q := fun t ht => ⟨(h.2.2.2.2.2.2.2.1 t ht).1, h.2.2.2.2.2.2.2.2.2.1 t ht⟩
theorem lwI_mlr {cI : ClassId} {sy : Nat} {ar : Nat → Int} {rk : Nat → Int} {wt : Nat → Int} {tc : Nat} {rc : Nat} {ta : Nat → Nat} {tH : Nat → Nat} {tP : Nat → Nat} {tE : Nat → Nat} {tn : Nat → Nat} {TH : Nat → Nat → Int} {TM : Nat → Nat → Int} {TE : Nat → Nat → Nat} {TG : Nat → Int} {HT : Nat → Nat → Int} {LI : Nat → Nat} {RI : Nat → Nat} {lf : Nat → Option Nat} {rf : Nat → Option Nat} {tf : Nat → Option Nat} {pl : va_W} {co : Nat → Int} {sz : Nat → Nat} (h : lwI cI sy ar rk wt tc rc ta tH tP tE tn TH TM TE TG HT LI RI lf rf tf pl co sz) : ∀ r, r < rc → LI r < tc ∧ RI r < tc ∧ ∀ q, q < tn (RI r) → TH (RI r) q < 0 → ∃ k, k < tn (LI r) ∧ TH (LI r) k = TH (RI r) q := fun r hr => ⟨(h.2.2.2.2.2.2.2.2.2.2 r hr).1, (h.2.2.2.2.2.2.2.2.2.2 r hr).2.1, (h.2.2.2.2.2.2.2.2.2.2 r hr).2.2.2.2⟩
theorem lwI_ok {cI : ClassId} {sy : Nat} {ar : Nat → Int} {rk : Nat → Int} {wt : Nat → Int} {tc : Nat} {rc : Nat} {ta : Nat → Nat} {tH : Nat → Nat} {tP : Nat → Nat} {tE : Nat → Nat} {tn : Nat → Nat} {TH : Nat → Nat → Int} {TM : Nat → Nat → Int} {TE : Nat → Nat → Nat} {TG : Nat → Int} {HT : Nat → Nat → Int} {LI : Nat → Nat} {RI : Nat → Nat} {lf : Nat → Option Nat} {rf : Nat → Option Nat} {tf : Nat → Option Nat} {pl : va_W} {co : Nat → Int} {sz : Nat → Nat} (h : lwI cI sy ar rk wt tc rc ta tH tP tE tn TH TM TE TG HT LI RI lf rf tf pl co sz) : ∀ t, t < tc → okT sy ar (tn t) (TH t) (TM t) (TE t) (HT t) := fun t ht => (h.2.2.2.2.2.2.2.1 t ht).1
theorem lwI_sym {cI : ClassId} {sy : Nat} {ar : Nat → Int} {rk : Nat → Int} {wt : Nat → Int} {tc : Nat} {rc : Nat} {ta : Nat → Nat} {tH : Nat → Nat} {tP : Nat → Nat} {tE : Nat → Nat} {tn : Nat → Nat} {TH : Nat → Nat → Int} {TM : Nat → Nat → Int} {TE : Nat → Nat → Nat} {TG : Nat → Int} {HT : Nat → Nat → Int} {LI : Nat → Nat} {RI : Nat → Nat} {lf : Nat → Option Nat} {rf : Nat → Option Nat} {tf : Nat → Option Nat} {pl : va_W} {co : Nat → Int} {sz : Nat → Nat} {x : Int} (h : lwI cI sy ar rk wt tc rc ta tH tP tE tn TH TM TE TG HT LI RI lf rf tf pl co sz) (h5 : sy < 5) (hx : 0 ≤ x ∧ x ≤ 3) : lwI cI (sy + 1) (uz ar sy x) (uz rk sy ↑sy) (uz wt sy 1) tc rc ta tH tP tE tn TH TM TE TG HT LI RI lf rf tf pl co sz := by
  obtain ⟨i1, i2, i3, i4, i5, i6, i7, i8, i9, i10, i11⟩ := h
  refine ⟨by omega, fun q hq => ?_, fun q hq => ?_, fun q hq => ?_, i5, i6, i7, fun t ht => ⟨okT_add (i8 t ht).1, (i8 t ht).2⟩, i9, i10, i11⟩
  · by_cases e : q = sy
    · rw [e, uz_s]; omega
    · rw [uz_n _ _ e]; exact i2 q hq
  · by_cases e : q = sy
    · rw [e, uz_s]; omega
    · rw [uz_n _ _ e]; exact i3 q hq
  · by_cases e : q = sy
    · rw [e, uz_s]; omega
    · rw [uz_n _ _ e]; exact i4 q hq
theorem lwI_ord {cI : ClassId} {sy : Nat} {ar : Nat → Int} {rk : Nat → Int} {wt : Nat → Int} {tc : Nat} {rc : Nat} {ta : Nat → Nat} {tH : Nat → Nat} {tP : Nat → Nat} {tE : Nat → Nat} {tn : Nat → Nat} {TH : Nat → Nat → Int} {TM : Nat → Nat → Int} {TE : Nat → Nat → Nat} {TG : Nat → Int} {HT : Nat → Nat → Int} {LI : Nat → Nat} {RI : Nat → Nat} {lf : Nat → Option Nat} {rf : Nat → Option Nat} {tf : Nat → Option Nat} {pl : va_W} {co : Nat → Int} {sz : Nat → Nat} {x y z : Int} (h : lwI cI sy ar rk wt tc rc ta tH tP tE tn TH TM TE TG HT LI RI lf rf tf pl co sz) (hy : 0 ≤ y ∧ y ≤ 4) (hz : 0 ≤ z ∧ z ≤ 9) : lwI cI sy ar (uz rk x.toNat y) (uz wt x.toNat z) tc rc ta tH tP tE tn TH TM TE TG HT LI RI lf rf tf pl co sz := by
  obtain ⟨i1, i2, i3, i4, ir⟩ := h
  refine ⟨i1, i2, fun q hq => ?_, fun q hq => ?_, ir⟩
  · by_cases e : q = x.toNat
    · rw [e, uz_s]; omega
    · rw [uz_n _ _ e]; exact i3 q hq
  · by_cases e : q = x.toNat
    · rw [e, uz_s]; omega
    · rw [uz_n _ _ e]; exact i4 q hq
theorem lwI_rk {cI : ClassId} {sy : Nat} {ar : Nat → Int} {rk : Nat → Int} {wt : Nat → Int} {tc : Nat} {rc : Nat} {ta : Nat → Nat} {tH : Nat → Nat} {tP : Nat → Nat} {tE : Nat → Nat} {tn : Nat → Nat} {TH : Nat → Nat → Int} {TM : Nat → Nat → Int} {TE : Nat → Nat → Nat} {TG : Nat → Int} {HT : Nat → Nat → Int} {LI : Nat → Nat} {RI : Nat → Nat} {lf : Nat → Option Nat} {rf : Nat → Option Nat} {tf : Nat → Option Nat} {pl : va_W} {co : Nat → Int} {sz : Nat → Nat} {rk2 : Nat → Int} (h : lwI cI sy ar rk wt tc rc ta tH tP tE tn TH TM TE TG HT LI RI lf rf tf pl co sz) (hr : ∀ q, q < 5 → 0 ≤ rk2 q ∧ rk2 q ≤ 4) : lwI cI sy ar rk2 wt tc rc ta tH tP tE tn TH TM TE TG HT LI RI lf rf tf pl co sz := ⟨h.1, h.2.1, hr, h.2.2.2⟩
theorem lwI_rul {cI : ClassId} {sy : Nat} {ar : Nat → Int} {rk : Nat → Int} {wt : Nat → Int} {tc : Nat} {rc : Nat} {ta : Nat → Nat} {tH : Nat → Nat} {tP : Nat → Nat} {tE : Nat → Nat} {tn : Nat → Nat} {TH : Nat → Nat → Int} {TM : Nat → Nat → Int} {TE : Nat → Nat → Nat} {TG : Nat → Int} {HT : Nat → Nat → Int} {LI : Nat → Nat} {RI : Nat → Nat} {lf : Nat → Option Nat} {rf : Nat → Option Nat} {tf : Nat → Option Nat} {pl : va_W} {co : Nat → Int} {sz : Nat → Nat} {x y : Int} (h : lwI cI sy ar rk wt tc rc ta tH tP tE tn TH TM TE TG HT LI RI lf rf tf pl co sz) (h8 : rc < 8) (hg : 0 ≤ x ∧ x < tc ∧ 0 ≤ y ∧ y < tc ∧ 0 ≤ TH x.toNat 0 ∧ ∀ q, q < tn y.toNat → TH y.toNat q < 0 → ∃ k, k < tn x.toNat ∧ TH x.toNat k = TH y.toNat q) : lwI cI sy ar rk wt tc (rc + 1) ta tH tP tE tn TH TM TE TG HT (un LI rc x.toNat) (un RI rc y.toNat) (va_up lf rc (some (ta x.toNat))) (va_up rf rc (some (ta y.toNat))) tf pl co sz := by
  obtain ⟨i1, i2, i3, i4, i5, i6, i7, i8, i9, i10, i11⟩ := h
  obtain ⟨g1, g2, g3, g4, g5, g6⟩ := hg
  refine ⟨i1, i2, i3, i4, i5, by omega, i7, i8, i9, i10, fun r hr => ?_⟩
  by_cases e : r = rc
  · subst e
    rw [un_s, un_s, va_upd_s, va_upd_s]
    exact ⟨by omega, by omega, rfl, rfl, g6⟩
  · rw [un_n _ _ e, un_n _ _ e, va_upd_n e, va_upd_n e]
    exact i11 r (by omega)
theorem tin_sh {pl : va_W} {a b c d : Nat × va_E} {cI : ClassId} {x y z u n : Nat} {th tm : Nat → Int} {te : Nat → Nat} {tg : Int} (h : tin pl cI x y z u n th tm te tg) : tin ([a, b, c, d] ++ pl) cI x y z u n th tm te tg := by
  obtain ⟨⟨k1, h1⟩, ⟨k2, h2⟩, ⟨k3, h3⟩, ⟨k4, h4⟩⟩ := h
  have e : ∀ k : Nat, ([a, b, c, d] ++ pl)[k + 4]? = pl[k]? := fun k => rfl
  exact ⟨⟨k1 + 4, (e k1).trans h1⟩, ⟨k2 + 4, (e k2).trans h2⟩, ⟨k3 + 4, (e k3).trans h3⟩, ⟨k4 + 4, (e k4).trans h4⟩⟩
theorem lwI_new {cI : ClassId} {sy : Nat} {ar : Nat → Int} {rk : Nat → Int} {wt : Nat → Int} {tc : Nat} {rc : Nat} {ta : Nat → Nat} {tH : Nat → Nat} {tP : Nat → Nat} {tE : Nat → Nat} {tn : Nat → Nat} {TH : Nat → Nat → Int} {TM : Nat → Nat → Int} {TE : Nat → Nat → Nat} {TG : Nat → Int} {HT : Nat → Nat → Int} {LI : Nat → Nat} {RI : Nat → Nat} {lf : Nat → Option Nat} {rf : Nat → Option Nat} {tf : Nat → Option Nat} {pl : va_W} {co : Nat → Int} {sz : Nat → Nat} {na nH nP nE : Nat} {l : List Int} {tm : Nat → Int} {te : Nat → Nat} {t : Nat → Int} {co2 : Nat → Int} (h : lwI cI sy ar rk wt tc rc ta tH tP tE tn TH TM TE TG HT LI RI lf rf tf pl co sz) (hN : newT sy ar l tm te t) (h16 : l.length ≤ 16) (h4 : t 0 ≤ 4) (htc : tc < 160) (hc1 : ∀ j, j < 16 * tc → co2 j = co j) (hc2 : ∀ q, q < l.length → co2 (16 * tc + q) = rw_ l q) : lwI cI sy ar rk wt (tc + 1) rc (up ta tc na) (up tH tc nH) (up tP tc nP) (up tE tc nE) (up tn tc l.length) (up TH tc (rw_ l)) (up TM tc tm) (up TE tc te) (up TG tc (t 0)) (up HT tc t) LI RI lf rf (va_up tf tc (some na)) ([(na, .inr (1, [.ref nH, .ref nP, .ref nE, .int (zI (↑l.length)), .int (zI (t 0))])), (nH, .inl (cI, l.length, .inl (zA (rw_ l)))), (nP, .inl (cI, l.length, .inl (zA tm))), (nE, .inl (cI, l.length, .inl (zA (eI te))))] ++ pl) co2 (un sz tc l.length) := by
  obtain ⟨i1, i2, i3, i4, i5, i6, i7, i8, i9, i10, i11⟩ := h
  refine ⟨i1, i2, i3, i4, by omega, i6, fun s hs => ?_, fun s hs => ?_, fun s hs => ?_, fun s hs => ?_, fun r hr => ?_⟩
  · by_cases e : s = tc
    · subst e; rw [va_upd_s, up_s]
    · rw [va_upd_n e, up_n e]; exact i7 s (by omega)
  · by_cases e : s = tc
    · subst e
      simp only [up_s]
      exact ⟨okT_new hN h16 h4, ⟨0, rfl⟩, ⟨1, rfl⟩, ⟨2, rfl⟩, ⟨3, rfl⟩⟩
    · simp only [up_n e]
      exact ⟨(i8 s (by omega)).1, tin_sh (i8 s (by omega)).2⟩
  · by_cases e : s = tc
    · subst e; rw [up_s, up_s]
    · rw [up_n e, up_n e]; exact i9 s (by omega)
  · by_cases e : s = tc
    · subst e
      rw [up_s, up_s, un_s]
      exact ⟨rfl, hc2⟩
    · rw [up_n e, up_n e, un_n _ _ e]
      refine ⟨(i10 s (by omega)).1, fun q hq => ?_⟩
      have z1 := (i8 s (by omega)).1.2.1
      rw [hc1 _ (by omega)]
      exact (i10 s (by omega)).2 q hq
  · obtain ⟨r1, r2, r3, r4, r5⟩ := i11 r hr
    have e1 : LI r ≠ tc := by omega
    have e2 : RI r ≠ tc := by omega
    simp only [up_n e1, up_n e2]
    exact ⟨by omega, by omega, r3, r4, r5⟩
theorem lwI_co {cI : ClassId} {sy : Nat} {ar : Nat → Int} {rk : Nat → Int} {wt : Nat → Int} {tc : Nat} {rc : Nat} {ta : Nat → Nat} {tH : Nat → Nat} {tP : Nat → Nat} {tE : Nat → Nat} {tn : Nat → Nat} {TH : Nat → Nat → Int} {TM : Nat → Nat → Int} {TE : Nat → Nat → Nat} {TG : Nat → Int} {HT : Nat → Nat → Int} {LI : Nat → Nat} {RI : Nat → Nat} {lf : Nat → Option Nat} {rf : Nat → Option Nat} {tf : Nat → Option Nat} {pl : va_W} {co : Nat → Int} {sz : Nat → Nat} {co2 : Nat → Int} (h : lwI cI sy ar rk wt tc rc ta tH tP tE tn TH TM TE TG HT LI RI lf rf tf pl co sz) (hc : ∀ j, j < 2560 → co2 j = co j) : lwI cI sy ar rk wt tc rc ta tH tP tE tn TH TM TE TG HT LI RI lf rf tf pl co2 sz := by
  obtain ⟨i1, i2, i3, i4, i5, i6, i7, i8, i9, i10, i11⟩ := h
  refine ⟨i1, i2, i3, i4, i5, i6, i7, i8, i9, fun s hs => ⟨(i10 s hs).1, fun q hq => ?_⟩, i11⟩
  have z1 := (i8 s hs).1.2.1
  rw [hc _ (by omega)]
  exact (i10 s hs).2 q hq
theorem ag_symbol {cI : ClassId} {sy : Nat} {ar : Nat → Int} {rk : Nat → Int} {wt : Nat → Int} {tc : Nat} {rc : Nat} {ta : Nat → Nat} {tH : Nat → Nat} {tP : Nat → Nat} {tE : Nat → Nat} {tn : Nat → Nat} {TH : Nat → Nat → Int} {TM : Nat → Nat → Int} {TE : Nat → Nat → Nat} {TG : Nat → Int} {HT : Nat → Nat → Int} {LI : Nat → Nat} {RI : Nat → Nat} {lf : Nat → Option Nat} {rf : Nat → Option Nat} {tf : Nat → Option Nat} {pl : va_W} {co : Nat → Int} {sz : Nat → Nat} {ot ot2 : Int64} {k9 : Int} {b9 : Int} {tw3 : Int} {x : Int} {sy2 sy3 : Nat} {ar2 ar3 rk2 rk3 wt2 wt3 : Nat → Int} (h : lwI cI sy ar rk wt tc rc ta tH tP tE tn TH TM TE TG HT LI RI lf rf tf pl co sz) (h1 : (k9 = 0 ∧ 0 ≤ x ∧ x ≤ 3 ∧ sy < 5 ∧ ot2 = (zI ↑sy).toInt64 ∧ sy2 = sy + 1 ∧ ar2 = uz ar sy x ∧ rk2 = uz rk sy ↑sy ∧ wt2 = uz wt sy 1) ∨ (k9 = 1 ∧ (x < 0 ∨ 3 < x) ∧ sy2 = sy ∧ ar2 = ar ∧ rk2 = rk ∧ wt2 = wt) ∨ (k9 = 2 ∧ 0 ≤ x ∧ x ≤ 3 ∧ sy = 5 ∧ sy2 = sy ∧ ar2 = ar ∧ rk2 = rk ∧ wt2 = wt)) (h2 : ((x < 0 ∨ 3 < x) ∧ tw3 = 1 ∧ sy3 = sy ∧ ar3 = ar ∧ rk3 = rk ∧ wt3 = wt) ∨ (0 ≤ x ∧ x ≤ 3 ∧ sy = 5 ∧ tw3 = 2 ∧ sy3 = sy ∧ ar3 = ar ∧ rk3 = rk ∧ wt3 = wt) ∨ (0 ≤ x ∧ x ≤ 3 ∧ sy < 5 ∧ tw3 = 0 ∧ sy3 = sy + 1 ∧ ar3 = uz ar sy x ∧ rk3 = uz rk sy ↑sy ∧ wt3 = uz wt sy 1 ∧ b9 = ↑sy)) : tw3 = k9 ∧ (k9 = 0 → ot2 = (zI b9).toInt64) ∧ sy2 = sy3 ∧ ar2 = ar3 ∧ rk2 = rk3 ∧ wt2 = wt3 ∧ lwI cI sy2 ar2 rk2 wt2 tc rc ta tH tP tE tn TH TM TE TG HT LI RI lf rf tf pl co sz := by
  rcases h1 with ⟨a0, a1, a2, a3, a4, a5, a6, a7, a8⟩ | ⟨a0, a1, a5, a6, a7, a8⟩ | ⟨a0, a1, a2, a3, a5, a6, a7, a8⟩
  · rcases h2 with ⟨b1, b2, b3, b4, b5, b6⟩ | ⟨b1, b2, b3, b4, b5, b6, b7, b8⟩ | ⟨b1, b2, b3, b4, b5, b6, b7, b8, b9⟩
    · exfalso; omega
    · exfalso; omega
    · subst a0 b4 a5 a6 a7 a8 b5 b6 b7 b8 b9
      exact ⟨rfl, fun _ => a4, rfl, rfl, rfl, rfl, lwI_sym h a3 ⟨a1, a2⟩⟩
  · rcases h2 with ⟨b1, b2, b3, b4, b5, b6⟩ | ⟨b1, b2, b3, b4, b5, b6, b7, b8⟩ | ⟨b1, b2, b3, b4, b5, b6, b7, b8, b9⟩
    · rw [a0, b2, a5, a6, a7, a8, b3, b4, b5, b6]
      exact ⟨rfl, fun z => absurd z (by decide), rfl, rfl, rfl, rfl, h⟩
    · exfalso; omega
    · exfalso; omega
  · rcases h2 with ⟨b1, b2, b3, b4, b5, b6⟩ | ⟨b1, b2, b3, b4, b5, b6, b7, b8⟩ | ⟨b1, b2, b3, b4, b5, b6, b7, b8, b9⟩
    · exfalso; omega
    · rw [a0, b4, a5, a6, a7, a8, b5, b6, b7, b8]
      exact ⟨rfl, fun z => absurd z (by decide), rfl, rfl, rfl, rfl, h⟩
    · exfalso; omega
theorem ag_rank {cI : ClassId} {sy : Nat} {ar : Nat → Int} {rk : Nat → Int} {wt : Nat → Int} {tc : Nat} {rc : Nat} {ta : Nat → Nat} {tH : Nat → Nat} {tP : Nat → Nat} {tE : Nat → Nat} {tn : Nat → Nat} {TH : Nat → Nat → Int} {TM : Nat → Nat → Int} {TE : Nat → Nat → Nat} {TG : Nat → Int} {HT : Nat → Nat → Int} {LI : Nat → Nat} {RI : Nat → Nat} {lf : Nat → Option Nat} {rf : Nat → Option Nat} {tf : Nat → Option Nat} {pl : va_W} {co : Nat → Int} {sz : Nat → Nat} {ot ot2 : Int64} {k9 : Int} {b9 : Int} {tw3 : Int} {x : Int} (h : lwI cI sy ar rk wt tc rc ta tH tP tE tn TH TM TE TG HT LI RI lf rf tf pl co sz) (h1 : (k9 = 0 ∧ (0 ≤ x ∧ x < sy) ∧ ot2 = (zI (rk x.toNat)).toInt64) ∨ (k9 = 1 ∧ ¬ (0 ≤ x ∧ x < sy))) (h2 : (¬ (0 ≤ x ∧ x < sy) ∧ tw3 = 1) ∨ ((0 ≤ x ∧ x < sy) ∧ tw3 = 0 ∧ b9 = rk x.toNat)) : tw3 = k9 ∧ (k9 = 0 → ot2 = (zI b9).toInt64) := by
  rcases h1 with ⟨a0, a1, a2⟩ | ⟨a0, a1⟩
  · rcases h2 with ⟨b1, b2⟩ | ⟨b1, b2, b3⟩
    · exact absurd a1 b1
    · rw [a0, b2, b3]; exact ⟨rfl, fun _ => a2⟩
  · rcases h2 with ⟨b1, b2⟩ | ⟨b1, b2, b3⟩
    · rw [a0, b2]; exact ⟨rfl, fun z => absurd z (by decide)⟩
    · exact absurd b1 a1
theorem ag_order {cI : ClassId} {sy : Nat} {ar : Nat → Int} {rk : Nat → Int} {wt : Nat → Int} {tc : Nat} {rc : Nat} {ta : Nat → Nat} {tH : Nat → Nat} {tP : Nat → Nat} {tE : Nat → Nat} {tn : Nat → Nat} {TH : Nat → Nat → Int} {TM : Nat → Nat → Int} {TE : Nat → Nat → Nat} {TG : Nat → Int} {HT : Nat → Nat → Int} {LI : Nat → Nat} {RI : Nat → Nat} {lf : Nat → Option Nat} {rf : Nat → Option Nat} {tf : Nat → Option Nat} {pl : va_W} {co : Nat → Int} {sz : Nat → Nat} {ot ot2 : Int64} {k9 : Int} {tw3 : Int} {x y z : Int} {rk2 rk3 wt2 wt3 : Nat → Int} (h : lwI cI sy ar rk wt tc rc ta tH tP tE tn TH TM TE TG HT LI RI lf rf tf pl co sz) (h1 : (k9 = 0 ∧ (0 ≤ x ∧ x < sy ∧ 0 ≤ y ∧ y ≤ 4 ∧ 0 ≤ z ∧ z ≤ 9) ∧ rk2 = uz rk x.toNat y ∧ wt2 = uz wt x.toNat z) ∨ (k9 = 1 ∧ ¬ (0 ≤ x ∧ x < sy ∧ 0 ≤ y ∧ y ≤ 4 ∧ 0 ≤ z ∧ z ≤ 9) ∧ rk2 = rk ∧ wt2 = wt)) (h2 : (¬ (0 ≤ x ∧ x < sy ∧ 0 ≤ y ∧ y ≤ 4 ∧ 0 ≤ z ∧ z ≤ 9) ∧ tw3 = 1 ∧ rk3 = rk ∧ wt3 = wt) ∨ ((0 ≤ x ∧ x < sy ∧ 0 ≤ y ∧ y ≤ 4 ∧ 0 ≤ z ∧ z ≤ 9) ∧ tw3 = 0 ∧ rk3 = uz rk x.toNat y ∧ wt3 = uz wt x.toNat z)) : tw3 = k9 ∧ rk2 = rk3 ∧ wt2 = wt3 ∧ lwI cI sy ar rk2 wt2 tc rc ta tH tP tE tn TH TM TE TG HT LI RI lf rf tf pl co sz := by
  rcases h1 with ⟨a0, a1, a2, a3⟩ | ⟨a0, a1, a2, a3⟩
  · rcases h2 with ⟨b1, b2, b3, b4⟩ | ⟨b1, b2, b3, b4⟩
    · exact absurd a1 b1
    · rw [a0, b2, a2, a3, b3, b4]; exact ⟨rfl, rfl, rfl, lwI_ord h (by omega) (by omega)⟩
  · rcases h2 with ⟨b1, b2, b3, b4⟩ | ⟨b1, b2, b3, b4⟩
    · rw [a0, b2, a2, a3, b3, b4]; exact ⟨rfl, rfl, rfl, h⟩
    · exact absurd b1 a1
theorem ag_rule {cI : ClassId} {sy : Nat} {ar : Nat → Int} {rk : Nat → Int} {wt : Nat → Int} {tc : Nat} {rc : Nat} {ta : Nat → Nat} {tH : Nat → Nat} {tP : Nat → Nat} {tE : Nat → Nat} {tn : Nat → Nat} {TH : Nat → Nat → Int} {TM : Nat → Nat → Int} {TE : Nat → Nat → Nat} {TG : Nat → Int} {HT : Nat → Nat → Int} {LI : Nat → Nat} {RI : Nat → Nat} {lf : Nat → Option Nat} {rf : Nat → Option Nat} {tf : Nat → Option Nat} {pl : va_W} {co : Nat → Int} {sz : Nat → Nat} {ot ot2 : Int64} {k9 : Int} {b9 : Int} {tw3 : Int} {x y : Int} {rc2 rc3 : Nat} {lf2 rf2 : Nat → Option Nat} {LI3 RI3 : Nat → Nat} (h : lwI cI sy ar rk wt tc rc ta tH tP tE tn TH TM TE TG HT LI RI lf rf tf pl co sz) (h1 : (k9 = 0 ∧ (0 ≤ x ∧ x < tc ∧ 0 ≤ y ∧ y < tc ∧ 0 ≤ TH x.toNat 0 ∧ ∀ q, q < tn y.toNat → TH y.toNat q < 0 → ∃ k, k < tn x.toNat ∧ TH x.toNat k = TH y.toNat q) ∧ rc < 8 ∧ ot2 = (zI ↑rc).toInt64 ∧ rc2 = rc + 1 ∧ lf2 = va_up lf rc (some (ta x.toNat)) ∧ rf2 = va_up rf rc (some (ta y.toNat))) ∨ (k9 = 1 ∧ ¬ (0 ≤ x ∧ x < tc ∧ 0 ≤ y ∧ y < tc ∧ 0 ≤ TH x.toNat 0 ∧ ∀ q, q < tn y.toNat → TH y.toNat q < 0 → ∃ k, k < tn x.toNat ∧ TH x.toNat k = TH y.toNat q) ∧ rc2 = rc ∧ lf2 = lf ∧ rf2 = rf) ∨ (k9 = 2 ∧ (0 ≤ x ∧ x < tc ∧ 0 ≤ y ∧ y < tc ∧ 0 ≤ TH x.toNat 0 ∧ ∀ q, q < tn y.toNat → TH y.toNat q < 0 → ∃ k, k < tn x.toNat ∧ TH x.toNat k = TH y.toNat q) ∧ rc = 8 ∧ rc2 = rc ∧ lf2 = lf ∧ rf2 = rf)) (h2 : (¬ (0 ≤ x ∧ x < tc ∧ 0 ≤ y ∧ y < tc ∧ 0 ≤ TH x.toNat 0 ∧ ∀ q, q < tn y.toNat → TH y.toNat q < 0 → ∃ k, k < tn x.toNat ∧ TH x.toNat k = TH y.toNat q) ∧ tw3 = 1 ∧ rc3 = rc ∧ LI3 = LI ∧ RI3 = RI) ∨ ((0 ≤ x ∧ x < tc ∧ 0 ≤ y ∧ y < tc ∧ 0 ≤ TH x.toNat 0 ∧ ∀ q, q < tn y.toNat → TH y.toNat q < 0 → ∃ k, k < tn x.toNat ∧ TH x.toNat k = TH y.toNat q) ∧ rc = 8 ∧ tw3 = 2 ∧ rc3 = rc ∧ LI3 = LI ∧ RI3 = RI) ∨ ((0 ≤ x ∧ x < tc ∧ 0 ≤ y ∧ y < tc ∧ 0 ≤ TH x.toNat 0 ∧ ∀ q, q < tn y.toNat → TH y.toNat q < 0 → ∃ k, k < tn x.toNat ∧ TH x.toNat k = TH y.toNat q) ∧ rc < 8 ∧ tw3 = 0 ∧ rc3 = rc + 1 ∧ LI3 = un LI rc x.toNat ∧ RI3 = un RI rc y.toNat ∧ b9 = ↑rc)) : tw3 = k9 ∧ (k9 = 0 → ot2 = (zI b9).toInt64) ∧ rc2 = rc3 ∧ lwI cI sy ar rk wt tc rc2 ta tH tP tE tn TH TM TE TG HT LI3 RI3 lf2 rf2 tf pl co sz := by
  rcases h1 with ⟨a0, a1, a2, a3, a4, a5, a6⟩ | ⟨a0, a1, a4, a5, a6⟩ | ⟨a0, a1, a2, a4, a5, a6⟩
  · rcases h2 with ⟨b1, b2, b3, b4, b5⟩ | ⟨b1, b2, b3, b4, b5, b6⟩ | ⟨b1, b2, b3, b4, b5, b6, b7⟩
    · exact absurd a1 b1
    · omega
    · rw [a0, b3, a4, a5, a6, b4, b5, b6, b7]; exact ⟨rfl, fun _ => a3, rfl, lwI_rul h a2 a1⟩
  · rcases h2 with ⟨b1, b2, b3, b4, b5⟩ | ⟨b1, b2, b3, b4, b5, b6⟩ | ⟨b1, b2, b3, b4, b5, b6, b7⟩
    · rw [a0, b2, a4, a5, a6, b3, b4, b5]; exact ⟨rfl, fun z => absurd z (by decide), rfl, h⟩
    · exact absurd b1 a1
    · exact absurd b1 a1
  · rcases h2 with ⟨b1, b2, b3, b4, b5⟩ | ⟨b1, b2, b3, b4, b5, b6⟩ | ⟨b1, b2, b3, b4, b5, b6, b7⟩
    · exact absurd a1 b1
    · rw [a0, b3, a4, a5, a6, b4, b5, b6]; exact ⟨rfl, fun z => absurd z (by decide), rfl, h⟩
    · omega
theorem ag_greater {cI : ClassId} {sy : Nat} {ar : Nat → Int} {rk : Nat → Int} {wt : Nat → Int} {tc : Nat} {rc : Nat} {ta : Nat → Nat} {tH : Nat → Nat} {tP : Nat → Nat} {tE : Nat → Nat} {tn : Nat → Nat} {TH : Nat → Nat → Int} {TM : Nat → Nat → Int} {TE : Nat → Nat → Nat} {TG : Nat → Int} {HT : Nat → Nat → Int} {LI : Nat → Nat} {RI : Nat → Nat} {lf : Nat → Option Nat} {rf : Nat → Option Nat} {tf : Nat → Option Nat} {pl : va_W} {co : Nat → Int} {sz : Nat → Nat} {ot ot2 : Int64} {k9 : Int} {b9 : Bool} {tw3 : Int} {x y z : Int} (h : lwI cI sy ar rk wt tc rc ta tH tP tE tn TH TM TE TG HT LI RI lf rf tf pl co sz) (h1 : (k9 = 0 ∧ (0 ≤ x ∧ x ≤ 1 ∧ 0 ≤ y ∧ y < tc ∧ 0 ≤ z ∧ z < tc) ∧ ((gtO x rk wt (TH y.toNat) (TE y.toNat) (TM y.toNat) (tn y.toNat) (TH z.toNat) (TE z.toNat) (TM z.toNat) (tn z.toNat)) → ot2 = 1) ∧ (¬ (gtO x rk wt (TH y.toNat) (TE y.toNat) (TM y.toNat) (tn y.toNat) (TH z.toNat) (TE z.toNat) (TM z.toNat) (tn z.toNat)) → ot2 = 0)) ∨ (k9 = 1 ∧ ¬ (0 ≤ x ∧ x ≤ 1 ∧ 0 ≤ y ∧ y < tc ∧ 0 ≤ z ∧ z < tc))) (h2 : (¬ (0 ≤ x ∧ x ≤ 1 ∧ 0 ≤ y ∧ y < tc ∧ 0 ≤ z ∧ z < tc) ∧ tw3 = 1) ∨ ((0 ≤ x ∧ x ≤ 1 ∧ 0 ≤ y ∧ y < tc ∧ 0 ≤ z ∧ z < tc) ∧ tw3 = 0 ∧ (b9 = true ↔ gtO x rk wt (TH y.toNat) (TE y.toNat) (TM y.toNat) (tn y.toNat) (TH z.toNat) (TE z.toNat) (TM z.toNat) (tn z.toNat)))) : tw3 = k9 ∧ (k9 = 0 → b9 = true → ot2 = 1) ∧ (k9 = 0 → b9 = false → ot2 = 0) := by
  rcases h1 with ⟨a0, a1, a2, a3⟩ | ⟨a0, a1⟩
  · rcases h2 with ⟨b1, b2⟩ | ⟨b1, b2, b3⟩
    · exact absurd a1 b1
    · rw [a0, b2]; exact ⟨rfl, fun _ z => a2 (b3.mp z), fun _ z => a3 (fun y => by rw [b3.mpr y] at z; exact Bool.noConfusion z)⟩
  · rcases h2 with ⟨b1, b2⟩ | ⟨b1, b2, b3⟩
    · rw [a0, b2]; exact ⟨rfl, fun z => absurd z (by decide), fun z => absurd z (by decide)⟩
    · exact absurd b1 a1
theorem ag_same {cI : ClassId} {sy : Nat} {ar : Nat → Int} {rk : Nat → Int} {wt : Nat → Int} {tc : Nat} {rc : Nat} {ta : Nat → Nat} {tH : Nat → Nat} {tP : Nat → Nat} {tE : Nat → Nat} {tn : Nat → Nat} {TH : Nat → Nat → Int} {TM : Nat → Nat → Int} {TE : Nat → Nat → Nat} {TG : Nat → Int} {HT : Nat → Nat → Int} {LI : Nat → Nat} {RI : Nat → Nat} {lf : Nat → Option Nat} {rf : Nat → Option Nat} {tf : Nat → Option Nat} {pl : va_W} {co : Nat → Int} {sz : Nat → Nat} {ot ot2 : Int64} {k9 : Int} {b9 : Bool} {tw3 : Int} {x y : Int} (h : lwI cI sy ar rk wt tc rc ta tH tP tE tn TH TM TE TG HT LI RI lf rf tf pl co sz) (h1 : (k9 = 0 ∧ (0 ≤ x ∧ x < tc ∧ 0 ≤ y ∧ y < tc) ∧ ((smP (TH x.toNat) (TE x.toNat) 0 (TH y.toNat) (TE y.toNat) 0) → ot2 = 1) ∧ (¬ (smP (TH x.toNat) (TE x.toNat) 0 (TH y.toNat) (TE y.toNat) 0) → ot2 = 0)) ∨ (k9 = 1 ∧ ¬ (0 ≤ x ∧ x < tc ∧ 0 ≤ y ∧ y < tc))) (h2 : (¬ (0 ≤ x ∧ x < tc ∧ 0 ≤ y ∧ y < tc) ∧ tw3 = 1) ∨ ((0 ≤ x ∧ x < tc ∧ 0 ≤ y ∧ y < tc) ∧ tw3 = 0 ∧ (b9 = true ↔ smP (TH x.toNat) (TE x.toNat) 0 (TH y.toNat) (TE y.toNat) 0))) : tw3 = k9 ∧ (k9 = 0 → b9 = true → ot2 = 1) ∧ (k9 = 0 → b9 = false → ot2 = 0) := by
  rcases h1 with ⟨a0, a1, a2, a3⟩ | ⟨a0, a1⟩
  · rcases h2 with ⟨b1, b2⟩ | ⟨b1, b2, b3⟩
    · exact absurd a1 b1
    · rw [a0, b2]; exact ⟨rfl, fun _ z => a2 (b3.mp z), fun _ z => a3 (fun y => by rw [b3.mpr y] at z; exact Bool.noConfusion z)⟩
  · rcases h2 with ⟨b1, b2⟩ | ⟨b1, b2, b3⟩
    · rw [a0, b2]; exact ⟨rfl, fun z => absurd z (by decide), fun z => absurd z (by decide)⟩
    · exact absurd b1 a1
theorem ag_oriented {cI : ClassId} {sy : Nat} {ar : Nat → Int} {rk : Nat → Int} {wt : Nat → Int} {tc : Nat} {rc : Nat} {ta : Nat → Nat} {tH : Nat → Nat} {tP : Nat → Nat} {tE : Nat → Nat} {tn : Nat → Nat} {TH : Nat → Nat → Int} {TM : Nat → Nat → Int} {TE : Nat → Nat → Nat} {TG : Nat → Int} {HT : Nat → Nat → Int} {LI : Nat → Nat} {RI : Nat → Nat} {lf : Nat → Option Nat} {rf : Nat → Option Nat} {tf : Nat → Option Nat} {pl : va_W} {co : Nat → Int} {sz : Nat → Nat} {ot ot2 : Int64} {k9 : Int} {b9 : Int32} {tw3 : Int} {x : Int} (h : lwI cI sy ar rk wt tc rc ta tH tP tE tn TH TM TE TG HT LI RI lf rf tf pl co sz) (h1 : (k9 = 0 ∧ (0 ≤ x ∧ x ≤ 1) ∧ ot2 = (obI (fun k9 => gtO x rk wt (TH (LI k9)) (TE (LI k9)) (TM (LI k9)) (tn (LI k9)) (TH (RI k9)) (TE (RI k9)) (TM (RI k9)) (tn (RI k9))) rc).toInt64) ∨ (k9 = 1 ∧ ¬ (0 ≤ x ∧ x ≤ 1))) (h2 : (¬ (0 ≤ x ∧ x ≤ 1) ∧ tw3 = 1) ∨ ((0 ≤ x ∧ x ≤ 1) ∧ tw3 = 0 ∧ b9 = obI (fun b9 => gtO x rk wt (TH (LI b9)) (TE (LI b9)) (TM (LI b9)) (tn (LI b9)) (TH (RI b9)) (TE (RI b9)) (TM (RI b9)) (tn (RI b9))) rc)) : tw3 = k9 ∧ (k9 = 0 → ot2 = b9.toInt64) := by
  rcases h1 with ⟨a0, a1, a2⟩ | ⟨a0, a1⟩
  · rcases h2 with ⟨b1, b2⟩ | ⟨b1, b2, b3⟩
    · exact absurd a1 b1
    · rw [a0, b2, b3]; exact ⟨rfl, fun _ => a2⟩
  · rcases h2 with ⟨b1, b2⟩ | ⟨b1, b2, b3⟩
    · rw [a0, b2]; exact ⟨rfl, fun z => absurd z (by decide)⟩
    · exact absurd b1 a1
theorem ag_about {cI : ClassId} {sy : Nat} {ar : Nat → Int} {rk : Nat → Int} {wt : Nat → Int} {tc : Nat} {rc : Nat} {ta : Nat → Nat} {tH : Nat → Nat} {tP : Nat → Nat} {tE : Nat → Nat} {tn : Nat → Nat} {TH : Nat → Nat → Int} {TM : Nat → Nat → Int} {TE : Nat → Nat → Nat} {TG : Nat → Int} {HT : Nat → Nat → Int} {LI : Nat → Nat} {RI : Nat → Nat} {lf : Nat → Option Nat} {rf : Nat → Option Nat} {tf : Nat → Option Nat} {pl : va_W} {co : Nat → Int} {sz : Nat → Nat} {ot ot2 : Int64} {k9 : Int} {b9 : Int} {tw3 : Int} {x y : Int} (h : lwI cI sy ar rk wt tc rc ta tH tP tE tn TH TM TE TG HT LI RI lf rf tf pl co sz) (h1 : (k9 = 0 ∧ (0 ≤ x ∧ x < tc ∧ 0 ≤ y ∧ y ≤ 3) ∧ ot2 = (zI (if y = 0 then TH x.toNat 0 else if y = 1 then TG x.toNat else if y = 2 then (tn x.toNat : Int) else wsum (TH x.toNat) wt 0 (tn x.toNat))).toInt64) ∨ (k9 = 1 ∧ ¬ (0 ≤ x ∧ x < tc ∧ 0 ≤ y ∧ y ≤ 3))) (h2 : (¬ (0 ≤ x ∧ x < tc ∧ 0 ≤ y ∧ y ≤ 3) ∧ tw3 = 1) ∨ ((0 ≤ x ∧ x < tc ∧ 0 ≤ y ∧ y ≤ 3) ∧ tw3 = 0 ∧ b9 = (if y = 0 then TH x.toNat 0 else if y = 1 then HT x.toNat 0 else if y = 2 then (tn x.toNat : Int) else wsum (TH x.toNat) wt 0 (tn x.toNat)))) : tw3 = k9 ∧ (k9 = 0 → ot2 = (zI b9).toInt64) := by
  rcases h1 with ⟨a0, a1, a2⟩ | ⟨a0, a1⟩
  · rcases h2 with ⟨b1, b2⟩ | ⟨b1, b2, b3⟩
    · exact absurd a1 b1
    · rw [h.2.2.2.2.2.2.2.2.1 x.toNat (by omega)] at a2
      rw [a0, b2, b3]; exact ⟨rfl, fun _ => a2⟩
  · rcases h2 with ⟨b1, b2⟩ | ⟨b1, b2, b3⟩
    · rw [a0, b2]; exact ⟨rfl, fun z => absurd z (by decide)⟩
    · exact absurd b1 a1
theorem ag_place {cI : ClassId} {sy : Nat} {ar : Nat → Int} {rk : Nat → Int} {wt : Nat → Int} {tc : Nat} {rc : Nat} {ta : Nat → Nat} {tH : Nat → Nat} {tP : Nat → Nat} {tE : Nat → Nat} {tn : Nat → Nat} {TH : Nat → Nat → Int} {TM : Nat → Nat → Int} {TE : Nat → Nat → Nat} {TG : Nat → Int} {HT : Nat → Nat → Int} {LI : Nat → Nat} {RI : Nat → Nat} {lf : Nat → Option Nat} {rf : Nat → Option Nat} {tf : Nat → Option Nat} {pl : va_W} {co : Nat → Int} {sz : Nat → Nat} {ot ot2 : Int64} {k9 : Int} {b9 : Int} {tw3 : Int} {x y : Int} (h : lwI cI sy ar rk wt tc rc ta tH tP tE tn TH TM TE TG HT LI RI lf rf tf pl co sz) (h1 : (k9 = 0 ∧ (0 ≤ x ∧ x < tc) ∧ (0 ≤ y ∧ y < tn x.toNat) ∧ ot2 = (zI (TH x.toNat y.toNat)).toInt64) ∨ (k9 = 1 ∧ ¬ (0 ≤ x ∧ x < tc)) ∨ (k9 = 2 ∧ (0 ≤ x ∧ x < tc) ∧ ¬ (0 ≤ y ∧ y < tn x.toNat))) (h2 : (¬ (0 ≤ x ∧ x < tc) ∧ tw3 = 1) ∨ ((0 ≤ x ∧ x < tc) ∧ ¬ (0 ≤ y ∧ y < tn x.toNat) ∧ tw3 = 2) ∨ ((0 ≤ x ∧ x < tc) ∧ (0 ≤ y ∧ y < tn x.toNat) ∧ tw3 = 0 ∧ b9 = TH x.toNat y.toNat)) : tw3 = k9 ∧ (k9 = 0 → ot2 = (zI b9).toInt64) := by
  rcases h1 with ⟨a0, a1, a2, a3⟩ | ⟨a0, a1⟩ | ⟨a0, a1, a2⟩
  · rcases h2 with ⟨b1, b2⟩ | ⟨b1, b2, b3⟩ | ⟨b1, b2, b3, b4⟩
    · exact absurd a1 b1
    · exact absurd a2 b2
    · rw [a0, b3, b4]; exact ⟨rfl, fun _ => a3⟩
  · rcases h2 with ⟨b1, b2⟩ | ⟨b1, b2, b3⟩ | ⟨b1, b2, b3, b4⟩
    · rw [a0, b2]; exact ⟨rfl, fun z => absurd z (by decide)⟩
    · exact absurd b1 a1
    · exact absurd b1 a1
  · rcases h2 with ⟨b1, b2⟩ | ⟨b1, b2, b3⟩ | ⟨b1, b2, b3, b4⟩
    · exact absurd a1 b1
    · rw [a0, b3]; exact ⟨rfl, fun z => absurd z (by decide)⟩
    · exact absurd b2 a2
theorem ag_search {cI : ClassId} {sy : Nat} {ar : Nat → Int} {rk : Nat → Int} {wt : Nat → Int} {tc : Nat} {rc : Nat} {ta : Nat → Nat} {tH : Nat → Nat} {tP : Nat → Nat} {tE : Nat → Nat} {tn : Nat → Nat} {TH : Nat → Nat → Int} {TM : Nat → Nat → Int} {TE : Nat → Nat → Nat} {TG : Nat → Int} {HT : Nat → Nat → Int} {LI : Nat → Nat} {RI : Nat → Nat} {lf : Nat → Option Nat} {rf : Nat → Option Nat} {tf : Nat → Option Nat} {pl : va_W} {co : Nat → Int} {sz : Nat → Nat} {ot ot2 : Int64} {k9 : Int} {b9 : Bool} {tw3 : Int} {x : Int} {rk2 rk3 : Nat → Int} (h : lwI cI sy ar rk wt tc rc ta tH tP tE tn TH TM TE TG HT LI RI lf rf tf pl co sz) (h1 : (k9 = 0 ∧ (0 ≤ x ∧ x ≤ 1) ∧ ((ot2 = 1 ∧ ∃ w, w < sy ^ sy ∧ (ds sy w = true ∧ (x = 1 → ∀ us, us < sy → ¬ (ar us = 0 ∧ wt us = 0) ∧ ∀ t, t < sy → ¬ (ar us = 1 ∧ wt us = 0 ∧ t ≠ us ∧ ((rkW sy w rk)) us ≤ ((rkW sy w rk)) t)) ∧ ∀ k, k < rc → gtO x ((rkW sy w rk)) wt (TH (LI k)) (TE (LI k)) (TM (LI k)) (tn (LI k)) (TH (RI k)) (TE (RI k)) (TM (RI k)) (tn (RI k))) ∧ (∀ w1, w1 < w → ¬ (ds sy w1 = true ∧ (x = 1 → ∀ us, us < sy → ¬ (ar us = 0 ∧ wt us = 0) ∧ ∀ t, t < sy → ¬ (ar us = 1 ∧ wt us = 0 ∧ t ≠ us ∧ ((rkW sy w1 rk)) us ≤ ((rkW sy w1 rk)) t)) ∧ ∀ k, k < rc → gtO x ((rkW sy w1 rk)) wt (TH (LI k)) (TE (LI k)) (TM (LI k)) (tn (LI k)) (TH (RI k)) (TE (RI k)) (TM (RI k)) (tn (RI k)))) ∧ rk2 = rkW sy w rk) ∨ (ot2 = 0 ∧ (∀ w, w < sy ^ sy → ¬ (ds sy w = true ∧ (x = 1 → ∀ us, us < sy → ¬ (ar us = 0 ∧ wt us = 0) ∧ ∀ t, t < sy → ¬ (ar us = 1 ∧ wt us = 0 ∧ t ≠ us ∧ ((rkW sy w rk)) us ≤ ((rkW sy w rk)) t)) ∧ ∀ k, k < rc → gtO x ((rkW sy w rk)) wt (TH (LI k)) (TE (LI k)) (TM (LI k)) (tn (LI k)) (TH (RI k)) (TE (RI k)) (TM (RI k)) (tn (RI k)))) ∧ rk2 = rk))) ∨ (k9 = 1 ∧ ¬ (0 ≤ x ∧ x ≤ 1) ∧ rk2 = rk)) (h2 : (¬ (0 ≤ x ∧ x ≤ 1) ∧ tw3 = 1 ∧ rk3 = rk) ∨ ((0 ≤ x ∧ x ≤ 1) ∧ tw3 = 0 ∧ ((b9 = true ∧ ∃ w, w < sy ^ sy ∧ (ds sy w = true ∧ (x = 1 → ∀ us, us < sy → ¬ (ar us = 0 ∧ wt us = 0) ∧ ∀ t, t < sy → ¬ (ar us = 1 ∧ wt us = 0 ∧ t ≠ us ∧ ((rkW sy w rk)) us ≤ ((rkW sy w rk)) t)) ∧ ∀ b9, b9 < rc → gtO x ((rkW sy w rk)) wt (TH (LI b9)) (TE (LI b9)) (TM (LI b9)) (tn (LI b9)) (TH (RI b9)) (TE (RI b9)) (TM (RI b9)) (tn (RI b9))) ∧ (∀ w1, w1 < w → ¬ (ds sy w1 = true ∧ (x = 1 → ∀ us, us < sy → ¬ (ar us = 0 ∧ wt us = 0) ∧ ∀ t, t < sy → ¬ (ar us = 1 ∧ wt us = 0 ∧ t ≠ us ∧ ((rkW sy w1 rk)) us ≤ ((rkW sy w1 rk)) t)) ∧ ∀ b9, b9 < rc → gtO x ((rkW sy w1 rk)) wt (TH (LI b9)) (TE (LI b9)) (TM (LI b9)) (tn (LI b9)) (TH (RI b9)) (TE (RI b9)) (TM (RI b9)) (tn (RI b9)))) ∧ rk3 = rkW sy w rk) ∨ (b9 = false ∧ (∀ w, w < sy ^ sy → ¬ (ds sy w = true ∧ (x = 1 → ∀ us, us < sy → ¬ (ar us = 0 ∧ wt us = 0) ∧ ∀ t, t < sy → ¬ (ar us = 1 ∧ wt us = 0 ∧ t ≠ us ∧ ((rkW sy w rk)) us ≤ ((rkW sy w rk)) t)) ∧ ∀ b9, b9 < rc → gtO x ((rkW sy w rk)) wt (TH (LI b9)) (TE (LI b9)) (TM (LI b9)) (tn (LI b9)) (TH (RI b9)) (TE (RI b9)) (TM (RI b9)) (tn (RI b9)))) ∧ rk3 = rk)))) : tw3 = k9 ∧ (k9 = 0 → b9 = true → ot2 = 1) ∧ (k9 = 0 → b9 = false → ot2 = 0) ∧ rk2 = rk3 ∧ lwI cI sy ar rk2 wt tc rc ta tH tP tE tn TH TM TE TG HT LI RI lf rf tf pl co sz := by
  rcases h1 with ⟨a0, a1, a2⟩ | ⟨a0, a1, a2⟩
  · rcases h2 with ⟨b1, b2, b3⟩ | ⟨b1, b2, b3⟩
    · exact absurd a1 b1
    · rw [a0, b2]
      rcases a2 with ⟨c1, w, c2, c3, c4, c5⟩ | ⟨c1, c2, c3⟩
      · rcases b3 with ⟨d1, v, d2, d3, d4, d5⟩ | ⟨d1, d2, d3⟩
        · have e : w = v := by
            rcases Nat.lt_trichotomy w v with z | z | z
            · exact absurd c3 (d4 w z)
            · exact z
            · exact absurd d3 (c4 v z)
          subst e
          rw [c5, d5]
          exact ⟨rfl, fun _ _ => c1, fun _ z => by rw [d1] at z; exact Bool.noConfusion z, rfl, lwI_rk h (rkW_b h.1 h.2.2.1)⟩
        · exact absurd c3 (d2 w c2)
      · rcases b3 with ⟨d1, v, d2, d3, d4, d5⟩ | ⟨d1, d2, d3⟩
        · exact absurd d3 (c2 v d2)
        · rw [c3, d3]
          exact ⟨rfl, fun _ z => by rw [d1] at z; exact Bool.noConfusion z, fun _ _ => c1, rfl, h⟩
  · rcases h2 with ⟨b1, b2, b3⟩ | ⟨b1, b2, b3⟩
    · rw [a0, b2, a2, b3]; exact ⟨rfl, fun z => absurd z (by decide), fun z => absurd z (by decide), rfl, h⟩
    · exact absurd b1 a1
