/-- an int by its value -/
def zI (z : Int) : Int32 := Int32.ofInt z
def zA (f : Nat → Int) : Nat → Int32 := fun j => zI (f j)
def bI (b : Bool) : Int := if b = true then 1 else 0
def zB (g : Nat → Bool) : Nat → Int32 := fun j => zI (bI (g j))
def uz (f : Nat → Int) (k : Nat) (x : Int) : Nat → Int := fun j => if j = k then x else f j
def ub (f : Nat → Bool) (k : Nat) (x : Bool) : Nat → Bool := fun j => if j = k then x else f j
theorem zI_add (a b : Int) : zI a + zI b = zI (a + b) := (Int32.ofInt_add a b).symm
theorem zI_sub (a b : Int) : zI a - zI b = zI (a - b) := (Int32.ofInt_sub a b).symm
theorem zI_mul (a b : Int) : zI a * zI b = zI (a * b) := (Int32.ofInt_mul a b).symm
theorem zI_neg (a : Int) : - zI a = zI (-a) := (Int32.ofInt_neg a).symm
theorem zI_toInt {a : Int} (h : -2147483648 ≤ a ∧ a < 2147483648) : (zI a).toInt = a := Int32.toInt_ofInt_of_le (by omega) (by omega)
theorem zI_self (x : Int32) : zI x.toInt = x := Int32.ofInt_toInt x
theorem zI_ex (x : Int32) : ∃ v : Int, -2147483648 ≤ v ∧ v < 2147483648 ∧ x = zI v := ⟨x.toInt, by have := x.le_toInt; omega, by have := x.toInt_lt; omega, (zI_self x).symm⟩
theorem zI_lt {a b : Int} (ha : -2147483648 ≤ a ∧ a < 2147483648) (hb : -2147483648 ≤ b ∧ b < 2147483648) : zI a < zI b ↔ a < b := by
  rw [Int32.lt_iff_toInt_lt, zI_toInt ha, zI_toInt hb]
theorem zI_le {a b : Int} (ha : -2147483648 ≤ a ∧ a < 2147483648) (hb : -2147483648 ≤ b ∧ b < 2147483648) : zI a ≤ zI b ↔ a ≤ b := by
  rw [Int32.le_iff_toInt_le, zI_toInt ha, zI_toInt hb]
theorem zI_eq {a b : Int} (ha : -2147483648 ≤ a ∧ a < 2147483648) (hb : -2147483648 ≤ b ∧ b < 2147483648) : zI a = zI b ↔ a = b := by
  rw [← Int32.toInt_inj, zI_toInt ha, zI_toInt hb]
theorem zI_0 : zI 0 = 0 := rfl
theorem zI_lt0 {a : Int} (ha : -2147483648 ≤ a ∧ a < 2147483648) : zI a < 0 ↔ a < 0 := by
  rw [← zI_0]; exact zI_lt ha (by omega)
theorem zI_0le {a : Int} (ha : -2147483648 ≤ a ∧ a < 2147483648) : 0 ≤ zI a ↔ 0 ≤ a := by
  rw [← zI_0]; exact zI_le (by omega) ha
theorem zI_0lt {a : Int} (ha : -2147483648 ≤ a ∧ a < 2147483648) : 0 < zI a ↔ 0 < a := by
  rw [← zI_0]; exact zI_lt (by omega) ha
theorem zI_le0 {a : Int} (ha : -2147483648 ≤ a ∧ a < 2147483648) : zI a ≤ 0 ↔ a ≤ 0 := by
  rw [← zI_0]; exact zI_le ha (by omega)
theorem zI_eq0 {a : Int} (ha : -2147483648 ≤ a ∧ a < 2147483648) : zI a = 0 ↔ a = 0 := by
  rw [← zI_0]; exact zI_eq ha (by omega)
theorem zI_nat (n : Nat) : zI (n : Int) = nI n := Int32.ofInt_eq_ofNat
theorem zI_cl {n : Nat} (h : n < 2147483648) : (zI (n : Int)).toNatClampNeg = n := by
  rw [zI_nat]; exact nI_clamp (by omega)
theorem zI_in {n N : Nat} (h : n < N) (hN : N < 2147483648) : vp_in (zI (n : Int)) N := by
  rw [zI_nat]; exact vp_in_nI h (by omega)
theorem zA_upd (f : Nat → Int) (k : Nat) (x : Int) : upd (zA f) k (zI x) = zA (uz f k x) := by
  funext j
  simp only [upd, zA, uz]
  split <;> rfl
theorem zB_nar (b : Bool) : vp_nar .boolean (zI (bI b)) = zI (bI b) := by cases b <;> rfl
theorem zB_upd (g : Nat → Bool) (k : Nat) (b : Bool) : upd (zB g) k (vp_nar .boolean (zI (bI b))) = zB (ub g k b) := by
  rw [zB_nar]
  funext j
  simp only [upd, zB, ub]
  split <;> rfl
theorem bI_0 {b : Bool} : zI (bI b) = 0 ↔ b = false := by cases b <;> simp [bI] <;> decide
theorem bI_b (b : Bool) : -2147483648 ≤ bI b ∧ bI b < 2147483648 := by cases b <;> simp [bI]
theorem uz_s (f : Nat → Int) (k : Nat) (x : Int) : uz f k x k = x := by simp [uz]
theorem uz_n (f : Nat → Int) {k j : Nat} (x : Int) (h : j ≠ k) : uz f k x j = f j := by simp [uz, h]
theorem ub_s (f : Nat → Bool) (k : Nat) (x : Bool) : ub f k x k = x := by simp [ub]
theorem ub_n (f : Nat → Bool) {k j : Nat} (x : Bool) (h : j ≠ k) : ub f k x j = f j := by simp [ub, h]
theorem zA_0 : (fun _ => (0 : Int32)) = zA (fun _ => 0) := rfl
theorem zB_0 : (fun _ => (0 : Int32)) = zB (fun _ => false) := rfl
