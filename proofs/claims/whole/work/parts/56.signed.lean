/-! Numbers that may be below 0. -/
def iZ (z : Int) : Int32 := Int32.ofInt z
def lZ (z : Int) : Int64 := Int64.ofInt z
theorem iZ_t {z : Int} (h : -2147483648 ≤ z) (h' : z < 2147483648) : (iZ z).toInt = z := Int32.toInt_ofInt_of_le h h'
theorem lZ_t {z : Int} (h : -9223372036854775808 ≤ z) (h' : z < 9223372036854775808) : (lZ z).toInt = z := Int64.toInt_ofInt_of_le h h'
theorem nI_Z (n : Nat) : nI n = iZ (n : Int) := Int32.ofInt_eq_ofNat.symm
theorem lN_Z (n : Nat) : lN n = lZ (n : Int) := Int64.ofInt_eq_ofNat.symm
theorem iZ_nI (n : Nat) : iZ (n : Int) = nI n := Int32.ofInt_eq_ofNat
theorem lZ_lN (n : Nat) : lZ (n : Int) = lN n := Int64.ofInt_eq_ofNat
theorem iZ_add (a b : Int) : iZ a + iZ b = iZ (a + b) := (Int32.ofInt_add a b).symm
theorem iZ_sub (a b : Int) : iZ a - iZ b = iZ (a - b) := (Int32.ofInt_sub a b).symm
theorem iZ_mul (a b : Int) : iZ a * iZ b = iZ (a * b) := (Int32.ofInt_mul a b).symm
theorem iZ_neg (a : Int) : -(iZ a) = iZ (-a) := (Int32.ofInt_neg a).symm
theorem lZ_add (a b : Int) : lZ a + lZ b = lZ (a + b) := (Int64.ofInt_add a b).symm
theorem lZ_sub (a b : Int) : lZ a - lZ b = lZ (a - b) := (Int64.ofInt_sub a b).symm
theorem lZ_mul (a b : Int) : lZ a * lZ b = lZ (a * b) := (Int64.ofInt_mul a b).symm
theorem lZ_neg (a : Int) : -(lZ a) = lZ (-a) := (Int64.ofInt_neg a).symm
theorem lZ_i (a : Int) : (lZ a).toInt32 = iZ a := Int64.toInt32_ofInt
theorem iZ_l {a : Int} (h : -2147483648 ≤ a) (h' : a < 2147483648) : (iZ a).toInt64 = lZ a := Int32.toInt64_ofInt h (by show a ≤ 2147483647; omega)
theorem iZ_lt {a b : Int} (ha : -2147483648 ≤ a ∧ a < 2147483648) (hb : -2147483648 ≤ b ∧ b < 2147483648) : iZ a < iZ b ↔ a < b := by
  rw [Int32.lt_iff_toInt_lt, iZ_t ha.1 ha.2, iZ_t hb.1 hb.2]
theorem iZ_le {a b : Int} (ha : -2147483648 ≤ a ∧ a < 2147483648) (hb : -2147483648 ≤ b ∧ b < 2147483648) : iZ a ≤ iZ b ↔ a ≤ b := by
  rw [Int32.le_iff_toInt_le, iZ_t ha.1 ha.2, iZ_t hb.1 hb.2]
theorem iZ_eq {a b : Int} (ha : -2147483648 ≤ a ∧ a < 2147483648) (hb : -2147483648 ≤ b ∧ b < 2147483648) : iZ a = iZ b ↔ a = b := by
  rw [← Int32.toInt_inj, iZ_t ha.1 ha.2, iZ_t hb.1 hb.2]
theorem lZ_lt {a b : Int} (ha : -9223372036854775808 ≤ a ∧ a < 9223372036854775808) (hb : -9223372036854775808 ≤ b ∧ b < 9223372036854775808) : lZ a < lZ b ↔ a < b := by
  rw [Int64.lt_iff_toInt_lt, lZ_t ha.1 ha.2, lZ_t hb.1 hb.2]
theorem lZ_le {a b : Int} (ha : -9223372036854775808 ≤ a ∧ a < 9223372036854775808) (hb : -9223372036854775808 ≤ b ∧ b < 9223372036854775808) : lZ a ≤ lZ b ↔ a ≤ b := by
  rw [Int64.le_iff_toInt_le, lZ_t ha.1 ha.2, lZ_t hb.1 hb.2]
theorem lZ_eq {a b : Int} (ha : -9223372036854775808 ≤ a ∧ a < 9223372036854775808) (hb : -9223372036854775808 ≤ b ∧ b < 9223372036854775808) : lZ a = lZ b ↔ a = b := by
  rw [← Int64.toInt_inj, lZ_t ha.1 ha.2, lZ_t hb.1 hb.2]
theorem iZ_div {a b : Int} (ha : -2147483648 ≤ a ∧ a < 2147483648) (hb : -2147483648 ≤ b ∧ b < 2147483648) : iZ a / iZ b = iZ (a.tdiv b) :=
  (Int32.ofInt_tdiv (a := a) (b := b) ha.1 (by show a ≤ 2147483647; omega) hb.1 (by show b ≤ 2147483647; omega)).symm
theorem lZ_div {a b : Int} (ha : -9223372036854775808 ≤ a ∧ a < 9223372036854775808) (hb : -9223372036854775808 ≤ b ∧ b < 9223372036854775808) : lZ a / lZ b = lZ (a.tdiv b) :=
  (Int64.ofInt_tdiv (a := a) (b := b) ha.1 (by show a ≤ 9223372036854775807; omega) hb.1 (by show b ≤ 9223372036854775807; omega)).symm
theorem qRem_Z {a b : Int} (ha : -2147483648 ≤ a ∧ a < 2147483648) (hb : -2147483648 ≤ b ∧ b < 2147483648) : qRem (iZ a) (iZ b) = iZ (a.tmod b) := by
  unfold qRem
  rw [iZ_div ha hb, iZ_mul, iZ_sub, Int.tmod_def, Int.mul_comm]
theorem qRemL_Z {a b : Int} (ha : -9223372036854775808 ≤ a ∧ a < 9223372036854775808) (hb : -9223372036854775808 ≤ b ∧ b < 9223372036854775808) : qRemL (lZ a) (lZ b) = lZ (a.tmod b) := by
  unfold qRemL
  rw [lZ_div ha hb, lZ_mul, lZ_sub, Int.tmod_def, Int.mul_comm]
/-- at most a million, either way -/
def mil (z : Int) : Prop := -1000000 ≤ z ∧ z ≤ 1000000
theorem mil_clp (z : Int) : mil (clp z) := by
  unfold clp mil
  split
  · omega
  · split <;> omega
theorem mil_abs {z : Int} : mil z ↔ z.natAbs ≤ 1000000 := by unfold mil; omega
theorem mil_op2 (o : Nat) {x y : Int} (hx : mil x) : mil (op2 o x y) := by
  unfold op2
  split
  · exact mil_clp _
  · split
    · exact mil_clp _
    · split
      · exact mil_clp _
      · split
        · split
          · unfold mil; omega
          · rw [mil_abs, Int.natAbs_tdiv]
            rw [mil_abs] at hx
            exact Nat.le_trans (Nat.div_le_self _ _) hx
        · split
          · unfold mil; omega
          · rw [mil_abs, Int.natAbs_tmod]
            rw [mil_abs] at hx
            exact Nat.le_trans (Nat.mod_le _ _) hx
theorem mil_mul {x y : Int} (hx : mil x) (hy : mil y) : -1000000000000 ≤ x * y ∧ x * y ≤ 1000000000000 := by
  rw [mil_abs] at hx hy
  have : (x * y).natAbs ≤ 1000000 * 1000000 := by rw [Int.natAbs_mul]; exact Nat.mul_le_mul hx hy
  omega
