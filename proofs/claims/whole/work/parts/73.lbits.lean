/-! Bits of longs. -/
theorem qLu_amt : ∀ i : Fin 64, (((nI i.val).toInt64.toUInt64 &&& Int64.toUInt64 63).toBitVec % 64#64).toNat = i.val := by decide +kernel
theorem qLushr_lN {n i : Nat} (hn : n < 2 ^ 64) (hi : i < 64) : qLushr (lN n) (nI i) = lN (n / 2 ^ i) := by
  apply Int64.toBitVec_inj.mp
  apply BitVec.eq_of_toNat_eq
  have e : (qLushr (lN n) (nI i)).toBitVec = (lN n).toBitVec >>> (((nI i).toInt64.toUInt64 &&& Int64.toUInt64 63).toBitVec % 64#64) := UInt64.toBitVec_shiftRight _ _
  have h1 : (lN n).toBitVec.toNat = n := by
    show (BitVec.ofNat 64 n).toNat = n
    rw [BitVec.toNat_ofNat, Nat.mod_eq_of_lt hn]
  have h2 : (lN (n / 2 ^ i)).toBitVec.toNat = n / 2 ^ i := by
    show (BitVec.ofNat 64 (n / 2 ^ i)).toNat = n / 2 ^ i
    rw [BitVec.toNat_ofNat, Nat.mod_eq_of_lt (Nat.lt_of_le_of_lt (Nat.div_le_self _ _) hn)]
  rw [e, BitVec.ushiftRight_eq', BitVec.toNat_ushiftRight, h1, h2, qLu_amt ⟨i, hi⟩, Nat.shiftRight_eq_div_pow]
theorem qLs_amt : ∀ i : Fin 64, (((nI i.val).toInt64 &&& 63).toBitVec.smod 64#64).toNat = i.val := by decide +kernel
theorem qLshl_lN {n i : Nat} (hi : i < 64) : qLshl (lN n) (nI i) = lN (n * 2 ^ i) := by
  apply Int64.toBitVec_inj.mp
  apply BitVec.eq_of_toNat_eq
  have e : (qLshl (lN n) (nI i)).toBitVec = (lN n).toBitVec <<< (((nI i).toInt64 &&& 63).toBitVec.smod 64#64) := Int64.toBitVec_shiftLeft _ _
  have h1 : (lN n).toBitVec.toNat = n % 2 ^ 64 := BitVec.toNat_ofNat _ _
  have h2 : (lN (n * 2 ^ i)).toBitVec.toNat = (n * 2 ^ i) % 2 ^ 64 := BitVec.toNat_ofNat _ _
  rw [e, BitVec.shiftLeft_eq', BitVec.toNat_shiftLeft, h1, h2, qLs_amt ⟨i, hi⟩, Nat.shiftLeft_eq, Nat.mod_mul_mod]
theorem lN_and1 {n : Nat} : lN n &&& (1 : Int64) = lN (n % 2) := by
  rw [show (1 : Int64) = lN 1 from rfl, lN_and]
  congr 1
  exact Nat.and_one_is_mod n
theorem qLbit {n i : Nat} (hn : n < 2 ^ 64) (hi : i < 64) : (lg_cmp (qLushr (lN n) (nI i) &&& (1 : Int64)) (0 : Int64) = 0) ↔ n.testBit i = false := by
  have h2 : n / 2 ^ i % 2 < 2 := Nat.mod_lt _ (by decide)
  rw [qLushr_lN hn hi, lN_and1, lg_eq, eqL0 (by omega), Nat.testBit_eq_decide_div_mod_eq, decide_eq_false_iff_not]
  omega
/-- bits counted -/
def pop (n : Nat) : Nat := cnt (fun i => n.testBit i) 64
def mkM (m : Nat) : Nat → Nat
  | 0 => 0
  | k + 1 => m + 256 * mkM m k
theorem add256_bit {a A : Nat} (ha : a < 256) (i : Nat) : (a + 256 * A).testBit i = if i < 8 then a.testBit i else A.testBit (i - 8) := by
  have := Nat.testBit_two_pow_mul_add A (i := 8) (b := a) ha i
  rw [Nat.add_comm]
  exact this
theorem and_split {a A m M : Nat} (ha : a < 256) (hm : m < 256) : (a + 256 * A) &&& (m + 256 * M) = (a &&& m) + 256 * (A &&& M) := by
  have h : a &&& m < 256 := Nat.lt_of_le_of_lt Nat.and_le_left ha
  apply bits_ext
  intro q
  rw [Nat.testBit_and, add256_bit ha, add256_bit hm, add256_bit h]
  by_cases g : q < 8
  · rw [if_pos g, if_pos g, if_pos g, Nat.testBit_and]
  · rw [if_neg g, if_neg g, if_neg g, Nat.testBit_and]
def s1 (k n : Nat) : Nat := n - (n / 2 &&& mkM 85 k)
def s2 (k n : Nat) : Nat := (n &&& mkM 51 k) + (n / 4 &&& mkM 51 k)
def s3 (k n : Nat) : Nat := (n + n / 16) &&& mkM 15 k
theorem d256 {p : Nat → Nat → Bool} {e : Nat} (h : (List.range 256).all (fun b => (List.range e).all (fun y => p b y)) = true) {b y : Nat} (hb : b < 256) (hy : y < e) : p b y = true := by
  have h1 := List.all_eq_true.mp h b (List.mem_range.mpr hb)
  exact List.all_eq_true.mp h1 y (List.mem_range.mpr hy)
theorem b1ok : (List.range 256).all (fun b => (List.range 2).all (fun y => decide (b / 2 + 128 * y < 256 ∧ (b / 2 + 128 * y) &&& 85 = b / 2 &&& 85 ∧ b / 2 &&& 85 ≤ b))) = true := by decide +kernel
theorem b2ok : (List.range 256).all (fun b => (List.range 4).all (fun y => decide (b / 4 + 64 * y < 256 ∧ (b / 4 + 64 * y) &&& 51 = b / 4 &&& 51 ∧ (b &&& 51) + (b / 4 &&& 51) < 256))) = true := by decide +kernel
def q2b (b : Nat) : Nat := ((b - (b / 2 &&& 85)) &&& 51) + ((b - (b / 2 &&& 85)) / 4 &&& 51)
def pb (b : Nat) : Nat := cnt (fun i => b.testBit i) 8
theorem b3ok : (List.range 256).all (fun b => (List.range 5).all (fun y => decide (q2b b ≤ 68 ∧ q2b b % 16 ≤ 4 ∧ q2b b + q2b b / 16 + 16 * y < 256 ∧ (q2b b + q2b b / 16 + 16 * y) &&& 15 = pb b))) = true := by decide +kernel
theorem s1_s {k b y : Nat} (hb : b < 256) : s1 (k + 1) (b + 256 * y) = (b - (b / 2 &&& 85)) + 256 * s1 k y := by
  have h := of_decide_eq_true (d256 b1ok hb (Nat.mod_lt y (show 0 < 2 by decide)))
  have e : (b + 256 * y) / 2 = (b / 2 + 128 * (y % 2)) + 256 * (y / 2) := by omega
  unfold s1
  rw [e, show mkM 85 (k + 1) = 85 + 256 * mkM 85 k from rfl, and_split h.1 (by omega), h.2.1]
  have h3 := h.2.2
  have h4 : y / 2 &&& mkM 85 k ≤ y := Nat.le_trans Nat.and_le_left (Nat.div_le_self _ _)
  omega
theorem s1_b {b : Nat} (hb : b < 256) : b - (b / 2 &&& 85) < 256 := by omega
theorem s2_s {k b y : Nat} (hb : b < 256) : s2 (k + 1) (b + 256 * y) = ((b &&& 51) + (b / 4 &&& 51)) + 256 * s2 k y := by
  have h := of_decide_eq_true (d256 b2ok hb (Nat.mod_lt y (show 0 < 4 by decide)))
  have e : (b + 256 * y) / 4 = (b / 4 + 64 * (y % 4)) + 256 * (y / 4) := by omega
  unfold s2
  rw [e, show mkM 51 (k + 1) = 51 + 256 * mkM 51 k from rfl, and_split hb (by omega), and_split h.1 (by omega), h.2.1]
  omega
theorem s12_s {k b y : Nat} (hb : b < 256) : s2 (k + 1) (s1 (k + 1) (b + 256 * y)) = q2b b + 256 * s2 k (s1 k y) := by
  rw [s1_s hb, s2_s (s1_b hb)]
  rfl
theorem s12_4 : ∀ {k y : Nat}, y < 256 ^ k → s2 k (s1 k y) % 16 ≤ 4
  | 0, y, h => by
    have : y = 0 := by omega
    subst this
    decide
  | k + 1, y, h => by
    have e : y = y % 256 + 256 * (y / 256) := by omega
    have hb : y % 256 < 256 := Nat.mod_lt _ (by decide)
    have h3 := of_decide_eq_true (d256 b3ok hb (show 0 < 5 by decide))
    rw [e, s12_s hb]
    omega
theorem s123 : ∀ {k b y : Nat}, b < 256 → y < 256 ^ k → s3 (k + 1) (s2 (k + 1) (s1 (k + 1) (b + 256 * y))) = pb b + 256 * s3 k (s2 k (s1 k y)) := by
  intro k b y hb hy
  rw [s12_s hb]
  have h4 := s12_4 hy
  generalize s2 k (s1 k y) = Y at *
  have h3 := of_decide_eq_true (d256 b3ok hb (show Y % 16 < 5 by omega))
  have e : (q2b b + 256 * Y) + (q2b b + 256 * Y) / 16 = (q2b b + q2b b / 16 + 16 * (Y % 16)) + 256 * (Y + Y / 16) := by omega
  unfold s3
  rw [e, show mkM 15 (k + 1) = 15 + 256 * mkM 15 k from rfl, and_split h3.2.2.1 (by omega), h3.2.2.2]
theorem cnt_add (f : Nat → Bool) (a : Nat) : ∀ b, cnt f (a + b) = cnt f a + cnt (fun i => f (a + i)) b
  | 0 => rfl
  | b + 1 => by
    show cnt f (a + b) + (f (a + b)).toNat = cnt f a + (cnt (fun i => f (a + i)) b + (f (a + b)).toNat)
    rw [cnt_add f a b]; omega
theorem pop_s {k b y : Nat} (hb : b < 256) : cnt (fun i => (b + 256 * y).testBit i) (8 * (k + 1)) = pb b + cnt (fun i => y.testBit i) (8 * k) := by
  have e : 8 * (k + 1) = 8 + 8 * k := by omega
  rw [e, cnt_add]
  congr 1
  · exact cnt_congr (fun i hi => by rw [add256_bit hb, if_pos hi])
  · exact cnt_congr (fun i hi => by rw [add256_bit hb, if_neg (by omega)]; congr 1; omega)
theorem pb_le {b : Nat} : pb b ≤ 8 := cnt_le _ _
/-- the last steps: eight bytes added up -/
def fin8 (C : Nat) : Nat := (C + C / 256) + (C + C / 256) / 65536 + ((C + C / 256) + (C + C / 256) / 65536) / 4294967296
theorem fin8_ok {a b c d e f g h : Nat} (h1 : a ≤ 8) (h2 : b ≤ 8) (h3 : c ≤ 8) (h4 : d ≤ 8) (h5 : e ≤ 8) (h6 : f ≤ 8) (h7 : g ≤ 8) (h8 : h ≤ 8) : fin8 (a + 256 * (b + 256 * (c + 256 * (d + 256 * (e + 256 * (f + 256 * (g + 256 * h))))))) % 128 = a + (b + (c + (d + (e + (f + (g + h)))))) ∧ a + 256 * (b + 256 * (c + 256 * (d + 256 * (e + 256 * (f + 256 * (g + 256 * h)))))) ≤ 8 * 72340172838076673 := by
  refine ⟨?_, by omega⟩
  unfold fin8
  have dm : ∀ (x y z : Nat), x < y → (x + y * z) / y = z := fun x y z hx => by rw [Nat.add_mul_div_left _ _ (by omega), Nat.div_eq_of_lt hx, Nat.zero_add]
  rw [dm a 256 _ (by omega)]
  have e2 : a + 256 * (b + 256 * (c + 256 * (d + 256 * (e + 256 * (f + 256 * (g + 256 * h)))))) + (b + 256 * (c + 256 * (d + 256 * (e + 256 * (f + 256 * (g + 256 * h)))))) = ((a + b) + 256 * (b + c)) + 65536 * ((c + d) + 256 * ((d + e) + 256 * ((e + f) + 256 * ((f + g) + 256 * ((g + h) + 256 * h))))) := by omega
  rw [e2, dm ((a + b) + 256 * (b + c)) 65536 _ (by omega)]
  have e4 : ((a + b) + 256 * (b + c)) + 65536 * ((c + d) + 256 * ((d + e) + 256 * ((e + f) + 256 * ((f + g) + 256 * ((g + h) + 256 * h))))) + ((c + d) + 256 * ((d + e) + 256 * ((e + f) + 256 * ((f + g) + 256 * ((g + h) + 256 * h))))) = ((a + b + c + d) + 256 * ((b + c + d + e) + 256 * ((c + d + e + f) + 256 * (d + e + f + g)))) + 4294967296 * ((e + f + g + h) + 256 * ((f + g + h) + 256 * ((g + h) + 256 * h))) := by omega
  rw [e4, dm ((a + b + c + d) + 256 * ((b + c + d + e) + 256 * ((c + d + e + f) + 256 * (d + e + f + g)))) 4294967296 _ (by omega)]
  have fe : ∀ (p V q U : Nat), p + q < 128 → (p + 256 * V + 4294967296 * (q + 256 * U) + (q + 256 * U)) % 128 = p + q := fun p V q U h => by
    have e : p + 256 * V + 4294967296 * (q + 256 * U) + (q + 256 * U) = (p + q) + 128 * (2 * V + 33554432 * (q + 256 * U) + 2 * U) := by omega
    rw [e, Nat.add_mul_mod_self_left, Nat.mod_eq_of_lt h]
  rw [fe _ _ _ _ (by omega)]
  omega
theorem sp1 {k n : Nat} (hn : n < 256 ^ (k + 1)) : s3 (k + 1) (s2 (k + 1) (s1 (k + 1) n)) = pb (n % 256) + 256 * s3 k (s2 k (s1 k (n / 256))) ∧ cnt (fun i => n.testBit i) (8 * (k + 1)) = pb (n % 256) + cnt (fun i => (n / 256).testBit i) (8 * k) ∧ n / 256 < 256 ^ k := by
  have e : n % 256 + 256 * (n / 256) = n := by omega
  have hb : n % 256 < 256 := Nat.mod_lt _ (by decide)
  have hy : n / 256 < 256 ^ k := by
    rw [Nat.pow_succ] at hn
    omega
  have h1 := s123 hb hy
  have h2 := pop_s (k := k) (y := n / 256) hb
  rw [e] at h1 h2
  exact ⟨h1, h2, hy⟩
theorem pop_ok {n : Nat} (hn : n < 2 ^ 64) : fin8 (s3 8 (s2 8 (s1 8 n))) % 128 = pop n ∧ s3 8 (s2 8 (s1 8 n)) ≤ 8 * 72340172838076673 := by
  obtain ⟨a1, b1, c1⟩ := sp1 (k := 7) (n := n) (by omega)
  obtain ⟨a2, b2, c2⟩ := sp1 (k := 6) c1
  obtain ⟨a3, b3, c3⟩ := sp1 (k := 5) c2
  obtain ⟨a4, b4, c4⟩ := sp1 (k := 4) c3
  obtain ⟨a5, b5, c5⟩ := sp1 (k := 3) c4
  obtain ⟨a6, b6, c6⟩ := sp1 (k := 2) c5
  obtain ⟨a7, b7, c7⟩ := sp1 (k := 1) c6
  obtain ⟨a8, b8, c8⟩ := sp1 (k := 0) c7
  have z : s3 0 (s2 0 (s1 0 (n / 256 / 256 / 256 / 256 / 256 / 256 / 256 / 256))) = 0 := Nat.and_zero _
  rw [z] at a8
  have e8 : cnt (fun i => (n / 256 / 256 / 256 / 256 / 256 / 256 / 256 / 256).testBit i) (8 * 0) = 0 := rfl
  rw [e8] at b8
  have hf := fin8_ok (pb_le (b := n % 256)) (pb_le (b := n / 256 % 256)) (pb_le (b := n / 256 / 256 % 256)) (pb_le (b := n / 256 / 256 / 256 % 256)) (pb_le (b := n / 256 / 256 / 256 / 256 % 256)) (pb_le (b := n / 256 / 256 / 256 / 256 / 256 % 256)) (pb_le (b := n / 256 / 256 / 256 / 256 / 256 / 256 % 256)) (pb_le (b := n / 256 / 256 / 256 / 256 / 256 / 256 / 256 % 256))
  have ea : s3 8 (s2 8 (s1 8 n)) = _ := a1
  rw [a2, a3, a4, a5, a6, a7, a8] at ea
  have eb : pop n = _ := b1
  rw [b2, b3, b4, b5, b6, b7, b8] at eb
  rw [ea, eb]
  simp only [Nat.mul_zero, Nat.add_zero]
  exact hf
def bc64 (l0 : Int64) : Int32 := (Int64.toInt32 ((((((((l0 - ((qLushr l0 (1 : Int32)) &&& (6148914691236517205 : Int64))) &&& (3689348814741910323 : Int64)) + ((qLushr (l0 - ((qLushr l0 (1 : Int32)) &&& (6148914691236517205 : Int64))) (2 : Int32)) &&& (3689348814741910323 : Int64))) + (qLushr (((l0 - ((qLushr l0 (1 : Int32)) &&& (6148914691236517205 : Int64))) &&& (3689348814741910323 : Int64)) + ((qLushr (l0 - ((qLushr l0 (1 : Int32)) &&& (6148914691236517205 : Int64))) (2 : Int32)) &&& (3689348814741910323 : Int64))) (4 : Int32))) &&& (1085102592571150095 : Int64)) + (qLushr (((((l0 - ((qLushr l0 (1 : Int32)) &&& (6148914691236517205 : Int64))) &&& (3689348814741910323 : Int64)) + ((qLushr (l0 - ((qLushr l0 (1 : Int32)) &&& (6148914691236517205 : Int64))) (2 : Int32)) &&& (3689348814741910323 : Int64))) + (qLushr (((l0 - ((qLushr l0 (1 : Int32)) &&& (6148914691236517205 : Int64))) &&& (3689348814741910323 : Int64)) + ((qLushr (l0 - ((qLushr l0 (1 : Int32)) &&& (6148914691236517205 : Int64))) (2 : Int32)) &&& (3689348814741910323 : Int64))) (4 : Int32))) &&& (1085102592571150095 : Int64)) (8 : Int32))) + (qLushr ((((((l0 - ((qLushr l0 (1 : Int32)) &&& (6148914691236517205 : Int64))) &&& (3689348814741910323 : Int64)) + ((qLushr (l0 - ((qLushr l0 (1 : Int32)) &&& (6148914691236517205 : Int64))) (2 : Int32)) &&& (3689348814741910323 : Int64))) + (qLushr (((l0 - ((qLushr l0 (1 : Int32)) &&& (6148914691236517205 : Int64))) &&& (3689348814741910323 : Int64)) + ((qLushr (l0 - ((qLushr l0 (1 : Int32)) &&& (6148914691236517205 : Int64))) (2 : Int32)) &&& (3689348814741910323 : Int64))) (4 : Int32))) &&& (1085102592571150095 : Int64)) + (qLushr (((((l0 - ((qLushr l0 (1 : Int32)) &&& (6148914691236517205 : Int64))) &&& (3689348814741910323 : Int64)) + ((qLushr (l0 - ((qLushr l0 (1 : Int32)) &&& (6148914691236517205 : Int64))) (2 : Int32)) &&& (3689348814741910323 : Int64))) + (qLushr (((l0 - ((qLushr l0 (1 : Int32)) &&& (6148914691236517205 : Int64))) &&& (3689348814741910323 : Int64)) + ((qLushr (l0 - ((qLushr l0 (1 : Int32)) &&& (6148914691236517205 : Int64))) (2 : Int32)) &&& (3689348814741910323 : Int64))) (4 : Int32))) &&& (1085102592571150095 : Int64)) (8 : Int32))) (16 : Int32))) + (qLushr (((((((l0 - ((qLushr l0 (1 : Int32)) &&& (6148914691236517205 : Int64))) &&& (3689348814741910323 : Int64)) + ((qLushr (l0 - ((qLushr l0 (1 : Int32)) &&& (6148914691236517205 : Int64))) (2 : Int32)) &&& (3689348814741910323 : Int64))) + (qLushr (((l0 - ((qLushr l0 (1 : Int32)) &&& (6148914691236517205 : Int64))) &&& (3689348814741910323 : Int64)) + ((qLushr (l0 - ((qLushr l0 (1 : Int32)) &&& (6148914691236517205 : Int64))) (2 : Int32)) &&& (3689348814741910323 : Int64))) (4 : Int32))) &&& (1085102592571150095 : Int64)) + (qLushr (((((l0 - ((qLushr l0 (1 : Int32)) &&& (6148914691236517205 : Int64))) &&& (3689348814741910323 : Int64)) + ((qLushr (l0 - ((qLushr l0 (1 : Int32)) &&& (6148914691236517205 : Int64))) (2 : Int32)) &&& (3689348814741910323 : Int64))) + (qLushr (((l0 - ((qLushr l0 (1 : Int32)) &&& (6148914691236517205 : Int64))) &&& (3689348814741910323 : Int64)) + ((qLushr (l0 - ((qLushr l0 (1 : Int32)) &&& (6148914691236517205 : Int64))) (2 : Int32)) &&& (3689348814741910323 : Int64))) (4 : Int32))) &&& (1085102592571150095 : Int64)) (8 : Int32))) + (qLushr ((((((l0 - ((qLushr l0 (1 : Int32)) &&& (6148914691236517205 : Int64))) &&& (3689348814741910323 : Int64)) + ((qLushr (l0 - ((qLushr l0 (1 : Int32)) &&& (6148914691236517205 : Int64))) (2 : Int32)) &&& (3689348814741910323 : Int64))) + (qLushr (((l0 - ((qLushr l0 (1 : Int32)) &&& (6148914691236517205 : Int64))) &&& (3689348814741910323 : Int64)) + ((qLushr (l0 - ((qLushr l0 (1 : Int32)) &&& (6148914691236517205 : Int64))) (2 : Int32)) &&& (3689348814741910323 : Int64))) (4 : Int32))) &&& (1085102592571150095 : Int64)) + (qLushr (((((l0 - ((qLushr l0 (1 : Int32)) &&& (6148914691236517205 : Int64))) &&& (3689348814741910323 : Int64)) + ((qLushr (l0 - ((qLushr l0 (1 : Int32)) &&& (6148914691236517205 : Int64))) (2 : Int32)) &&& (3689348814741910323 : Int64))) + (qLushr (((l0 - ((qLushr l0 (1 : Int32)) &&& (6148914691236517205 : Int64))) &&& (3689348814741910323 : Int64)) + ((qLushr (l0 - ((qLushr l0 (1 : Int32)) &&& (6148914691236517205 : Int64))) (2 : Int32)) &&& (3689348814741910323 : Int64))) (4 : Int32))) &&& (1085102592571150095 : Int64)) (8 : Int32))) (16 : Int32))) (32 : Int32)))) &&& (127 : Int32)
theorem bc64_ok {n : Nat} (hn : n < 2 ^ 64) : bc64 (lN n) = nI (pop n) := by
  have m1 : (6148914691236517205 : Int64) = lN (mkM 85 8) := by decide
  have m2 : (3689348814741910323 : Int64) = lN (mkM 51 8) := by decide
  have m3 : (1085102592571150095 : Int64) = lN (mkM 15 8) := by decide
  obtain ⟨hp, hC⟩ := pop_ok hn
  have e1 : lN n - (qLushr (lN n) (1 : Int32) &&& (6148914691236517205 : Int64)) = lN (s1 8 n) := by
    rw [show (1 : Int32) = nI 1 from rfl, qLushr_lN hn (by omega), m1, lN_and, lN_sub (Nat.le_trans Nat.and_le_left (Nat.div_le_self _ _))]
    rfl
  have hA : s1 8 n < 2 ^ 64 := Nat.lt_of_le_of_lt (Nat.sub_le _ _) hn
  have e2 : (lN (s1 8 n) &&& (3689348814741910323 : Int64)) + (qLushr (lN (s1 8 n)) (2 : Int32) &&& (3689348814741910323 : Int64)) = lN (s2 8 (s1 8 n)) := by
    rw [show (2 : Int32) = nI 2 from rfl, qLushr_lN hA (by omega), m2, lN_and, lN_and, lN_add]
    rfl
  have hB : s2 8 (s1 8 n) < 2 ^ 64 := by
    have h1 : s1 8 n &&& mkM 51 8 ≤ mkM 51 8 := Nat.and_le_right
    have h2 : s1 8 n / 4 &&& mkM 51 8 ≤ mkM 51 8 := Nat.and_le_right
    have h3 : mkM 51 8 = 3689348814741910323 := by decide
    unfold s2
    omega
  have e3 : (lN (s2 8 (s1 8 n)) + qLushr (lN (s2 8 (s1 8 n))) (4 : Int32)) &&& (1085102592571150095 : Int64) = lN (s3 8 (s2 8 (s1 8 n))) := by
    rw [show (4 : Int32) = nI 4 from rfl, qLushr_lN hB (by omega), m3, lN_add, lN_and]
    rfl
  unfold bc64
  rw [e1, e2, e3]
  generalize s3 8 (s2 8 (s1 8 n)) = C at *
  have e4 : lN C + qLushr (lN C) (8 : Int32) = lN (C + C / 256) := by
    rw [show (8 : Int32) = nI 8 from rfl, qLushr_lN (by omega) (by omega), lN_add]
  rw [e4]
  have e5 : lN (C + C / 256) + qLushr (lN (C + C / 256)) (16 : Int32) = lN ((C + C / 256) + (C + C / 256) / 65536) := by
    rw [show (16 : Int32) = nI 16 from rfl, qLushr_lN (by omega) (by omega), lN_add]
  rw [e5]
  have e6 : lN ((C + C / 256) + (C + C / 256) / 65536) + qLushr (lN ((C + C / 256) + (C + C / 256) / 65536)) (32 : Int32) = lN (fin8 C) := by
    rw [show (32 : Int32) = nI 32 from rfl, qLushr_lN (by omega) (by omega), lN_add]
    rfl
  rw [e6, lN_i, show (127 : Int32) = nI 127 from rfl, nI_and]
  congr 1
  rw [← hp]
  exact Nat.and_two_pow_sub_one_eq_mod _ 7
theorem c_bitCountL {s : Nat × (Nat → Int32)} {d : Nat} {w : qW} {Q : Int32 → qW → Prop} {n : Nat} (hd : 1 ≤ d) (hn : n < 2 ^ 64) (h : Q (nI (pop n)) w) : qCall (some s) d 126 [.long (lN n)] w (qQi Q) := by
  obtain ⟨d, rfl, -⟩ := dS hd
  refine A_Long_bitCount ?_
  show Q (bc64 (lN n)) w
  rw [bc64_ok hn]
  exact h
