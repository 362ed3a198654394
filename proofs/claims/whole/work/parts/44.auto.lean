/-! A way to reckon: every number becomes nI or lN of a natural one, and what is asked is asked of those. -/
theorem li (n : Nat) : (@OfNat.ofNat Int32 n _ : Int32) = nI (@OfNat.ofNat Nat n _) := rfl
theorem ll (n : Nat) : (@OfNat.ofNat Int64 n _ : Int64) = lN (@OfNat.ofNat Nat n _) := rfl
theorem nI_sub' {a b : Nat} (h : b ≤ a) : nI a - nI b = nI (a - b) := pk_sub h
theorem nI_mul' (a b : Nat) : nI a * nI b = nI (a * b) := pk_mul a b
theorem nI_div' {a d : Nat} (ha : a < 2 ^ 31) (h0 : 0 < d) (hd : d < 2 ^ 31) : nI a / nI d = nI (a / d) := pk_div ha h0 hd
theorem lN_div' {a d : Nat} (ha : a < 2 ^ 63) (h0 : 0 < d) (hd : d < 2 ^ 63) : lN a / lN d = lN (a / d) := pk_lDiv ha h0 hd
theorem qIn_I {j n : Nat} (hj : j < 2 ^ 31) (hn : n < 2 ^ 31) : qIn (nI j) n ↔ j < n := by
  constructor
  · intro h
    rcases Nat.lt_or_ge j n with g | g
    · exact g
    · exact absurd (Or.inr (by rw [nI_clamp hj]; exact g)) h
  · intro h; exact qIn_nI h hn
theorem nI_eqn {a b : Nat} (ha : a < 2 ^ 31) (hb : 0 < b) (hb2 : b < 2 ^ 31) : (nI a = -(nI b)) ↔ False := by
  constructor
  · intro h
    have h1 := congrArg Int32.toInt h
    rw [Int32.toInt_neg, nI_toInt ha, nI_toInt hb2, Int.bmod_eq_of_le (by omega) (by omega)] at h1
    omega
  · exact False.elim
theorem nI_eqn' {a b : Nat} (ha : a < 2 ^ 31) (hb : 0 < b) (hb2 : b < 2 ^ 31) : (-(nI b) = nI a) ↔ False := by
  rw [eq_comm]; exact nI_eqn ha hb hb2
theorem nI_len {a b : Nat} (ha : a < 2 ^ 31) (hb : 0 < b) (hb2 : b < 2 ^ 31) : (nI a ≤ -(nI b)) ↔ False := by
  rw [Int32.le_iff_toInt_le, Int32.toInt_neg, nI_toInt ha, nI_toInt hb2, Int.bmod_eq_of_le (by omega) (by omega)]
  constructor
  · intro h; omega
  · exact False.elim
theorem nI_ltn {a b : Nat} (ha : a < 2 ^ 31) (hb2 : b < 2 ^ 31) : (nI a < -(nI b)) ↔ False := by
  rw [Int32.lt_iff_toInt_lt, Int32.toInt_neg, nI_toInt ha, nI_toInt hb2, Int.bmod_eq_of_le (by omega) (by omega)]
  constructor
  · intro h; omega
  · exact False.elim
theorem nI_nle' {a b : Nat} (ha : a < 2 ^ 31) (hb2 : b < 2 ^ 31) : (-(nI b) ≤ nI a) ↔ True := by
  rw [Int32.le_iff_toInt_le, Int32.toInt_neg, nI_toInt ha, nI_toInt hb2, Int.bmod_eq_of_le (by omega) (by omega)]
  constructor
  · intro _; trivial
  · intro _; omega
theorem nI_nlt' {a b : Nat} (ha : a < 2 ^ 31) (hb : 0 < b) (hb2 : b < 2 ^ 31) : (-(nI b) < nI a) ↔ True := by
  rw [Int32.lt_iff_toInt_lt, Int32.toInt_neg, nI_toInt ha, nI_toInt hb2, Int.bmod_eq_of_le (by omega) (by omega)]
  constructor
  · intro _; trivial
  · intro _; omega
theorem nI_neg0 {b : Nat} (hb : 0 < b) (hb2 : b < 2 ^ 31) : (-(nI b) < nI 0) ↔ True := nI_nlt' (by decide) hb hb2
theorem lN_tI {a : Nat} (h : a < 2 ^ 63) : (lN a).toInt = a := by
  show (Int64.ofNat a).toInt = a
  rw [Int64.toInt_ofNat_of_lt h]
theorem lN_eqn {a b : Nat} (ha : a < 2 ^ 63) (hb : 0 < b) (hb2 : b < 2 ^ 63) : (lN a = -(lN b)) ↔ False := by
  constructor
  · intro h
    have h1 := congrArg Int64.toInt h
    rw [Int64.toInt_neg, lN_tI ha, lN_tI hb2, Int.bmod_eq_of_le (by omega) (by omega)] at h1
    omega
  · exact False.elim
theorem qShl_n {i : Nat} (hi : i < 31) : qShl (nI 1) (nI i) = nI (2 ^ i) := qShl_1 ⟨i, hi⟩
theorem nI_and (a b : Nat) : nI a &&& nI b = nI (a &&& b) := by
  apply Int32.toBitVec_inj.mp
  rw [Int32.toBitVec_and]
  show BitVec.ofNat 32 a &&& BitVec.ofNat 32 b = BitVec.ofNat 32 (a &&& b)
  rw [BitVec.ofNat_and]
theorem nI_or (a b : Nat) : nI a ||| nI b = nI (a ||| b) := by
  apply Int32.toBitVec_inj.mp
  rw [Int32.toBitVec_or]
  show BitVec.ofNat 32 a ||| BitVec.ofNat 32 b = BitVec.ofNat 32 (a ||| b)
  rw [BitVec.ofNat_or]
theorem lN_and (a b : Nat) : lN a &&& lN b = lN (a &&& b) := by
  apply Int64.toBitVec_inj.mp
  rw [Int64.toBitVec_and]
  show BitVec.ofNat 64 a &&& BitVec.ofNat 64 b = BitVec.ofNat 64 (a &&& b)
  rw [BitVec.ofNat_and]
theorem lN_or (a b : Nat) : lN a ||| lN b = lN (a ||| b) := by
  apply Int64.toBitVec_inj.mp
  rw [Int64.toBitVec_or]
  show BitVec.ofNat 64 a ||| BitVec.ofNat 64 b = BitVec.ofNat 64 (a ||| b)
  rw [BitVec.ofNat_or]
/-- what is in a and not in b -/
def andn (a b : Nat) : Nat := a ^^^ (a &&& b)
theorem andn_bit (a b i : Nat) : (andn a b).testBit i = (a.testBit i && !b.testBit i) := by
  unfold andn
  rw [Nat.testBit_xor, Nat.testBit_and]
  cases a.testBit i <;> cases b.testBit i <;> rfl
theorem andn_lt {a b n : Nat} (h : a < 2 ^ n) : andn a b < 2 ^ n := Nat.xor_lt_two_pow h (Nat.lt_of_le_of_lt Nat.and_le_left h)
theorem nI_andn (a b : Nat) : nI a &&& (nI b ^^^ (-(nI 1))) = nI (andn a b) := by
  apply Int32.toBitVec_inj.mp
  rw [Int32.toBitVec_and, Int32.toBitVec_xor]
  show BitVec.ofNat 32 a &&& (BitVec.ofNat 32 b ^^^ (-1#32)) = BitVec.ofNat 32 (andn a b)
  apply BitVec.eq_of_getLsbD_eq
  intro i hi
  rw [BitVec.getLsbD_and, BitVec.getLsbD_xor, BitVec.getLsbD_ofNat, BitVec.getLsbD_ofNat, BitVec.getLsbD_ofNat, andn_bit, BitVec.neg_one_eq_allOnes, BitVec.getLsbD_allOnes]
  simp [hi]
theorem lN_andn (a b : Nat) : lN a &&& (lN b ^^^ (-(lN 1))) = lN (andn a b) := by
  apply Int64.toBitVec_inj.mp
  rw [Int64.toBitVec_and, Int64.toBitVec_xor]
  show BitVec.ofNat 64 a &&& (BitVec.ofNat 64 b ^^^ (-1#64)) = BitVec.ofNat 64 (andn a b)
  apply BitVec.eq_of_getLsbD_eq
  intro i hi
  rw [BitVec.getLsbD_and, BitVec.getLsbD_xor, BitVec.getLsbD_ofNat, BitVec.getLsbD_ofNat, BitVec.getLsbD_ofNat, andn_bit, BitVec.neg_one_eq_allOnes, BitVec.getLsbD_allOnes]
  simp [hi]
theorem pI_e (w : qW) (c f : Nat) (v : Int32) : (qPutI w c f v).1 c f = v := by unfold qPutI; simp
theorem pI_f {w : qW} {c f g : Nat} {v : Int32} (h : ¬ g = f) : (qPutI w c f v).1 c g = w.1 c g := by unfold qPutI; simp [h]
theorem pI_c {w : qW} {c d f g : Nat} {v : Int32} (h : ¬ d = c) : (qPutI w c f v).1 d g = w.1 d g := by unfold qPutI; simp [h]
theorem pL_e (w : qW) (c f : Nat) (v : Int64) : (qPutL w c f v).2.1 c f = v := by unfold qPutL; simp
theorem pL_f {w : qW} {c f g : Nat} {v : Int64} (h : ¬ g = f) : (qPutL w c f v).2.1 c g = w.2.1 c g := by unfold qPutL; simp [h]
theorem pL_c {w : qW} {c d f g : Nat} {v : Int64} (h : ¬ d = c) : (qPutL w c f v).2.1 d g = w.2.1 d g := by unfold qPutL; simp [h]
theorem pI_L (w : qW) (c f : Nat) (v : Int32) : (qPutI w c f v).2.1 = w.2.1 := rfl
theorem pI_R (w : qW) (c f : Nat) (v : Int32) : (qPutI w c f v).2.2 = w.2.2 := rfl
theorem pL_I (w : qW) (c f : Nat) (v : Int64) : (qPutL w c f v).1 = w.1 := rfl
theorem pL_R (w : qW) (c f : Nat) (v : Int64) : (qPutL w c f v).2.2 = w.2.2 := rfl
theorem qB_1 (A : Prop) : qB true A = A := rfl
theorem qZb_n {n : Nat} (h : n < 2) : qZb (nI n) = true := by
  rcases n with _ | _ | n
  · rfl
  · rfl
  · omega
theorem lgn_lt (x y : Int64) : lg_cmp x y < nI 0 ↔ x < y := lg_lt x y
theorem lgn_gt (x y : Int64) : nI 0 < lg_cmp x y ↔ y < x := lg_gt x y
theorem lgn_eq (x y : Int64) : lg_cmp x y = nI 0 ↔ x = y := lg_eq x y
theorem lgn_le (x y : Int64) : lg_cmp x y ≤ nI 0 ↔ x ≤ y := lg_le x y
theorem lgn_ge (x y : Int64) : nI 0 ≤ lg_cmp x y ↔ y ≤ x := lg_ge x y
