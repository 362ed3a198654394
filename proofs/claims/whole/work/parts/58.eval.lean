/-! A row of steps done, on both sides. -/
section Eval
variable {s : Nat × (Nat → Int32)} {d : Nat} {w : qW} {Q : Int32 → qW → Prop} {QL : Int64 → qW → Prop}
theorem iZ_00 : nI 0 = iZ 0 := rfl
theorem c_clamp {z : Int} (hd : 1 ≤ d) (h1 : -2147483648 ≤ z) (h2 : z < 2147483648) (h : Q (iZ (clp z)) w) : qCall (some s) d 23 [.int (nI 1000000), .int (iZ z)] w (qQi fun x2 w1 => qCall (some s) d 21 [.int (-(nI 1000000)), .int x2] w1 (qQi fun x4 w3 => Q x4 w3)) := by
  obtain ⟨d, rfl, -⟩ := dS hd
  have e : ∀ y : Int, -2147483648 ≤ y → y < 2147483648 → Q (iZ (if y < -1000000 then -1000000 else y)) w → qCall (some s) (d + 1) 21 [.int (-(nI 1000000)), .int (iZ y)] w (qQi fun x4 w3 => Q x4 w3) := by
    intro y g1 g2 hq
    refine A_Math_max ?_
    rw [nI_Z, iZ_neg, iZ_lt (by omega) (by omega)]
    refine ⟨fun g => ?_, fun g => ?_⟩
    · rw [if_neg (by omega)] at hq; exact hq
    · by_cases g3 : y < -1000000
      · rw [if_pos g3] at hq; exact hq
      · have e : y = -1000000 := by omega
        rw [if_neg g3, e] at hq
        exact hq
  refine A_Math_min ?_
  rw [nI_Z, iZ_lt (by omega) (by omega)]
  unfold clp at h
  refine ⟨fun g => ?_, fun g => ?_⟩
  · rw [if_neg (by omega)] at h
    exact e z h1 h2 h
  · refine e _ (by omega) (by omega) ?_
    rw [if_neg (by omega)]
    by_cases g2 : z > 1000000
    · rw [if_pos g2] at h; exact h
    · have e : z = 1000000 := by omega
      subst e
      rw [if_neg (by omega), if_neg (by omega)] at h
      exact h
theorem c_clampL {z : Int} (hd : 1 ≤ d) (h1 : -9223372036854775808 ≤ z) (h2 : z < 9223372036854775808) (h : QL (lZ (clp z)) w) : qCall (some s) d 24 [.long (lN 1000000), .long (lZ z)] w (qQl fun x2 w1 => qCall (some s) d 25 [.long (-(lN 1000000)), .long x2] w1 (qQl fun x4 w3 => QL x4 w3)) := by
  obtain ⟨d, rfl, -⟩ := dS hd
  have e : ∀ y : Int, -9223372036854775808 ≤ y → y < 9223372036854775808 → QL (lZ (if y < -1000000 then -1000000 else y)) w → qCall (some s) (d + 1) 25 [.long (-(lN 1000000)), .long (lZ y)] w (qQl fun x4 w3 => QL x4 w3) := by
    intro y g1 g2 hq
    refine A_Math_max2 ?_
    rw [lN_Z, lZ_neg, lg_lt, lZ_lt (by omega) (by omega)]
    refine ⟨fun g => ?_, fun g => ?_⟩
    · rw [if_neg (by omega)] at hq; exact hq
    · by_cases g3 : y < -1000000
      · rw [if_pos g3] at hq; exact hq
      · have e : y = -1000000 := by omega
        rw [if_neg g3, e] at hq
        exact hq
  refine A_Math_min2 ?_
  rw [lN_Z, lg_gt, lZ_lt (by omega) (by omega)]
  unfold clp at h
  refine ⟨fun g => ?_, fun g => ?_⟩
  · rw [if_neg (by omega)] at h
    exact e z h1 h2 h
  · refine e _ (by omega) (by omega) ?_
    rw [if_neg (by omega)]
    by_cases g2 : z > 1000000
    · rw [if_pos g2] at h; exact h
    · have e : z = 1000000 := by omega
      subst e
      rw [if_neg (by omega), if_neg (by omega)] at h
      exact h
theorem c_join2 {o : Nat} {x y : Int} (hd : 2 ≤ d) (h3 : 3 ≤ o) (h7 : o ≤ 7) (hx : mil x) (hy : mil y) (h : Q (iZ (op2 o x y)) w) : qCall (some s) d 22 [.int (nI (10007 + o)), .int (iZ x), .int (iZ y)] w (qQi Q) := by
  obtain ⟨d, rfl, hd1⟩ := dS hd
  have hm := mil_mul hx hy
  unfold mil at hx hy
  have ho : o = 3 ∨ o = 4 ∨ o = 5 ∨ o = 6 ∨ o = 7 := by omega
  rcases ho with rfl | rfl | rfl | rfl | rfl
  · refine A_Machine_join ?_
    simp (disch := omega) only [li, ll, nI_add, nI_mul', nI_sub', nI_div', qRem_nI, lN_add, lN_mul, lN_sub, lN_div', qRemL_lN, qIn_I, qIx_nI, nI_ltI, nI_leI, nI_eq, nI_eqn, nI_eqn', nI_len, nI_ltn, nI_nle', nI_nlt', lN_eqn, lg_lt, lg_gt, lg_eq, lg_le, lg_ge, lgn_lt, lgn_gt, lgn_eq, lgn_le, lgn_ge, pk_lLT, pk_lLE, pk_lEQ, nI_l, lN_i, qShl_n, nI_and, nI_or, lN_and, lN_or, nI_andn, lN_andn, pI_e, pI_f, pI_c, pL_e, pL_f, pL_c, pI_L, pL_I, qB_1, qZb_n, true_and, and_true, forall_const, not_true_eq_false, not_false_eq_true, Nat.reduceLT, Nat.reduceLeDiff, Nat.reduceEqDiff, Nat.reduceAdd, Nat.reduceMul, Nat.reduceSub, Nat.reduceMod, Nat.reduceDiv, false_implies, implies_true, iZ_add]
    have e : op2 3 x y = clp (x + y) := by simp [op2]
    rw [e] at h
    exact c_clamp hd1 (by omega) (by omega) h
  · refine A_Machine_join ?_
    simp (disch := omega) only [li, ll, nI_add, nI_mul', nI_sub', nI_div', qRem_nI, lN_add, lN_mul, lN_sub, lN_div', qRemL_lN, qIn_I, qIx_nI, nI_ltI, nI_leI, nI_eq, nI_eqn, nI_eqn', nI_len, nI_ltn, nI_nle', nI_nlt', lN_eqn, lg_lt, lg_gt, lg_eq, lg_le, lg_ge, lgn_lt, lgn_gt, lgn_eq, lgn_le, lgn_ge, pk_lLT, pk_lLE, pk_lEQ, nI_l, lN_i, qShl_n, nI_and, nI_or, lN_and, lN_or, nI_andn, lN_andn, pI_e, pI_f, pI_c, pL_e, pL_f, pL_c, pI_L, pL_I, qB_1, qZb_n, true_and, and_true, forall_const, not_true_eq_false, not_false_eq_true, Nat.reduceLT, Nat.reduceLeDiff, Nat.reduceEqDiff, Nat.reduceAdd, Nat.reduceMul, Nat.reduceSub, Nat.reduceMod, Nat.reduceDiv, false_implies, implies_true, iZ_sub]
    have e : op2 4 x y = clp (x - y) := by simp [op2]
    rw [e] at h
    exact c_clamp hd1 (by omega) (by omega) h
  · refine A_Machine_join ?_
    rw [iZ_l (by omega) (by omega), iZ_l (by omega) (by omega)]
    simp (disch := omega) only [li, ll, nI_add, nI_mul', nI_sub', nI_div', qRem_nI, lN_add, lN_mul, lN_sub, lN_div', qRemL_lN, qIn_I, qIx_nI, nI_ltI, nI_leI, nI_eq, nI_eqn, nI_eqn', nI_len, nI_ltn, nI_nle', nI_nlt', lN_eqn, lg_lt, lg_gt, lg_eq, lg_le, lg_ge, lgn_lt, lgn_gt, lgn_eq, lgn_le, lgn_ge, pk_lLT, pk_lLE, pk_lEQ, nI_l, lN_i, qShl_n, nI_and, nI_or, lN_and, lN_or, nI_andn, lN_andn, pI_e, pI_f, pI_c, pL_e, pL_f, pL_c, pI_L, pL_I, qB_1, qZb_n, true_and, and_true, forall_const, not_true_eq_false, not_false_eq_true, Nat.reduceLT, Nat.reduceLeDiff, Nat.reduceEqDiff, Nat.reduceAdd, Nat.reduceMul, Nat.reduceSub, Nat.reduceMod, Nat.reduceDiv, false_implies, implies_true, lZ_mul]
    refine c_clampL hd1 (by omega) (by omega) ?_
    rw [lZ_i]
    have e : op2 5 x y = clp (x * y) := by simp [op2]
    rw [e] at h
    exact h
  · refine A_Machine_join ?_
    simp (disch := omega) only [li, ll, nI_add, nI_mul', nI_sub', nI_div', qRem_nI, lN_add, lN_mul, lN_sub, lN_div', qRemL_lN, qIn_I, qIx_nI, nI_ltI, nI_leI, nI_eq, nI_eqn, nI_eqn', nI_len, nI_ltn, nI_nle', nI_nlt', lN_eqn, lg_lt, lg_gt, lg_eq, lg_le, lg_ge, lgn_lt, lgn_gt, lgn_eq, lgn_le, lgn_ge, pk_lLT, pk_lLE, pk_lEQ, nI_l, lN_i, qShl_n, nI_and, nI_or, lN_and, lN_or, nI_andn, lN_andn, pI_e, pI_f, pI_c, pL_e, pL_f, pL_c, pI_L, pL_I, qB_1, qZb_n, true_and, and_true, forall_const, not_true_eq_false, not_false_eq_true, Nat.reduceLT, Nat.reduceLeDiff, Nat.reduceEqDiff, Nat.reduceAdd, Nat.reduceMul, Nat.reduceSub, Nat.reduceMod, Nat.reduceDiv, false_implies, implies_true]
    rw [iZ_div (by omega) (by omega), iZ_00, iZ_eq (by omega) (by omega)]
    have e : op2 6 x y = if y = 0 then 0 else x.tdiv y := by simp [op2]
    rw [e] at h
    refine ⟨fun g => ⟨g, ?_⟩, fun g => ?_⟩
    · rw [if_neg g] at h; exact h
    · rw [if_pos g] at h; exact h
  · refine A_Machine_join ?_
    simp (disch := omega) only [li, ll, nI_add, nI_mul', nI_sub', nI_div', qRem_nI, lN_add, lN_mul, lN_sub, lN_div', qRemL_lN, qIn_I, qIx_nI, nI_ltI, nI_leI, nI_eq, nI_eqn, nI_eqn', nI_len, nI_ltn, nI_nle', nI_nlt', lN_eqn, lg_lt, lg_gt, lg_eq, lg_le, lg_ge, lgn_lt, lgn_gt, lgn_eq, lgn_le, lgn_ge, pk_lLT, pk_lLE, pk_lEQ, nI_l, lN_i, qShl_n, nI_and, nI_or, lN_and, lN_or, nI_andn, lN_andn, pI_e, pI_f, pI_c, pL_e, pL_f, pL_c, pI_L, pL_I, qB_1, qZb_n, true_and, and_true, forall_const, not_true_eq_false, not_false_eq_true, Nat.reduceLT, Nat.reduceLeDiff, Nat.reduceEqDiff, Nat.reduceAdd, Nat.reduceMul, Nat.reduceSub, Nat.reduceMod, Nat.reduceDiv, false_implies, implies_true]
    rw [qRem_Z (by omega) (by omega), iZ_00, iZ_eq (by omega) (by omega)]
    have e : op2 7 x y = if y = 0 then 0 else x.tmod y := by simp [op2]
    rw [e] at h
    refine ⟨fun g => ⟨g, ?_⟩, fun g => ?_⟩
    · rw [if_neg g] at h; exact h
    · rw [if_pos g] at h; exact h
theorem c_joinc {o : Nat} {x y : Int} (hd : 2 ≤ d) (h3 : 10 ≤ o) (h7 : o ≤ 15) (hx : mil x) (hy : mil y) (h : Q (nI (opc o x y).toNat) w) : qCall (some s) d 22 [.int (nI (10005 + o)), .int (iZ x), .int (iZ y)] w (qQi Q) := by
  obtain ⟨d, rfl, hd1⟩ := dS hd
  unfold mil at hx hy
  have ho : o = 10 ∨ o = 11 ∨ o = 12 ∨ o = 13 ∨ o = 14 ∨ o = 15 := by omega
  have e1 : ∀ b : Bool, b = true → nI b.toNat = nI 1 := fun b hb => by rw [hb]; rfl
  have e0 : ∀ b : Bool, b = false → nI b.toNat = nI 0 := fun b hb => by rw [hb]; rfl
  rcases ho with rfl | rfl | rfl | rfl | rfl | rfl
  · refine A_Machine_join ?_
    have h : Q (nI (decide (x < y)).toNat) w := h
    simp (disch := omega) only [li, ll, nI_add, nI_mul', nI_sub', nI_div', qRem_nI, lN_add, lN_mul, lN_sub, lN_div', qRemL_lN, qIn_I, qIx_nI, nI_ltI, nI_leI, nI_eq, nI_eqn, nI_eqn', nI_len, nI_ltn, nI_nle', nI_nlt', lN_eqn, lg_lt, lg_gt, lg_eq, lg_le, lg_ge, lgn_lt, lgn_gt, lgn_eq, lgn_le, lgn_ge, pk_lLT, pk_lLE, pk_lEQ, nI_l, lN_i, qShl_n, nI_and, nI_or, lN_and, lN_or, nI_andn, lN_andn, pI_e, pI_f, pI_c, pL_e, pL_f, pL_c, pI_L, pL_I, qB_1, qZb_n, true_and, and_true, forall_const, not_true_eq_false, not_false_eq_true, Nat.reduceLT, Nat.reduceLeDiff, Nat.reduceEqDiff, Nat.reduceAdd, Nat.reduceMul, Nat.reduceSub, Nat.reduceMod, Nat.reduceDiv, false_implies, implies_true]
    rw [iZ_le (by omega) (by omega)]
    refine ⟨fun g => ?_, fun g => ?_⟩
    all_goals first | (rw [e1 _ (decide_eq_true (by omega))] at h; exact h) | (rw [e0 _ (decide_eq_false (by omega))] at h; exact h)
  · refine A_Machine_join ?_
    have h : Q (nI (decide (x ≤ y)).toNat) w := h
    simp (disch := omega) only [li, ll, nI_add, nI_mul', nI_sub', nI_div', qRem_nI, lN_add, lN_mul, lN_sub, lN_div', qRemL_lN, qIn_I, qIx_nI, nI_ltI, nI_leI, nI_eq, nI_eqn, nI_eqn', nI_len, nI_ltn, nI_nle', nI_nlt', lN_eqn, lg_lt, lg_gt, lg_eq, lg_le, lg_ge, lgn_lt, lgn_gt, lgn_eq, lgn_le, lgn_ge, pk_lLT, pk_lLE, pk_lEQ, nI_l, lN_i, qShl_n, nI_and, nI_or, lN_and, lN_or, nI_andn, lN_andn, pI_e, pI_f, pI_c, pL_e, pL_f, pL_c, pI_L, pL_I, qB_1, qZb_n, true_and, and_true, forall_const, not_true_eq_false, not_false_eq_true, Nat.reduceLT, Nat.reduceLeDiff, Nat.reduceEqDiff, Nat.reduceAdd, Nat.reduceMul, Nat.reduceSub, Nat.reduceMod, Nat.reduceDiv, false_implies, implies_true]
    rw [iZ_lt (by omega) (by omega)]
    refine ⟨fun g => ?_, fun g => ?_⟩
    all_goals first | (rw [e1 _ (decide_eq_true (by omega))] at h; exact h) | (rw [e0 _ (decide_eq_false (by omega))] at h; exact h)
  · refine A_Machine_join ?_
    have h : Q (nI (decide (y < x)).toNat) w := h
    simp (disch := omega) only [li, ll, nI_add, nI_mul', nI_sub', nI_div', qRem_nI, lN_add, lN_mul, lN_sub, lN_div', qRemL_lN, qIn_I, qIx_nI, nI_ltI, nI_leI, nI_eq, nI_eqn, nI_eqn', nI_len, nI_ltn, nI_nle', nI_nlt', lN_eqn, lg_lt, lg_gt, lg_eq, lg_le, lg_ge, lgn_lt, lgn_gt, lgn_eq, lgn_le, lgn_ge, pk_lLT, pk_lLE, pk_lEQ, nI_l, lN_i, qShl_n, nI_and, nI_or, lN_and, lN_or, nI_andn, lN_andn, pI_e, pI_f, pI_c, pL_e, pL_f, pL_c, pI_L, pL_I, qB_1, qZb_n, true_and, and_true, forall_const, not_true_eq_false, not_false_eq_true, Nat.reduceLT, Nat.reduceLeDiff, Nat.reduceEqDiff, Nat.reduceAdd, Nat.reduceMul, Nat.reduceSub, Nat.reduceMod, Nat.reduceDiv, false_implies, implies_true]
    rw [iZ_le (by omega) (by omega)]
    refine ⟨fun g => ?_, fun g => ?_⟩
    all_goals first | (rw [e1 _ (decide_eq_true (by omega))] at h; exact h) | (rw [e0 _ (decide_eq_false (by omega))] at h; exact h)
  · refine A_Machine_join ?_
    have h : Q (nI (decide (y ≤ x)).toNat) w := h
    simp (disch := omega) only [li, ll, nI_add, nI_mul', nI_sub', nI_div', qRem_nI, lN_add, lN_mul, lN_sub, lN_div', qRemL_lN, qIn_I, qIx_nI, nI_ltI, nI_leI, nI_eq, nI_eqn, nI_eqn', nI_len, nI_ltn, nI_nle', nI_nlt', lN_eqn, lg_lt, lg_gt, lg_eq, lg_le, lg_ge, lgn_lt, lgn_gt, lgn_eq, lgn_le, lgn_ge, pk_lLT, pk_lLE, pk_lEQ, nI_l, lN_i, qShl_n, nI_and, nI_or, lN_and, lN_or, nI_andn, lN_andn, pI_e, pI_f, pI_c, pL_e, pL_f, pL_c, pI_L, pL_I, qB_1, qZb_n, true_and, and_true, forall_const, not_true_eq_false, not_false_eq_true, Nat.reduceLT, Nat.reduceLeDiff, Nat.reduceEqDiff, Nat.reduceAdd, Nat.reduceMul, Nat.reduceSub, Nat.reduceMod, Nat.reduceDiv, false_implies, implies_true]
    rw [iZ_lt (by omega) (by omega)]
    refine ⟨fun g => ?_, fun g => ?_⟩
    all_goals first | (rw [e1 _ (decide_eq_true (by omega))] at h; exact h) | (rw [e0 _ (decide_eq_false (by omega))] at h; exact h)
  · refine A_Machine_join ?_
    have h : Q (nI (decide (x = y)).toNat) w := h
    simp (disch := omega) only [li, ll, nI_add, nI_mul', nI_sub', nI_div', qRem_nI, lN_add, lN_mul, lN_sub, lN_div', qRemL_lN, qIn_I, qIx_nI, nI_ltI, nI_leI, nI_eq, nI_eqn, nI_eqn', nI_len, nI_ltn, nI_nle', nI_nlt', lN_eqn, lg_lt, lg_gt, lg_eq, lg_le, lg_ge, lgn_lt, lgn_gt, lgn_eq, lgn_le, lgn_ge, pk_lLT, pk_lLE, pk_lEQ, nI_l, lN_i, qShl_n, nI_and, nI_or, lN_and, lN_or, nI_andn, lN_andn, pI_e, pI_f, pI_c, pL_e, pL_f, pL_c, pI_L, pL_I, qB_1, qZb_n, true_and, and_true, forall_const, not_true_eq_false, not_false_eq_true, Nat.reduceLT, Nat.reduceLeDiff, Nat.reduceEqDiff, Nat.reduceAdd, Nat.reduceMul, Nat.reduceSub, Nat.reduceMod, Nat.reduceDiv, false_implies, implies_true]
    rw [iZ_eq (by omega) (by omega)]
    refine ⟨fun g => ?_, fun g => ?_⟩
    all_goals first | (rw [e1 _ (decide_eq_true (by omega))] at h; exact h) | (rw [e0 _ (decide_eq_false (by omega))] at h; exact h)
  · refine A_Machine_join ?_
    have h : Q (nI (decide (¬ x = y)).toNat) w := h
    simp (disch := omega) only [li, ll, nI_add, nI_mul', nI_sub', nI_div', qRem_nI, lN_add, lN_mul, lN_sub, lN_div', qRemL_lN, qIn_I, qIx_nI, nI_ltI, nI_leI, nI_eq, nI_eqn, nI_eqn', nI_len, nI_ltn, nI_nle', nI_nlt', lN_eqn, lg_lt, lg_gt, lg_eq, lg_le, lg_ge, lgn_lt, lgn_gt, lgn_eq, lgn_le, lgn_ge, pk_lLT, pk_lLE, pk_lEQ, nI_l, lN_i, qShl_n, nI_and, nI_or, lN_and, lN_or, nI_andn, lN_andn, pI_e, pI_f, pI_c, pL_e, pL_f, pL_c, pI_L, pL_I, qB_1, qZb_n, true_and, and_true, forall_const, not_true_eq_false, not_false_eq_true, Nat.reduceLT, Nat.reduceLeDiff, Nat.reduceEqDiff, Nat.reduceAdd, Nat.reduceMul, Nat.reduceSub, Nat.reduceMod, Nat.reduceDiv, false_implies, implies_true]
    rw [iZ_eq (by omega) (by omega)]
    refine ⟨fun g => ?_, fun g => ?_⟩
    all_goals first | (rw [e1 _ (decide_eq_true (by omega))] at h; exact h) | (rw [e0 _ (decide_eq_false (by omega))] at h; exact h)
theorem c_joinA {a b : Bool} (hd : 1 ≤ d) (h : Q (nI (a && b).toNat) w) : qCall (some s) d 22 [.int (nI 10021), .int (nI a.toNat), .int (nI b.toNat)] w (qQi Q) := by
  obtain ⟨d, rfl, -⟩ := dS hd
  refine A_Machine_join ?_
  simp (disch := omega) only [li, ll, nI_add, nI_mul', nI_sub', nI_div', qRem_nI, lN_add, lN_mul, lN_sub, lN_div', qRemL_lN, qIn_I, qIx_nI, nI_ltI, nI_leI, nI_eq, nI_eqn, nI_eqn', nI_len, nI_ltn, nI_nle', nI_nlt', lN_eqn, lg_lt, lg_gt, lg_eq, lg_le, lg_ge, lgn_lt, lgn_gt, lgn_eq, lgn_le, lgn_ge, pk_lLT, pk_lLE, pk_lEQ, nI_l, lN_i, qShl_n, nI_and, nI_or, lN_and, lN_or, nI_andn, lN_andn, pI_e, pI_f, pI_c, pL_e, pL_f, pL_c, pI_L, pL_I, qB_1, qZb_n, true_and, and_true, forall_const, not_true_eq_false, not_false_eq_true, Nat.reduceLT, Nat.reduceLeDiff, Nat.reduceEqDiff, Nat.reduceAdd, Nat.reduceMul, Nat.reduceSub, Nat.reduceMod, Nat.reduceDiv, false_implies, implies_true]
  cases a <;> cases b <;> exact h
theorem c_joinO {a b : Bool} (hd : 1 ≤ d) (h : Q (nI (a || b).toNat) w) : qCall (some s) d 22 [.int (nI 10022), .int (nI a.toNat), .int (nI b.toNat)] w (qQi Q) := by
  obtain ⟨d, rfl, -⟩ := dS hd
  refine A_Machine_join ?_
  simp (disch := omega) only [li, ll, nI_add, nI_mul', nI_sub', nI_div', qRem_nI, lN_add, lN_mul, lN_sub, lN_div', qRemL_lN, qIn_I, qIx_nI, nI_ltI, nI_leI, nI_eq, nI_eqn, nI_eqn', nI_len, nI_ltn, nI_nle', nI_nlt', lN_eqn, lg_lt, lg_gt, lg_eq, lg_le, lg_ge, lgn_lt, lgn_gt, lgn_eq, lgn_le, lgn_ge, pk_lLT, pk_lLE, pk_lEQ, nI_l, lN_i, qShl_n, nI_and, nI_or, lN_and, lN_or, nI_andn, lN_andn, pI_e, pI_f, pI_c, pL_e, pL_f, pL_c, pI_L, pL_I, qB_1, qZb_n, true_and, and_true, forall_const, not_true_eq_false, not_false_eq_true, Nat.reduceLT, Nat.reduceLeDiff, Nat.reduceEqDiff, Nat.reduceAdd, Nat.reduceMul, Nat.reduceSub, Nat.reduceMod, Nat.reduceDiv, false_implies, implies_true]
  cases a <;> cases b <;> exact h
end Eval
