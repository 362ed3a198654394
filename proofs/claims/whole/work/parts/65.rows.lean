/-! The class: hours in a row. -/
section Rows
variable {s : Nat × (Nat → Int32)} {d : Nat} {w : qW} {Q : Int32 → qW → Prop} {QL : Int64 → qW → Prop} {R : qW → Prop} {N S K : vS} {T : Nat → vT} {Z : vZ}
theorem eq0 {a : Nat} (h : a < 2 ^ 31) : (nI a = (0 : Int32)) ↔ a = 0 := nI_eq h (by decide)
theorem xor_neg (x y : Int64) : (x ^^^ y).toInt < 0 ↔ ¬ (x.toInt < 0 ↔ y.toInt < 0) := by
  have h := BitVec.msb_xor (x := x.toBitVec) (y := y.toBitVec)
  rw [BitVec.msb_eq_toInt, BitVec.msb_eq_toInt, BitVec.msb_eq_toInt] at h
  have e : (x ^^^ y).toInt = (x.toBitVec ^^^ y.toBitVec).toInt := by
    rw [← Int64.toBitVec_xor]; rfl
  have ex : x.toInt = x.toBitVec.toInt := rfl
  have ey : y.toInt = y.toBitVec.toInt := rfl
  rw [e, ex, ey]
  by_cases h1 : x.toBitVec.toInt < 0
  · by_cases h2 : y.toBitVec.toInt < 0
    · rw [decide_eq_true h1, decide_eq_true h2] at h
      exact ⟨fun g => absurd g (of_decide_eq_false h), fun g => absurd ⟨fun _ => h2, fun _ => h1⟩ g⟩
    · rw [decide_eq_true h1, decide_eq_false h2] at h
      exact ⟨fun _ g => h2 (g.mp h1), fun _ => of_decide_eq_true h⟩
  · by_cases h2 : y.toBitVec.toInt < 0
    · rw [decide_eq_false h1, decide_eq_true h2] at h
      exact ⟨fun _ g => h1 (g.mpr h2), fun _ => of_decide_eq_true h⟩
    · rw [decide_eq_false h1, decide_eq_false h2] at h
      exact ⟨fun g => absurd g (of_decide_eq_false h), fun g => absurd ⟨fun q => absurd q h1, fun q => absurd q h2⟩ g⟩
theorem c_floorMod {x : Int} {m : Nat} (hd : 1 ≤ d) (hm : 0 < m) (hm2 : m < 2 ^ 62) (h1 : -2 ^ 62 < x) (h2 : x < 2 ^ 62) (hQ : QL (lZ (x % (m : Int))) w) : qCall (some s) d 115 [.long (lZ x), .long (lN m)] w (qQl QL) := by
  obtain ⟨d, rfl, -⟩ := dS hd
  refine A_Math_floorMod ?_
  rw [ll, lN_Z m, lN_Z 0]
  have hlt : (0 ≤ lg_cmp (lZ x ^^^ lZ (m : Int)) (lZ ((0 : Nat) : Int))) ↔ ¬ x < 0 := by
    rw [lg_ge, Int64.le_iff_toInt_le, lZ_t (z := ((0 : Nat) : Int)) (by omega) (by omega)]
    have := xor_neg (lZ x) (lZ (m : Int))
    rw [lZ_t (z := x) (by omega) (by omega), lZ_t (z := (m : Int)) (by omega) (by omega)] at this
    constructor
    · intro h hx
      have := this.mpr (by omega)
      omega
    · intro h
      rcases Int.lt_or_le (lZ x ^^^ lZ (m : Int)).toInt 0 with g | g
      · exact absurd (this.mp g) (by omega)
      · exact g
  have em := Int.tmod_eq_emod (a := x) (b := (m : Int))
  have mb : (x.tmod (m : Int)).natAbs < m := by
    have := Int.natAbs_tmod x (m : Int)
    rw [this]
    exact Nat.mod_lt _ (by omega)
  rw [hlt, qRemL_Z (by omega) (by omega), lg_eq, lZ_eq (by omega) (by omega), lZ_eq (by omega) (by omega)]
  refine ⟨by omega, fun g => ?_, fun g => ⟨fun g2 => ?_, fun g2 => ?_⟩⟩
  · rw [if_pos (Or.inl (by omega))] at em
    have em2 : x.tmod (m : Int) = x % (m : Int) := by omega
    rw [em2]; exact hQ
  · have dv : (m : Int) ∣ x := Int.dvd_of_tmod_eq_zero g2
    rw [if_pos (Or.inr dv)] at em
    have em2 : x.tmod (m : Int) = x % (m : Int) := by omega
    rw [em2]; exact hQ
  · have nd : ¬ (0 ≤ x ∨ (m : Int) ∣ x) := by
      intro h
      rcases h with h | h
      · omega
      · exact g2 (Int.tmod_eq_zero_of_dvd h)
    rw [if_neg nd] at em
    rw [lZ_add, em]
    have e : x % (m : Int) - ((m : Int).natAbs : Int) + (m : Int) = x % (m : Int) := by
      rw [Int.natAbs_natCast]; omega
    rw [e]; exact hQ
theorem c_max {a b : Nat} (hd : 1 ≤ d) (ha : a < 2 ^ 31) (hb : b < 2 ^ 31) (hQ : Q (nI (max a b)) w) : qCall (some s) d 21 [.int (nI a), .int (nI b)] w (qQi Q) := by
  obtain ⟨d, rfl, -⟩ := dS hd
  refine A_Math_max ?_
  rw [nI_ltI ha hb]
  refine ⟨fun g => ?_, fun g => ?_⟩
  · rw [Nat.max_eq_right (by omega)] at hQ; exact hQ
  · rw [Nat.max_eq_left (by omega)] at hQ; exact hQ
theorem c_min {a b : Nat} (hd : 1 ≤ d) (ha : a < 2 ^ 31) (hb : b < 2 ^ 31) (hQ : Q (nI (min a b)) w) : qCall (some s) d 23 [.int (nI a), .int (nI b)] w (qQi Q) := by
  obtain ⟨d, rfl, -⟩ := dS hd
  refine A_Math_min ?_
  rw [nI_ltI hb ha]
  refine ⟨fun g => ?_, fun g => ?_⟩
  · rw [Nat.min_eq_right (by omega)] at hQ; exact hQ
  · rw [Nat.min_eq_left (by omega)] at hQ; exact hQ
theorem c_fill52 {n : Nat} (hd : 2 ≤ d) (hn : n ≤ 1024) (hQ : ∀ w', fr (fun c => c = 52) w w' → (∀ t, t < n → w'.1 52 t = nI 0) → R w') : qCall (some s) d 130 [.ref 52, .int (0 : Int32), .int (nI n), .int (0 : Int32)] w (qQv R) := by
  obtain ⟨d, rfl, hd1⟩ := dS hd
  obtain ⟨d, rfl, hd1⟩ := dS hd1
  refine A_Arrays_fill_52 (A_Arrays_rangeCheck ?_)
  simp (disch := omega) only [li, ll, nI_add, nI_mul', nI_sub', nI_div', qRem_nI, lN_add, lN_mul, lN_sub, lN_div', qRemL_lN, qIn_I, qIx_nI, nI_ltI, nI_leI, nI_eq, nI_eqn, nI_eqn', nI_len, nI_ltn, nI_nle', nI_nlt', lN_eqn, lg_lt, lg_gt, lg_eq, lg_le, lg_ge, lgn_lt, lgn_gt, lgn_eq, lgn_le, lgn_ge, pk_lLT, pk_lLE, pk_lEQ, nI_l, lN_i, qShl_n, nI_and, nI_or, lN_and, lN_or, nI_andn, lN_andn, pI_e, pI_f, pI_c, pL_e, pL_f, pL_c, pI_L, pL_I, qB_1, qZb_n, true_and, and_true, forall_const, not_true_eq_false, not_false_eq_true, Nat.reduceLT, Nat.reduceLeDiff, Nat.reduceEqDiff, Nat.reduceAdd, Nat.reduceMul, Nat.reduceSub, Nat.reduceMod, Nat.reduceDiv, false_implies, implies_true]
  refine ⟨fun _ => ⟨fun _ => ?_, fun g => g hn⟩, fun g => g (Nat.zero_le _)⟩
  refine lpU (i := 0) (n := n) (I := fun i w2 => fr (fun c => c = 52) w w2 ∧ ∀ t, t < i → w2.1 52 t = nI 0) (P := fun i w2 => qAt s (d + 1) c_Arrays_fill (qQv R) 10 [some (.ref 52), none, some (.int (nI n)), some (.int (nI 0)), some (.int (nI i))] [] w2) ?_ ?_ (Nat.zero_le _) ?_
  · intro w2 ⟨f, h⟩
    refine A_Arrays_fill_52_10 ?_
    simp (disch := omega) only [li, ll, nI_add, nI_mul', nI_sub', nI_div', qRem_nI, lN_add, lN_mul, lN_sub, lN_div', qRemL_lN, qIn_I, qIx_nI, nI_ltI, nI_leI, nI_eq, nI_eqn, nI_eqn', nI_len, nI_ltn, nI_nle', nI_nlt', lN_eqn, lg_lt, lg_gt, lg_eq, lg_le, lg_ge, lgn_lt, lgn_gt, lgn_eq, lgn_le, lgn_ge, pk_lLT, pk_lLE, pk_lEQ, nI_l, lN_i, qShl_n, nI_and, nI_or, lN_and, lN_or, nI_andn, lN_andn, pI_e, pI_f, pI_c, pL_e, pL_f, pL_c, pI_L, pL_I, qB_1, qZb_n, true_and, and_true, forall_const, not_true_eq_false, not_false_eq_true, Nat.reduceLT, Nat.reduceLeDiff, Nat.reduceEqDiff, Nat.reduceAdd, Nat.reduceMul, Nat.reduceSub, Nat.reduceMod, Nat.reduceDiv, false_implies, implies_true]
    exact ⟨fun _ => hQ w2 f h, fun g => absurd (Nat.le_refl _) g⟩
  · intro i w2 hi ⟨f, h⟩ ih
    refine A_Arrays_fill_52_10 ?_
    simp (disch := omega) only [li, ll, nI_add, nI_mul', nI_sub', nI_div', qRem_nI, lN_add, lN_mul, lN_sub, lN_div', qRemL_lN, qIn_I, qIx_nI, nI_ltI, nI_leI, nI_eq, nI_eqn, nI_eqn', nI_len, nI_ltn, nI_nle', nI_nlt', lN_eqn, lg_lt, lg_gt, lg_eq, lg_le, lg_ge, lgn_lt, lgn_gt, lgn_eq, lgn_le, lgn_ge, pk_lLT, pk_lLE, pk_lEQ, nI_l, lN_i, qShl_n, nI_and, nI_or, lN_and, lN_or, nI_andn, lN_andn, pI_e, pI_f, pI_c, pL_e, pL_f, pL_c, pI_L, pL_I, qB_1, qZb_n, true_and, and_true, forall_const, not_true_eq_false, not_false_eq_true, Nat.reduceLT, Nat.reduceLeDiff, Nat.reduceEqDiff, Nat.reduceAdd, Nat.reduceMul, Nat.reduceSub, Nat.reduceMod, Nat.reduceDiv, false_implies, implies_true]
    refine ⟨fun g => absurd g (by omega), fun _ => ⟨by omega, ih _ ⟨fr_I f rfl, fun t ht => ?_⟩⟩⟩
    by_cases e : t = i
    · subst e; rw [pI_e]
    · rw [pI_f e]; exact h t (by omega)
  · exact ⟨fr_rf _ _, fun t ht => by omega⟩
/-- from where on one is due, from an hour on -/
theorem due_from {f n st : Nat} (hn : 0 < n) : ∃ a : Nat, (f < st → (a : Int) = ((f : Int) - (st : Int)) % (n : Int)) ∧ (st ≤ f → a = f - st) ∧ ∀ t, (f ≤ st + t ∧ (st + t - f) % n = 0) ↔ (a ≤ t ∧ (t - a) % n = 0) := by
  rcases Nat.lt_or_ge f st with h | h
  · have h1 := Int.emod_nonneg ((f : Int) - (st : Int)) (b := (n : Int)) (by omega)
    have h2 := Int.emod_lt_of_pos ((f : Int) - (st : Int)) (b := (n : Int)) (by omega)
    have h3 : (n : Int) ∣ ((f : Int) - st) - ((f : Int) - st) % n := Int.dvd_self_sub_emod
    refine ⟨(((f : Int) - (st : Int)) % (n : Int)).toNat, fun _ => by omega, fun g => by omega, fun t => ?_⟩
    generalize ha : (((f : Int) - (st : Int)) % (n : Int)).toNat = a
    have ea : ((f : Int) - (st : Int)) % (n : Int) = (a : Int) := by omega
    rw [ea] at h2 h3
    have dv : n ∣ (st - f) + a := by
      have h4 : (n : Int) ∣ (((st - f) + a : Nat) : Int) := by
        have e : (((st - f) + a : Nat) : Int) = -(((f : Int) - st) - a) := by omega
        rw [e]
        exact (Int.dvd_neg).mpr h3
      exact Int.natCast_dvd_natCast.mp h4
    have et : st + t - f = (st - f) + t := by omega
    rw [et]
    rcases Nat.lt_or_ge t a with g | g
    · constructor
      · rintro ⟨-, q⟩
        exfalso
        have d2 := Nat.dvd_of_mod_eq_zero q
        have e : (st - f) + a = ((st - f) + t) + (a - t) := by omega
        rw [e] at dv
        have := Nat.le_of_dvd (by omega) ((Nat.dvd_add_right d2).mp dv)
        omega
      · rintro ⟨q, -⟩; omega
    · have e : (st - f) + t = ((st - f) + a) + (t - a) := by omega
      constructor
      · rintro ⟨-, q⟩
        have d2 := Nat.dvd_of_mod_eq_zero q
        rw [e] at d2
        exact ⟨g, Nat.mod_eq_zero_of_dvd ((Nat.dvd_add_right dv).mp d2)⟩
      · rintro ⟨-, q⟩
        refine ⟨by omega, ?_⟩
        rw [e]
        exact Nat.mod_eq_zero_of_dvd ((Nat.dvd_add_right dv).mpr (Nat.dvd_of_mod_eq_zero q))
  · refine ⟨f - st, fun g => by omega, fun _ => rfl, fun t => ?_⟩
    have e : st + t - f = t - (f - st) := by omega
    rw [e]
    constructor
    · rintro ⟨q1, q2⟩; exact ⟨by omega, q2⟩
    · rintro ⟨q1, q2⟩; exact ⟨by omega, q2⟩
theorem step_next {a n m t : Nat} (hn : 0 < n) (h1 : a ≤ t ∧ (t - a) % n = 0) (h2 : t < a + n * m + n) : t < a + n * m ∨ t = a + n * m := by
  rcases Nat.lt_or_ge t (a + n * m) with g | g
  · exact Or.inl g
  · right
    have e : t - a = n * m + (t - (a + n * m)) := by omega
    have q := h1.2
    rw [e, Nat.mul_add_mod, Nat.mod_eq_of_lt (by omega)] at q
    omega
theorem c_layRow {st n : Nat} (hd : 3 ≤ d) (hX : rX w N K T Z) (hst : st < 2 ^ 61) (hn : 1 ≤ n) (hn2 : n < 2 ^ 31) (hQ : ∀ w', fr (fun c => c = 50 ∨ c = 52) w w' → w'.2.1 50 5 = lN st → w'.1 50 6 = nI (min n 1024) → w'.1 50 7 = w.1 50 7 → w'.1 50 8 = w.1 50 8 → (∀ t, t < min n 1024 → w'.1 52 t = nI (bitsOf (fun p => due N p (st + t)) (N 0 0))) → R w') : qCall (some s) d 129 [.ref 50, .long (lN st), .int (nI n)] w (qQv R) := by
  obtain ⟨d, rfl, hd1⟩ := dS hd
  have r := hX.n
  have o := hX.okn
  have o0 := o.p12
  refine A_Voices_layRow (c_min (b := 1024) (by omega) hn2 (by decide) (c_max (a := 1) (by omega) (by decide) (by omega) ?_))
  have eL : max 1 (min n 1024) = min n 1024 := by omega
  rw [eL]
  generalize hL : min n 1024 = L
  rw [hL] at hQ
  have hL1 : 1 ≤ L ∧ L ≤ 1024 := by omega
  refine c_fill52 hd1 hL1.2 ?_
  intro w1 f1 z1
  refine lpU (i := 0) (n := N 0 0) (I := fun i w2 => fr (fun c => c = 52) (qPutI (qPutL w 50 5 (lN st)) 50 6 (nI L)) w2 ∧ ∀ t, t < L → w2.1 52 t = nI (bitsOf (fun p => due N p (st + t)) i)) (P := fun i w2 => qAt s d c_Voices_layRow (qQv R) 36 [some (.ref 50), some (.long (lN st)), none, none, some (.int (nI i)), none, none, none, none, none] [] w2) ?_ ?_ (Nat.zero_le _) ?_
  · intro w2 ⟨f, h⟩
    refine A_Voices_layRow_36 ?_
    have e0 : w2.1 2 0 = nI (N 0 0) := by rw [(f 2 (by decide)).1]; simp (disch := omega) only [li, ll, nI_add, nI_mul', nI_sub', nI_div', qRem_nI, lN_add, lN_mul, lN_sub, lN_div', qRemL_lN, qIn_I, qIx_nI, nI_ltI, nI_leI, nI_eq, nI_eqn, nI_eqn', nI_len, nI_ltn, nI_nle', nI_nlt', lN_eqn, lg_lt, lg_gt, lg_eq, lg_le, lg_ge, lgn_lt, lgn_gt, lgn_eq, lgn_le, lgn_ge, pk_lLT, pk_lLE, pk_lEQ, nI_l, lN_i, qShl_n, nI_and, nI_or, lN_and, lN_or, nI_andn, lN_andn, pI_e, pI_f, pI_c, pL_e, pL_f, pL_c, pI_L, pL_I, qB_1, qZb_n, true_and, and_true, forall_const, not_true_eq_false, not_false_eq_true, Nat.reduceLT, Nat.reduceLeDiff, Nat.reduceEqDiff, Nat.reduceAdd, Nat.reduceMul, Nat.reduceSub, Nat.reduceMod, Nat.reduceDiv, false_implies, implies_true]; exact r.ppl
    rw [e0]
    refine ⟨fun _ => ?_, fun g => absurd (Int32.le_refl _) g⟩
    refine hQ w2 (fr_tr (fr_I (fr_pL (by decide)) (by decide)) (fr_wk f (fun c hc => Or.inr hc))) ?_ ?_ ?_ ?_ h
    · rw [(f 50 (by decide)).2]; simp (disch := omega) only [li, ll, nI_add, nI_mul', nI_sub', nI_div', qRem_nI, lN_add, lN_mul, lN_sub, lN_div', qRemL_lN, qIn_I, qIx_nI, nI_ltI, nI_leI, nI_eq, nI_eqn, nI_eqn', nI_len, nI_ltn, nI_nle', nI_nlt', lN_eqn, lg_lt, lg_gt, lg_eq, lg_le, lg_ge, lgn_lt, lgn_gt, lgn_eq, lgn_le, lgn_ge, pk_lLT, pk_lLE, pk_lEQ, nI_l, lN_i, qShl_n, nI_and, nI_or, lN_and, lN_or, nI_andn, lN_andn, pI_e, pI_f, pI_c, pL_e, pL_f, pL_c, pI_L, pL_I, qB_1, qZb_n, true_and, and_true, forall_const, not_true_eq_false, not_false_eq_true, Nat.reduceLT, Nat.reduceLeDiff, Nat.reduceEqDiff, Nat.reduceAdd, Nat.reduceMul, Nat.reduceSub, Nat.reduceMod, Nat.reduceDiv, false_implies, implies_true]
    · rw [(f 50 (by decide)).1]; simp (disch := omega) only [li, ll, nI_add, nI_mul', nI_sub', nI_div', qRem_nI, lN_add, lN_mul, lN_sub, lN_div', qRemL_lN, qIn_I, qIx_nI, nI_ltI, nI_leI, nI_eq, nI_eqn, nI_eqn', nI_len, nI_ltn, nI_nle', nI_nlt', lN_eqn, lg_lt, lg_gt, lg_eq, lg_le, lg_ge, lgn_lt, lgn_gt, lgn_eq, lgn_le, lgn_ge, pk_lLT, pk_lLE, pk_lEQ, nI_l, lN_i, qShl_n, nI_and, nI_or, lN_and, lN_or, nI_andn, lN_andn, pI_e, pI_f, pI_c, pL_e, pL_f, pL_c, pI_L, pL_I, qB_1, qZb_n, true_and, and_true, forall_const, not_true_eq_false, not_false_eq_true, Nat.reduceLT, Nat.reduceLeDiff, Nat.reduceEqDiff, Nat.reduceAdd, Nat.reduceMul, Nat.reduceSub, Nat.reduceMod, Nat.reduceDiv, false_implies, implies_true]
    · rw [(f 50 (by decide)).1]; simp (disch := omega) only [li, ll, nI_add, nI_mul', nI_sub', nI_div', qRem_nI, lN_add, lN_mul, lN_sub, lN_div', qRemL_lN, qIn_I, qIx_nI, nI_ltI, nI_leI, nI_eq, nI_eqn, nI_eqn', nI_len, nI_ltn, nI_nle', nI_nlt', lN_eqn, lg_lt, lg_gt, lg_eq, lg_le, lg_ge, lgn_lt, lgn_gt, lgn_eq, lgn_le, lgn_ge, pk_lLT, pk_lLE, pk_lEQ, nI_l, lN_i, qShl_n, nI_and, nI_or, lN_and, lN_or, nI_andn, lN_andn, pI_e, pI_f, pI_c, pL_e, pL_f, pL_c, pI_L, pL_I, qB_1, qZb_n, true_and, and_true, forall_const, not_true_eq_false, not_false_eq_true, Nat.reduceLT, Nat.reduceLeDiff, Nat.reduceEqDiff, Nat.reduceAdd, Nat.reduceMul, Nat.reduceSub, Nat.reduceMod, Nat.reduceDiv, false_implies, implies_true]
    · rw [(f 50 (by decide)).1]; simp (disch := omega) only [li, ll, nI_add, nI_mul', nI_sub', nI_div', qRem_nI, lN_add, lN_mul, lN_sub, lN_div', qRemL_lN, qIn_I, qIx_nI, nI_ltI, nI_leI, nI_eq, nI_eqn, nI_eqn', nI_len, nI_ltn, nI_nle', nI_nlt', lN_eqn, lg_lt, lg_gt, lg_eq, lg_le, lg_ge, lgn_lt, lgn_gt, lgn_eq, lgn_le, lgn_ge, pk_lLT, pk_lLE, pk_lEQ, nI_l, lN_i, qShl_n, nI_and, nI_or, lN_and, lN_or, nI_andn, lN_andn, pI_e, pI_f, pI_c, pL_e, pL_f, pL_c, pI_L, pL_I, qB_1, qZb_n, true_and, and_true, forall_const, not_true_eq_false, not_false_eq_true, Nat.reduceLT, Nat.reduceLeDiff, Nat.reduceEqDiff, Nat.reduceAdd, Nat.reduceMul, Nat.reduceSub, Nat.reduceMod, Nat.reduceDiv, false_implies, implies_true]
  · intro i w2 hi ⟨f, h⟩ ih
    refine A_Voices_layRow_36 ?_
    have e0 : w2.1 2 0 = nI (N 0 0) := by rw [(f 2 (by decide)).1]; simp (disch := omega) only [li, ll, nI_add, nI_mul', nI_sub', nI_div', qRem_nI, lN_add, lN_mul, lN_sub, lN_div', qRemL_lN, qIn_I, qIx_nI, nI_ltI, nI_leI, nI_eq, nI_eqn, nI_eqn', nI_len, nI_ltn, nI_nle', nI_nlt', lN_eqn, lg_lt, lg_gt, lg_eq, lg_le, lg_ge, lgn_lt, lgn_gt, lgn_eq, lgn_le, lgn_ge, pk_lLT, pk_lLE, pk_lEQ, nI_l, lN_i, qShl_n, nI_and, nI_or, lN_and, lN_or, nI_andn, lN_andn, pI_e, pI_f, pI_c, pL_e, pL_f, pL_c, pI_L, pL_I, qB_1, qZb_n, true_and, and_true, forall_const, not_true_eq_false, not_false_eq_true, Nat.reduceLT, Nat.reduceLeDiff, Nat.reduceEqDiff, Nat.reduceAdd, Nat.reduceMul, Nat.reduceSub, Nat.reduceMod, Nat.reduceDiv, false_implies, implies_true]; exact r.ppl
    have e3 : w2.1 3 i = nI (N 10 i) := by rw [(f 3 (by decide)).1]; simp (disch := omega) only [li, ll, nI_add, nI_mul', nI_sub', nI_div', qRem_nI, lN_add, lN_mul, lN_sub, lN_div', qRemL_lN, qIn_I, qIx_nI, nI_ltI, nI_leI, nI_eq, nI_eqn, nI_eqn', nI_len, nI_ltn, nI_nle', nI_nlt', lN_eqn, lg_lt, lg_gt, lg_eq, lg_le, lg_ge, lgn_lt, lgn_gt, lgn_eq, lgn_le, lgn_ge, pk_lLT, pk_lLE, pk_lEQ, nI_l, lN_i, qShl_n, nI_and, nI_or, lN_and, lN_or, nI_andn, lN_andn, pI_e, pI_f, pI_c, pL_e, pL_f, pL_c, pI_L, pL_I, qB_1, qZb_n, true_and, and_true, forall_const, not_true_eq_false, not_false_eq_true, Nat.reduceLT, Nat.reduceLeDiff, Nat.reduceEqDiff, Nat.reduceAdd, Nat.reduceMul, Nat.reduceSub, Nat.reduceMod, Nat.reduceDiv, false_implies, implies_true]; exact r.num i hi
    have e4 : w2.1 4 i = nI (N 11 i) := by rw [(f 4 (by decide)).1]; simp (disch := omega) only [li, ll, nI_add, nI_mul', nI_sub', nI_div', qRem_nI, lN_add, lN_mul, lN_sub, lN_div', qRemL_lN, qIn_I, qIx_nI, nI_ltI, nI_leI, nI_eq, nI_eqn, nI_eqn', nI_len, nI_ltn, nI_nle', nI_nlt', lN_eqn, lg_lt, lg_gt, lg_eq, lg_le, lg_ge, lgn_lt, lgn_gt, lgn_eq, lgn_le, lgn_ge, pk_lLT, pk_lLE, pk_lEQ, nI_l, lN_i, qShl_n, nI_and, nI_or, lN_and, lN_or, nI_andn, lN_andn, pI_e, pI_f, pI_c, pL_e, pL_f, pL_c, pI_L, pL_I, qB_1, qZb_n, true_and, and_true, forall_const, not_true_eq_false, not_false_eq_true, Nat.reduceLT, Nat.reduceLeDiff, Nat.reduceEqDiff, Nat.reduceAdd, Nat.reduceMul, Nat.reduceSub, Nat.reduceMod, Nat.reduceDiv, false_implies, implies_true]; exact r.fst i hi
    have on := o.num i hi
    have of := o.fst i hi
    have hi12 : i < 12 := by omega
    rw [e0, nI_leI (by omega) (by omega), qIx_nI (by omega), e3]
    refine ⟨fun g => absurd g (by omega), fun _ => ⟨qIn_nI hi12 (by decide), c_max (a := 1) (by omega) (by decide) (by omega) ⟨qIn_nI hi12 (by decide), ?_⟩⟩⟩
    rw [Nat.max_eq_right on.1, e4, nI_l (by omega)]
    obtain ⟨a, ha1, ha2, ha3⟩ := due_from (f := N 11 i) (n := N 10 i) (st := st) (by omega)
    have inner : ∀ k m (w3 : qW), L - (a + N 10 i * m) ≤ k → fr (fun c => c = 52) w2 w3 → (∀ t, t < L → w3.1 52 t = nI (bitsOf (fun p => due N p (st + t)) i ||| (if due N i (st + t) && decide (t < a + N 10 i * m) then 2 ^ i else 0))) → a + N 10 i * m < 2 ^ 62 → qAt s d c_Voices_layRow (qQv R) 100 [some (.ref 50), some (.long (lN st)), none, none, some (.int (nI i)), some (.int (nI (N 10 i))), none, none, some (.long (lN (a + N 10 i * m))), none] [] w3 := by
      intro k
      induction k with
      | zero =>
        intro m w3 hk f3 h3 hb
        refine A_Voices_layRow_100 ?_
        have e6 : w3.1 50 6 = nI L := by rw [(f3 50 (by decide)).1, (f 50 (by decide)).1]; simp (disch := omega) only [li, ll, nI_add, nI_mul', nI_sub', nI_div', qRem_nI, lN_add, lN_mul, lN_sub, lN_div', qRemL_lN, qIn_I, qIx_nI, nI_ltI, nI_leI, nI_eq, nI_eqn, nI_eqn', nI_len, nI_ltn, nI_nle', nI_nlt', lN_eqn, lg_lt, lg_gt, lg_eq, lg_le, lg_ge, lgn_lt, lgn_gt, lgn_eq, lgn_le, lgn_ge, pk_lLT, pk_lLE, pk_lEQ, nI_l, lN_i, qShl_n, nI_and, nI_or, lN_and, lN_or, nI_andn, lN_andn, pI_e, pI_f, pI_c, pL_e, pL_f, pL_c, pI_L, pL_I, qB_1, qZb_n, true_and, and_true, forall_const, not_true_eq_false, not_false_eq_true, Nat.reduceLT, Nat.reduceLeDiff, Nat.reduceEqDiff, Nat.reduceAdd, Nat.reduceMul, Nat.reduceSub, Nat.reduceMod, Nat.reduceDiv, false_implies, implies_true]
        rw [e6, nI_l (by omega), lg_ge, pk_lLE (by omega) (by omega)]
        refine ⟨fun _ => ?_, fun g => absurd (by omega) g⟩
        rw [nI_1]
        refine ih w3 ⟨fr_tr f f3, fun t ht => ?_⟩
        rw [h3 t ht, decide_eq_true (by omega), Bool.and_true]
        rfl
      | succ k ihk =>
        intro m w3 hk f3 h3 hb
        refine A_Voices_layRow_100 ?_
        have e6 : w3.1 50 6 = nI L := by rw [(f3 50 (by decide)).1, (f 50 (by decide)).1]; simp (disch := omega) only [li, ll, nI_add, nI_mul', nI_sub', nI_div', qRem_nI, lN_add, lN_mul, lN_sub, lN_div', qRemL_lN, qIn_I, qIx_nI, nI_ltI, nI_leI, nI_eq, nI_eqn, nI_eqn', nI_len, nI_ltn, nI_nle', nI_nlt', lN_eqn, lg_lt, lg_gt, lg_eq, lg_le, lg_ge, lgn_lt, lgn_gt, lgn_eq, lgn_le, lgn_ge, pk_lLT, pk_lLE, pk_lEQ, nI_l, lN_i, qShl_n, nI_and, nI_or, lN_and, lN_or, nI_andn, lN_andn, pI_e, pI_f, pI_c, pL_e, pL_f, pL_c, pI_L, pL_I, qB_1, qZb_n, true_and, and_true, forall_const, not_true_eq_false, not_false_eq_true, Nat.reduceLT, Nat.reduceLeDiff, Nat.reduceEqDiff, Nat.reduceAdd, Nat.reduceMul, Nat.reduceSub, Nat.reduceMod, Nat.reduceDiv, false_implies, implies_true]
        rw [e6, nI_l (by omega), lg_ge, pk_lLE (by omega) (by omega)]
        refine ⟨fun g => ?_, fun g => ?_⟩
        · rw [nI_1]
          refine ih w3 ⟨fr_tr f f3, fun t ht => ?_⟩
          rw [h3 t ht, decide_eq_true (by omega), Bool.and_true]
          rfl
        · have hj : a + N 10 i * m < L := by omega
          have hj2 : a + N 10 i * m < 1024 := by omega
          rw [lN_i, nI_l (by omega), lN_add, qIx_nI (by omega), h3 _ hj, li, qShl_n (by omega), nI_or]
          refine ⟨qIn_nI hj2 (by decide), qIn_nI hj2 (by decide), ?_⟩
          have em : a + N 10 i * m + N 10 i = a + N 10 i * (m + 1) := by rw [Nat.mul_succ]; omega
          rw [em]
          have dj : due N i (st + (a + N 10 i * m)) = true := by
            unfold due
            refine decide_eq_true ((ha3 _).mpr ⟨by omega, ?_⟩)
            have e : a + N 10 i * m - a = N 10 i * m := by omega
            rw [e, Nat.mul_mod_right]
          refine ihk (m + 1) _ (by omega) (fr_I f3 rfl) (fun t ht => ?_) (by omega)
          by_cases e : t = a + N 10 i * m
          · subst e
            rw [pI_e, dj, decide_eq_false (Nat.lt_irrefl _), decide_eq_true (by omega), if_neg (by decide), if_pos (by decide), Nat.or_zero]
          · rw [pI_f e, h3 t ht]
            congr 2
            cases hdu : due N i (st + t) with
            | false => rfl
            | true =>
              rw [Bool.true_and, Bool.true_and]
              have q1 := (ha3 t).mp (by unfold due at hdu; exact of_decide_eq_true hdu)
              have : decide (t < a + N 10 i * m) = decide (t < a + N 10 i * (m + 1)) := by
                rcases Nat.lt_or_ge t (a + N 10 i * (m + 1)) with g2 | g2
                · rw [decide_eq_true g2]
                  rcases step_next (m := m) (by omega) q1 (by omega) with g3 | g3
                  · exact decide_eq_true g3
                  · exact absurd g3 e
                · rw [decide_eq_false (by omega), decide_eq_false (by omega)]
              rw [this]
    have start : qAt s d c_Voices_layRow (qQv R) 100 [some (.ref 50), some (.long (lN st)), none, none, some (.int (nI i)), some (.int (nI (N 10 i))), none, none, some (.long (lN a)), none] [] w2 := by
      have ab : a < 2 ^ 62 := by
        rcases Nat.lt_or_ge (N 11 i) st with g | g
        · have := ha1 g
          have h2 := Int.emod_lt_of_pos ((N 11 i : Int) - (st : Int)) (b := (N 10 i : Int)) (by omega)
          omega
        · have := ha2 g
          omega
      refine inner L 0 w2 (by omega) (fr_rf _ _) (fun t ht => ?_) (by omega)
      rw [h t ht]
      congr 1
      have : (due N i (st + t) && decide (t < a + N 10 i * 0)) = false := by
        cases hdu : due N i (st + t) with
        | false => rfl
        | true =>
          have q1 := (ha3 t).mp (by unfold due at hdu; exact of_decide_eq_true hdu)
          rw [Bool.true_and]
          exact decide_eq_false (by omega)
      rw [this]
      simp
    rw [lN_Z, lN_Z st, lZ_sub, lg_ge, ll, lN_Z 0, lZ_le (by omega) (by omega)]
    refine ⟨fun g => ?_, fun g => ?_⟩
    · have e : (N 11 i : Int) - (st : Int) = ((a : Nat) : Int) := by rw [ha2 (by omega)]; omega
      rw [e, ← lN_Z, ← lN_Z]
      exact start
    · rw [nI_l (by omega)]
      refine c_floorMod (by omega) (by omega) (by omega) (by omega) (by omega) ?_
      rw [← ha1 (by omega), ← lN_Z, ← lN_Z]
      exact start
  · refine ⟨f1, fun t ht => ?_⟩
    rw [z1 t ht]; rfl
/-- the next mask is that of an hour -/
def vC (w : qW) (N : vS) (hr : Nat) : Prop := (w.1 50 8 = nI (hr % N 2 0)) ∧ (¬ N 1 0 = 0 → (w.1 50 6 = nI (N 1 0) ∧ (∀ t, t < N 1 0 → w.1 52 t = nI (bitsOf (fun p => due N p t) (N 0 0))) ∧ ∃ a, w.1 50 7 = nI a ∧ a ≤ N 1 0 ∧ a % N 1 0 = hr % N 1 0)) ∧ (N 1 0 = 0 → ∃ st L a, w.2.1 50 5 = lN st ∧ w.1 50 6 = nI L ∧ 1 ≤ L ∧ L ≤ 1024 ∧ w.1 50 7 = nI a ∧ a ≤ L ∧ st + a = hr ∧ ∀ t, t < L → w.1 52 t = nI (bitsOf (fun p => due N p (st + t)) (N 0 0)))
theorem vC.ck {w : qW} {N : vS} {hr : Nat} (h : vC w N hr) : w.1 50 8 = nI (hr % N 2 0) := h.1
theorem vC.day {w : qW} {N : vS} {hr : Nat} (h : vC w N hr) : ¬ N 1 0 = 0 → (w.1 50 6 = nI (N 1 0) ∧ (∀ t, t < N 1 0 → w.1 52 t = nI (bitsOf (fun p => due N p t) (N 0 0))) ∧ ∃ a, w.1 50 7 = nI a ∧ a ≤ N 1 0 ∧ a % N 1 0 = hr % N 1 0) := h.2.1
theorem vC.row {w : qW} {N : vS} {hr : Nat} (h : vC w N hr) : N 1 0 = 0 → ∃ st L a, w.2.1 50 5 = lN st ∧ w.1 50 6 = nI L ∧ 1 ≤ L ∧ L ≤ 1024 ∧ w.1 50 7 = nI a ∧ a ≤ L ∧ st + a = hr ∧ ∀ t, t < L → w.1 52 t = nI (bitsOf (fun p => due N p (st + t)) (N 0 0)) := h.2.2
theorem vC.mk {w : qW} {N : vS} {hr : Nat} (f_ck : w.1 50 8 = nI (hr % N 2 0)) (f_day : ¬ N 1 0 = 0 → (w.1 50 6 = nI (N 1 0) ∧ (∀ t, t < N 1 0 → w.1 52 t = nI (bitsOf (fun p => due N p t) (N 0 0))) ∧ ∃ a, w.1 50 7 = nI a ∧ a ≤ N 1 0 ∧ a % N 1 0 = hr % N 1 0)) (f_row : N 1 0 = 0 → ∃ st L a, w.2.1 50 5 = lN st ∧ w.1 50 6 = nI L ∧ 1 ≤ L ∧ L ≤ 1024 ∧ w.1 50 7 = nI a ∧ a ≤ L ∧ st + a = hr ∧ ∀ t, t < L → w.1 52 t = nI (bitsOf (fun p => due N p (st + t)) (N 0 0))) : vC w N hr := ⟨f_ck, f_day, f_row⟩
theorem vC_fr {w w' : qW} {h : Nat} {A : Nat → Prop} (hC : vC w N h) (f : fr A w w') (hA : ¬ A 50 ∧ ¬ A 52) : vC w' N h := by
  unfold vC at *
  rw [(f 50 hA.1).1, (f 50 hA.1).2, (f 52 hA.2).1]
  exact hC
theorem rX.rw {w' : qW} (h : rX w N K T Z) (f : fr (fun c => c = 50 ∨ c = 52) w w') : rX w' N K T Z := h.keep f (fun c => ⟨fun _ _ => by omega, by omega⟩)
theorem c_begin {h n : Nat} (hd : 4 ≤ d) (hX : rX w N K T Z) (hh : h < 2 ^ 61) (hn : 1 ≤ n) (hn2 : n < 2 ^ 31) (hQ : ∀ w', fr (fun c => c = 50 ∨ c = 52) w w' → vC w' N h → R w') : qCall (some s) d 128 [.ref 50, .long (lN h), .int (nI n)] w (qQv R) := by
  obtain ⟨d, rfl, hd1⟩ := dS hd
  have r := hX.n
  have o := hX.okn
  have oc := o.clk
  have od := o.day
  have hm : h % N 2 0 < N 2 0 := Nat.mod_lt _ (by omega)
  refine A_Voices_begin ?_
  rw [r.clk, r.day, nI_l (by omega), qRemL_lN (by omega) (by omega) (by omega), lN_i, ll, pk_lEQ (by omega) (by omega), li, nI_leI (by omega) (by omega)]
  have f1 : fr (fun c => c = 50 ∨ c = 52) w (qPutI w 50 8 (nI (h % N 2 0))) := fr_pI (by decide)
  have hX1 := hX.rw f1
  refine ⟨by omega, fun g => ?_, fun g => ?_⟩
  · refine c_min (b := 1024) (by omega) hn2 (by decide) (c_layRow hd1 hX1 (by omega) (by omega) (by omega) ?_)
    intro w2 f2 e5 e6 e7 e8 er
    refine hQ _ (fr_I (fr_tr f1 f2) (by decide)) (vC.mk ?_ (fun q => absurd (by omega) q) (fun _ => ⟨h, min (min n 1024) 1024, 0, ?_, ?_, by omega, by omega, ?_, by omega, by omega, ?_⟩))
    · rw [pI_f (by decide), e8, pI_e]
    · rw [pI_L]; exact e5
    · rw [pI_f (by decide)]; exact e6
    · rw [pI_e]
    · intro t ht; rw [pI_c (by decide)]; exact er t ht
  · refine c_layRow (st := 0) hd1 hX1 (by omega) (by omega) (by omega) ?_
    intro w2 f2 e5 e6 e7 e8 er
    have hX2 := hX1.rw f2
    have hm2 : h % N 1 0 < N 1 0 := Nat.mod_lt _ (by omega)
    have eL : min (N 1 0) 1024 = N 1 0 := by omega
    rw [eL] at e6 er
    rw [hX2.n.day, nI_l (by omega), pk_lEQ (by omega) (by omega), qRemL_lN (by omega) (by omega) (by omega), lN_i]
    refine ⟨by omega, ?_⟩
    refine hQ _ (fr_I (fr_tr f1 f2) (by decide)) (vC.mk ?_ (fun _ => ⟨?_, ?_, h % N 1 0, ?_, by omega, Nat.mod_mod _ _⟩) (fun q => absurd q (by omega)))
    · rw [pI_f (by decide), e8, pI_e]
    · rw [pI_f (by decide)]; exact e6
    · intro t ht
      have := er t ht
      rw [pI_c (by decide), this]
      simp only [Nat.zero_add]
    · rw [pI_e]
theorem mod_succ {h c : Nat} (hc : 0 < c) : (h + 1) % c = if h % c + 1 < c then h % c + 1 else 0 := by
  have e := Nat.div_add_mod h c
  have hm := Nat.mod_lt h hc
  have e2 : h + 1 = c * (h / c) + (h % c + 1) := by omega
  by_cases g : h % c + 1 < c
  · rw [if_pos g, e2, Nat.mul_add_mod, Nat.mod_eq_of_lt g]
  · have g2 : h % c + 1 = c := by omega
    rw [if_neg g, e2, g2, Nat.mul_add_mod, Nat.mod_self]
theorem nm44 {h a : Nat} (hX : rX w N K T Z) (e8 : w.1 50 8 = nI (h % N 2 0)) (e7 : w.1 50 7 = nI a) (ha : a < 1024) (er : w.1 52 a = nI (bitsOf (fun p => due N p (if N 1 0 = 0 then h else h % N 1 0)) (N 0 0))) (hQ : Q (nI (spkM T N h)) (qPutI (qPutI w 50 7 (nI (a + 1))) 50 8 (nI ((h + 1) % N 2 0)))) : qAt s d c_Voices_nextMask (qQi Q) 44 [some (.ref 50), none] [] w := by
  have oc := hX.okn.clk
  have hm : h % N 2 0 < N 2 0 := Nat.mod_lt _ (by omega)
  obtain ⟨n, en, n4, hn⟩ := hX.opn _ hm
  refine A_Voices_nextMask_44 ?_
  rw [e8, e7, hX.n.clk, nI_1, nI_1, qIx_nI (by omega), qIx_nI (by omega), er, en, nI_and, nI_leI (by omega) (by omega)]
  have em : bitsOf (fun p => due N p (if N 1 0 = 0 then h else h % N 1 0)) (N 0 0) &&& n = spkM T N h := by
    apply bits_ext
    intro q
    unfold spkM
    rw [Nat.testBit_and, bitsOf_bit, bitsOf_bit]
    by_cases g : q < N 0 0
    · rw [hn q g, decide_eq_true g]; rfl
    · rw [decide_eq_false g]; rfl
  rw [em]
  refine ⟨qIn_nI ha (by decide), qIn_nI (by omega) (by decide), fun g => ?_, fun g => ?_⟩
  · rw [mod_succ (by omega), if_neg (by omega)] at hQ; exact hQ
  · rw [mod_succ (by omega), if_pos (by omega)] at hQ; exact hQ
theorem c_nextMask {h : Nat} (hd : 4 ≤ d) (hX : rX w N K T Z) (hC : vC w N h) (hh : h < 2 ^ 60) (hQ : ∀ w', fr (fun c => c = 50 ∨ c = 52) w w' → vC w' N (h + 1) → Q (nI (spkM T N h)) w') : qCall (some s) d 132 [.ref 50] w (qQi Q) := by
  obtain ⟨d, rfl, hd1⟩ := dS hd
  have o := hX.okn
  have oc := o.clk
  have od := o.day
  refine A_Voices_nextMask ?_
  by_cases gd : N 1 0 = 0
  · obtain ⟨st, L, a, e5, e6, hL1, hL2, e7, ha, eh, er⟩ := hC.row gd
    rw [e6, e7, e5, hX.n.day, gd, nI_ltI (by omega) (by omega)]
    refine ⟨fun g => ?_, fun g => ⟨fun q => absurd rfl q, fun _ => ?_⟩⟩
    · refine nm44 hX hC.ck e7 (by omega) ?_ ?_
      · rw [if_pos gd, er a g, eh]
      · refine hQ _ (fr_I (fr_pI (by decide)) (by decide)) (vC.mk ?_ (fun q => absurd gd q) (fun _ => ⟨st, L, a + 1, ?_, ?_, hL1, hL2, ?_, by omega, by omega, ?_⟩))
        · rw [pI_e]
        · exact e5
        · rw [pI_f (by decide), pI_f (by decide)]; exact e6
        · rw [pI_f (by decide), pI_e]
        · intro t ht; rw [pI_c (by decide), pI_c (by decide)]; exact er t ht
    · have ea : a = L := by omega
      subst ea
      rw [nI_l (by omega), lN_add, eh]
      refine c_layRow hd1 hX (by omega) hL1 (by omega) ?_
      intro w2 f2 e52 e62 e72 e82 er2
      have eL : min a 1024 = a := by omega
      rw [eL] at e62 er2
      have f3 : fr (fun c => c = 50 ∨ c = 52) w (qPutI w2 50 7 (0 : Int32)) := fr_I f2 (by decide)
      refine nm44 (a := 0) (h := h) (hX.rw f3) ?_ ?_ (by omega) ?_ ?_
      · rw [pI_f (by decide), e82]; exact hC.ck
      · rw [pI_e]; rfl
      · rw [pI_c (by decide), if_pos gd, er2 0 (by omega)]; rfl
      · refine hQ _ (fr_I (fr_I f3 (by decide)) (by decide)) (vC.mk ?_ (fun q => absurd gd q) (fun _ => ⟨h, a, 1, ?_, ?_, hL1, hL2, ?_, by omega, by omega, ?_⟩))
        · rw [pI_e]
        · exact e52
        · rw [pI_f (by decide), pI_f (by decide), pI_f (by decide)]; exact e62
        · rw [pI_f (by decide), pI_e]
        · intro t ht; rw [pI_c (by decide), pI_c (by decide), pI_c (by decide)]; exact er2 t ht
  · obtain ⟨e6, er, a, e7, ha, eh⟩ := hC.day gd
    have hd0 : 0 < N 1 0 := by omega
    have hm2 : h % N 1 0 < N 1 0 := Nat.mod_lt _ hd0
    rw [e6, e7, hX.n.day, nI_ltI (by omega) (by omega), eq0 (a := N 1 0) (by omega)]
    refine ⟨fun g => ?_, fun g => ⟨fun _ => ?_, fun q => absurd q gd⟩⟩
    · have ea : a = h % N 1 0 := by rw [← eh, Nat.mod_eq_of_lt g]
      refine nm44 hX hC.ck e7 (by omega) ?_ ?_
      · rw [if_neg gd, er a g, ea]
      · refine hQ _ (fr_I (fr_pI (by decide)) (by decide)) (vC.mk ?_ (fun _ => ⟨?_, ?_, a + 1, ?_, by omega, ?_⟩) (fun q => absurd q gd))
        · rw [pI_e]
        · rw [pI_f (by decide), pI_f (by decide)]; exact e6
        · intro t ht; rw [pI_c (by decide), pI_c (by decide)]; exact er t ht
        · rw [pI_f (by decide), pI_e]
        · rw [mod_succ hd0, mod_succ hd0, eh]
    · have ea : a = N 1 0 := by omega
      have eh0 : h % N 1 0 = 0 := by rw [← eh, ea, Nat.mod_self]
      have f3 : fr (fun c => c = 50 ∨ c = 52) w (qPutI w 50 7 (0 : Int32)) := fr_pI (by decide)
      refine nm44 (a := 0) (h := h) (hX.rw f3) ?_ ?_ (by omega) ?_ ?_
      · rw [pI_f (by decide)]; exact hC.ck
      · rw [pI_e]; rfl
      · rw [pI_c (by decide), if_neg gd, er 0 (by omega), eh0]
      · refine hQ _ (fr_I (fr_I f3 (by decide)) (by decide)) (vC.mk ?_ (fun _ => ⟨?_, ?_, 1, ?_, by omega, ?_⟩) (fun q => absurd q gd))
        · rw [pI_e]
        · rw [pI_f (by decide), pI_f (by decide), pI_f (by decide)]; exact e6
        · intro t ht; rw [pI_c (by decide), pI_c (by decide), pI_c (by decide)]; exact er t ht
        · rw [pI_f (by decide), pI_e]
        · rw [mod_succ (h := h) hd0, eh0]
          by_cases g1 : 0 + 1 < N 1 0
          · rw [if_pos g1, Nat.mod_eq_of_lt (by omega)]
          · omega
end Rows
