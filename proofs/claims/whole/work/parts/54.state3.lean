/-! heard, near, end, fault, on both sides. -/
section State3
variable {s : Nat × (Nat → Int32)} {d : Nat} {w : qW} {Q : Int32 → qW → Prop} {N K : vS} {T : Nat → vT} {Z : vZ}
def vHd (N : vS) (h : Int32) : Prop := (0 ≤ h ∧ h ≤ 999999) ∧ N 8 0 < 20
def nHd (N : vS) (h i : Int32) : vS := sPut (sPut (sPut N 18 (N 8 0) (qIx h)) 19 (N 8 0) (if i = 0 then 0 else 1)) 8 0 (N 8 0 + 1)
theorem nHd_ok {h i : Int32} (o : okS N) (g : vHd N h) : okS (nHd N h i) := by
  obtain ⟨g1, g2⟩ := g
  obtain ⟨x, hx, hx2, ea, ea2⟩ := nI_rng 0 999999 g1.1 g1.2
  have e19 : (if i = 0 then 0 else 1) < 2 := by split <;> omega
  unfold nHd
  rw [ea2]
  revert e19
  generalize (if i = 0 then 0 else 1) = v
  intro e19
  (refine okS.mk ?_ ?_ ?_ ?_ ?_ ?_ ?_ ?_ ?_ ?_ ?_ ?_ ?_ ?_ ?_ ?_); (all_goals (try simp (disch := omega) only [li, ll, nI_add, nI_mul', nI_sub', nI_div', qRem_nI, lN_add, lN_mul, lN_sub, lN_div', qRemL_lN, qIn_I, qIx_nI, nI_ltI, nI_leI, nI_eq, nI_eqn, nI_eqn', nI_len, nI_ltn, nI_nle', nI_nlt', lN_eqn, lg_lt, lg_gt, lg_eq, lg_le, lg_ge, pk_lLT, pk_lLE, pk_lEQ, nI_l, lN_i, qShl_n, nI_and, nI_or, lN_and, lN_or, nI_andn, lN_andn, pI_e, pI_f, pI_c, pL_e, pL_f, pL_c, pI_L, pL_I, qB_1, qZb_n, true_and, and_true, forall_const, not_true_eq_false, not_false_eq_true, Nat.reduceLT, Nat.reduceLeDiff, Nat.reduceEqDiff, Nat.reduceAdd, Nat.reduceMul, Nat.reduceSub, Nat.reduceMod, Nat.reduceDiv, false_implies, implies_true, sP_e, sP_f, sP_c])); (all_goals try (first | done | (first | done | exact o.p12 | exact o.day | exact o.clk | exact o.txs | exact o.rul | exact o.tks | exact o.gvs | exact o.nds | exact o.hds | exact o.num | exact o.fst | exact o.nr | exact o.gv | exact o.need | exact o.hrd | exact o.tlk) | (intro i hi; (try simp (disch := omega) only [li, ll, nI_add, nI_mul', nI_sub', nI_div', qRem_nI, lN_add, lN_mul, lN_sub, lN_div', qRemL_lN, qIn_I, qIx_nI, nI_ltI, nI_leI, nI_eq, nI_eqn, nI_eqn', nI_len, nI_ltn, nI_nle', nI_nlt', lN_eqn, lg_lt, lg_gt, lg_eq, lg_le, lg_ge, pk_lLT, pk_lLE, pk_lEQ, nI_l, lN_i, qShl_n, nI_and, nI_or, lN_and, lN_or, nI_andn, lN_andn, pI_e, pI_f, pI_c, pL_e, pL_f, pL_c, pI_L, pL_I, qB_1, qZb_n, true_and, and_true, forall_const, not_true_eq_false, not_false_eq_true, Nat.reduceLT, Nat.reduceLeDiff, Nat.reduceEqDiff, Nat.reduceAdd, Nat.reduceMul, Nat.reduceSub, Nat.reduceMod, Nat.reduceDiv, false_implies, implies_true, sP_e, sP_f, sP_c]); first | exact o.num i hi | exact o.fst i hi | exact o.nr i hi | exact o.gv i hi | exact o.need i hi | exact o.hrd i hi | exact o.tlk i hi)))
  · omega
  · intro j hj
    by_cases q : j = N 8 0
    · subst q
      simp (disch := omega) only [li, ll, nI_add, nI_mul', nI_sub', nI_div', qRem_nI, lN_add, lN_mul, lN_sub, lN_div', qRemL_lN, qIn_I, qIx_nI, nI_ltI, nI_leI, nI_eq, nI_eqn, nI_eqn', nI_len, nI_ltn, nI_nle', nI_nlt', lN_eqn, lg_lt, lg_gt, lg_eq, lg_le, lg_ge, pk_lLT, pk_lLE, pk_lEQ, nI_l, lN_i, qShl_n, nI_and, nI_or, lN_and, lN_or, nI_andn, lN_andn, pI_e, pI_f, pI_c, pL_e, pL_f, pL_c, pI_L, pL_I, qB_1, qZb_n, true_and, and_true, forall_const, not_true_eq_false, not_false_eq_true, Nat.reduceLT, Nat.reduceLeDiff, Nat.reduceEqDiff, Nat.reduceAdd, Nat.reduceMul, Nat.reduceSub, Nat.reduceMod, Nat.reduceDiv, false_implies, implies_true, sP_e, sP_f, sP_c]
      exact ⟨hx2, e19⟩
    · simp (disch := omega) only [li, ll, nI_add, nI_mul', nI_sub', nI_div', qRem_nI, lN_add, lN_mul, lN_sub, lN_div', qRemL_lN, qIn_I, qIx_nI, nI_ltI, nI_leI, nI_eq, nI_eqn, nI_eqn', nI_len, nI_ltn, nI_nle', nI_nlt', lN_eqn, lg_lt, lg_gt, lg_eq, lg_le, lg_ge, pk_lLT, pk_lLE, pk_lEQ, nI_l, lN_i, qShl_n, nI_and, nI_or, lN_and, lN_or, nI_andn, lN_andn, pI_e, pI_f, pI_c, pL_e, pL_f, pL_c, pI_L, pL_I, qB_1, qZb_n, true_and, and_true, forall_const, not_true_eq_false, not_false_eq_true, Nat.reduceLT, Nat.reduceLeDiff, Nat.reduceEqDiff, Nat.reduceAdd, Nat.reduceMul, Nat.reduceSub, Nat.reduceMod, Nat.reduceDiv, false_implies, implies_true, sP_e, sP_f, sP_c]
      exact o.hrd j (by omega)
theorem bit_or_pow (n k j : Nat) : (n ||| 2 ^ k).testBit j = (n.testBit j || decide (k = j)) := by
  rw [Nat.testBit_or, Nat.testBit_two_pow]
theorem bit_hi {n k j : Nat} (h : n < 2 ^ k) (hj : k ≤ j) : n.testBit j = false := Nat.testBit_lt_two_pow (Nat.lt_of_lt_of_le h (Nat.pow_le_pow_right (by decide) hj))
theorem p20 {k : Nat} (h : k ≤ 20) : 2 ^ k ≤ 1048576 := Nat.pow_le_pow_right (n := 2) (i := k) (j := 20) (by decide) h
theorem c_heard {h i : Int32} (hd : 2 ≤ d) (hX : rX w N K T Z) (hy : ∀ w', vHd N h → rX w' (nHd N h i) K T Z → fr (fun c => c < 72) w w' → Q (nI (N 8 0 + 1)) w') (hn : ¬ vHd N h → Q (-1) w) : qCall (some s) d 178 [.ref 1, .int h, .int i] w (qQi Q) := by
  obtain ⟨d, rfl, hd1⟩ := dS hd
  obtain ⟨d, rfl, -⟩ := dS hd1
  have r := hX.n
  have o := hX.okn
  have o8 := o.hds
  refine A_X_heard ⟨fun g => hn (fun q => absurd g (Int32.not_lt.mpr q.1.1)), fun g1 => ⟨fun g => hn (fun q => absurd g (Int32.not_lt.mpr q.1.2)), fun g2 => ?_⟩⟩
  simp only [r.hds]
  refine ⟨fun e => absurd e (nI_pos (by omega)), fun _ => ⟨fun g3 => A_State_addHeard ?_, fun g3 => hn (fun q => g3 (nI_lt (b := 20) q.2 (by decide)))⟩⟩
  simp (disch := omega) only [li, ll, nI_add, nI_mul', nI_sub', nI_div', qRem_nI, lN_add, lN_mul, lN_sub, lN_div', qRemL_lN, qIn_I, qIx_nI, nI_ltI, nI_leI, nI_eq, nI_eqn, nI_eqn', nI_len, nI_ltn, nI_nle', nI_nlt', lN_eqn, lg_lt, lg_gt, lg_eq, lg_le, lg_ge, pk_lLT, pk_lLE, pk_lEQ, nI_l, lN_i, qShl_n, nI_and, nI_or, lN_and, lN_or, nI_andn, lN_andn, pI_e, pI_f, pI_c, pL_e, pL_f, pL_c, pI_L, pL_I, qB_1, qZb_n, true_and, and_true, forall_const, not_true_eq_false, not_false_eq_true, Nat.reduceLT, Nat.reduceLeDiff, Nat.reduceEqDiff, Nat.reduceAdd, Nat.reduceMul, Nat.reduceSub, Nat.reduceMod, Nat.reduceDiv, false_implies, implies_true] at g3
  have gg : vHd N h := ⟨⟨Int32.not_lt.mp g1, Int32.not_lt.mp g2⟩, g3⟩
  obtain ⟨x, hx, hx2, ea, ea2⟩ := nI_rng 0 999999 gg.1.1 gg.1.2
  obtain ⟨n, en, hn2, hn3⟩ := r.hIs
  have ok := nHd_ok (i := i) o gg
  have e1 : nHd N h i = sPut (sPut (sPut N 18 (N 8 0) x) 19 (N 8 0) (if i = 0 then 0 else 1)) 8 0 (N 8 0 + 1) := by unfold nHd; rw [ea2]
  rw [e1] at hy ok
  subst ea
  simp (disch := omega) only [li, ll, nI_add, nI_mul', nI_sub', nI_div', qRem_nI, lN_add, lN_mul, lN_sub, lN_div', qRemL_lN, qIn_I, qIx_nI, nI_ltI, nI_leI, nI_eq, nI_eqn, nI_eqn', nI_len, nI_ltn, nI_nle', nI_nlt', lN_eqn, lg_lt, lg_gt, lg_eq, lg_le, lg_ge, pk_lLT, pk_lLE, pk_lEQ, nI_l, lN_i, qShl_n, nI_and, nI_or, lN_and, lN_or, nI_andn, lN_andn, pI_e, pI_f, pI_c, pL_e, pL_f, pL_c, pI_L, pL_I, qB_1, qZb_n, true_and, and_true, forall_const, not_true_eq_false, not_false_eq_true, Nat.reduceLT, Nat.reduceLeDiff, Nat.reduceEqDiff, Nat.reduceAdd, Nat.reduceMul, Nat.reduceSub, Nat.reduceMod, Nat.reduceDiv, false_implies, implies_true, r.hds, en, g3]
  have hp : (2 : Nat) ^ (N 8 0 + 1) = 2 * 2 ^ N 8 0 := by rw [Nat.pow_succ]; omega
  refine ⟨fun (gi : i = 0) => ?_, fun (gi : ¬ i = 0) => ?_⟩
  · rw [if_pos gi] at hy ok
    refine hy _ gg ?_ (fr_I (fr_pI (by decide)) (by decide))
    refine hX.upd (A := fun c => c < 13) (fr_I (fr_pI (by decide)) (by decide)) (fun c _ _ => by omega) ?_ ok rfl hX.opn hX.op2
    (refine rS.mk ?_ ?_ ?_ ?_ ?_ ?_ ?_ ?_ ?_ ?_ ?_ ?_ ?_ ?_ ?_ ?_ ?_ ?_ ?_ ?_); (all_goals (try simp (disch := omega) only [li, ll, nI_add, nI_mul', nI_sub', nI_div', qRem_nI, lN_add, lN_mul, lN_sub, lN_div', qRemL_lN, qIn_I, qIx_nI, nI_ltI, nI_leI, nI_eq, nI_eqn, nI_eqn', nI_len, nI_ltn, nI_nle', nI_nlt', lN_eqn, lg_lt, lg_gt, lg_eq, lg_le, lg_ge, pk_lLT, pk_lLE, pk_lEQ, nI_l, lN_i, qShl_n, nI_and, nI_or, lN_and, lN_or, nI_andn, lN_andn, pI_e, pI_f, pI_c, pL_e, pL_f, pL_c, pI_L, pL_I, qB_1, qZb_n, true_and, and_true, forall_const, not_true_eq_false, not_false_eq_true, Nat.reduceLT, Nat.reduceLeDiff, Nat.reduceEqDiff, Nat.reduceAdd, Nat.reduceMul, Nat.reduceSub, Nat.reduceMod, Nat.reduceDiv, false_implies, implies_true, sP_e, sP_f, sP_c])); (all_goals try (first | done | (first | done | exact r.ppl | exact r.day | exact r.clk | exact r.txs | exact r.rul | exact r.tks | exact r.gvs | exact r.nds | exact r.hds | exact r.hIs | exact r.num | exact r.fst | exact r.nr | exact r.tkh | exact r.tkp | exact r.gv | exact r.ndp | exact r.nda | exact r.ndh | exact r.hrd) | (intro i hi; (try simp (disch := omega) only [li, ll, nI_add, nI_mul', nI_sub', nI_div', qRem_nI, lN_add, lN_mul, lN_sub, lN_div', qRemL_lN, qIn_I, qIx_nI, nI_ltI, nI_leI, nI_eq, nI_eqn, nI_eqn', nI_len, nI_ltn, nI_nle', nI_nlt', lN_eqn, lg_lt, lg_gt, lg_eq, lg_le, lg_ge, pk_lLT, pk_lLE, pk_lEQ, nI_l, lN_i, qShl_n, nI_and, nI_or, lN_and, lN_or, nI_andn, lN_andn, pI_e, pI_f, pI_c, pL_e, pL_f, pL_c, pI_L, pL_I, qB_1, qZb_n, true_and, and_true, forall_const, not_true_eq_false, not_false_eq_true, Nat.reduceLT, Nat.reduceLeDiff, Nat.reduceEqDiff, Nat.reduceAdd, Nat.reduceMul, Nat.reduceSub, Nat.reduceMod, Nat.reduceDiv, false_implies, implies_true, sP_e, sP_f, sP_c]); first | exact r.num i hi | exact r.fst i hi | exact r.nr i hi | exact r.tkh i hi | exact r.tkp i hi | exact r.gv i hi | exact r.ndp i hi | exact r.nda i hi | exact r.ndh i hi | exact r.hrd i hi)))
    · refine ⟨n, en, by omega, fun j hj => ?_⟩
      by_cases q : j = N 8 0
      · subst q
        rw [bit_hi hn2 (Nat.le_refl _)]
        simp (disch := omega) only [li, ll, nI_add, nI_mul', nI_sub', nI_div', qRem_nI, lN_add, lN_mul, lN_sub, lN_div', qRemL_lN, qIn_I, qIx_nI, nI_ltI, nI_leI, nI_eq, nI_eqn, nI_eqn', nI_len, nI_ltn, nI_nle', nI_nlt', lN_eqn, lg_lt, lg_gt, lg_eq, lg_le, lg_ge, pk_lLT, pk_lLE, pk_lEQ, nI_l, lN_i, qShl_n, nI_and, nI_or, lN_and, lN_or, nI_andn, lN_andn, pI_e, pI_f, pI_c, pL_e, pL_f, pL_c, pI_L, pL_I, qB_1, qZb_n, true_and, and_true, forall_const, not_true_eq_false, not_false_eq_true, Nat.reduceLT, Nat.reduceLeDiff, Nat.reduceEqDiff, Nat.reduceAdd, Nat.reduceMul, Nat.reduceSub, Nat.reduceMod, Nat.reduceDiv, false_implies, implies_true, sP_e, sP_c]
        decide
      · simp (disch := omega) only [li, ll, nI_add, nI_mul', nI_sub', nI_div', qRem_nI, lN_add, lN_mul, lN_sub, lN_div', qRemL_lN, qIn_I, qIx_nI, nI_ltI, nI_leI, nI_eq, nI_eqn, nI_eqn', nI_len, nI_ltn, nI_nle', nI_nlt', lN_eqn, lg_lt, lg_gt, lg_eq, lg_le, lg_ge, pk_lLT, pk_lLE, pk_lEQ, nI_l, lN_i, qShl_n, nI_and, nI_or, lN_and, lN_or, nI_andn, lN_andn, pI_e, pI_f, pI_c, pL_e, pL_f, pL_c, pI_L, pL_I, qB_1, qZb_n, true_and, and_true, forall_const, not_true_eq_false, not_false_eq_true, Nat.reduceLT, Nat.reduceLeDiff, Nat.reduceEqDiff, Nat.reduceAdd, Nat.reduceMul, Nat.reduceSub, Nat.reduceMod, Nat.reduceDiv, false_implies, implies_true, sP_f, sP_c]
        exact hn3 j (by omega)
    · intro j hj
      by_cases q : j = N 8 0
      · subst q
        simp (disch := omega) only [li, ll, nI_add, nI_mul', nI_sub', nI_div', qRem_nI, lN_add, lN_mul, lN_sub, lN_div', qRemL_lN, qIn_I, qIx_nI, nI_ltI, nI_leI, nI_eq, nI_eqn, nI_eqn', nI_len, nI_ltn, nI_nle', nI_nlt', lN_eqn, lg_lt, lg_gt, lg_eq, lg_le, lg_ge, pk_lLT, pk_lLE, pk_lEQ, nI_l, lN_i, qShl_n, nI_and, nI_or, lN_and, lN_or, nI_andn, lN_andn, pI_e, pI_f, pI_c, pL_e, pL_f, pL_c, pI_L, pL_I, qB_1, qZb_n, true_and, and_true, forall_const, not_true_eq_false, not_false_eq_true, Nat.reduceLT, Nat.reduceLeDiff, Nat.reduceEqDiff, Nat.reduceAdd, Nat.reduceMul, Nat.reduceSub, Nat.reduceMod, Nat.reduceDiv, false_implies, implies_true, sP_e, sP_f, sP_c]
      · simp (disch := omega) only [li, ll, nI_add, nI_mul', nI_sub', nI_div', qRem_nI, lN_add, lN_mul, lN_sub, lN_div', qRemL_lN, qIn_I, qIx_nI, nI_ltI, nI_leI, nI_eq, nI_eqn, nI_eqn', nI_len, nI_ltn, nI_nle', nI_nlt', lN_eqn, lg_lt, lg_gt, lg_eq, lg_le, lg_ge, pk_lLT, pk_lLE, pk_lEQ, nI_l, lN_i, qShl_n, nI_and, nI_or, lN_and, lN_or, nI_andn, lN_andn, pI_e, pI_f, pI_c, pL_e, pL_f, pL_c, pI_L, pL_I, qB_1, qZb_n, true_and, and_true, forall_const, not_true_eq_false, not_false_eq_true, Nat.reduceLT, Nat.reduceLeDiff, Nat.reduceEqDiff, Nat.reduceAdd, Nat.reduceMul, Nat.reduceSub, Nat.reduceMod, Nat.reduceDiv, false_implies, implies_true, sP_e, sP_f, sP_c]
        exact r.hrd j (by omega)
  · rw [if_neg gi] at hy ok
    refine hy _ gg ?_ (fr_I (fr_I (fr_pI (by decide)) (by decide)) (by decide))
    refine hX.upd (A := fun c => c < 13) (fr_I (fr_I (fr_pI (by decide)) (by decide)) (by decide)) (fun c _ _ => by omega) ?_ ok rfl hX.opn hX.op2
    (refine rS.mk ?_ ?_ ?_ ?_ ?_ ?_ ?_ ?_ ?_ ?_ ?_ ?_ ?_ ?_ ?_ ?_ ?_ ?_ ?_ ?_); (all_goals (try simp (disch := omega) only [li, ll, nI_add, nI_mul', nI_sub', nI_div', qRem_nI, lN_add, lN_mul, lN_sub, lN_div', qRemL_lN, qIn_I, qIx_nI, nI_ltI, nI_leI, nI_eq, nI_eqn, nI_eqn', nI_len, nI_ltn, nI_nle', nI_nlt', lN_eqn, lg_lt, lg_gt, lg_eq, lg_le, lg_ge, pk_lLT, pk_lLE, pk_lEQ, nI_l, lN_i, qShl_n, nI_and, nI_or, lN_and, lN_or, nI_andn, lN_andn, pI_e, pI_f, pI_c, pL_e, pL_f, pL_c, pI_L, pL_I, qB_1, qZb_n, true_and, and_true, forall_const, not_true_eq_false, not_false_eq_true, Nat.reduceLT, Nat.reduceLeDiff, Nat.reduceEqDiff, Nat.reduceAdd, Nat.reduceMul, Nat.reduceSub, Nat.reduceMod, Nat.reduceDiv, false_implies, implies_true, sP_e, sP_f, sP_c])); (all_goals try (first | done | (first | done | exact r.ppl | exact r.day | exact r.clk | exact r.txs | exact r.rul | exact r.tks | exact r.gvs | exact r.nds | exact r.hds | exact r.hIs | exact r.num | exact r.fst | exact r.nr | exact r.tkh | exact r.tkp | exact r.gv | exact r.ndp | exact r.nda | exact r.ndh | exact r.hrd) | (intro i hi; (try simp (disch := omega) only [li, ll, nI_add, nI_mul', nI_sub', nI_div', qRem_nI, lN_add, lN_mul, lN_sub, lN_div', qRemL_lN, qIn_I, qIx_nI, nI_ltI, nI_leI, nI_eq, nI_eqn, nI_eqn', nI_len, nI_ltn, nI_nle', nI_nlt', lN_eqn, lg_lt, lg_gt, lg_eq, lg_le, lg_ge, pk_lLT, pk_lLE, pk_lEQ, nI_l, lN_i, qShl_n, nI_and, nI_or, lN_and, lN_or, nI_andn, lN_andn, pI_e, pI_f, pI_c, pL_e, pL_f, pL_c, pI_L, pL_I, qB_1, qZb_n, true_and, and_true, forall_const, not_true_eq_false, not_false_eq_true, Nat.reduceLT, Nat.reduceLeDiff, Nat.reduceEqDiff, Nat.reduceAdd, Nat.reduceMul, Nat.reduceSub, Nat.reduceMod, Nat.reduceDiv, false_implies, implies_true, sP_e, sP_f, sP_c]); first | exact r.num i hi | exact r.fst i hi | exact r.nr i hi | exact r.tkh i hi | exact r.tkp i hi | exact r.gv i hi | exact r.ndp i hi | exact r.nda i hi | exact r.ndh i hi | exact r.hrd i hi)))
    · refine ⟨n ||| 2 ^ N 8 0, rfl, ?_, fun j hj => ?_⟩
      · exact Nat.or_lt_two_pow (by omega) (by omega)
      · rw [bit_or_pow]
        by_cases q : j = N 8 0
        · subst q
          rw [bit_hi hn2 (Nat.le_refl _)]
          simp (disch := omega) only [li, ll, nI_add, nI_mul', nI_sub', nI_div', qRem_nI, lN_add, lN_mul, lN_sub, lN_div', qRemL_lN, qIn_I, qIx_nI, nI_ltI, nI_leI, nI_eq, nI_eqn, nI_eqn', nI_len, nI_ltn, nI_nle', nI_nlt', lN_eqn, lg_lt, lg_gt, lg_eq, lg_le, lg_ge, pk_lLT, pk_lLE, pk_lEQ, nI_l, lN_i, qShl_n, nI_and, nI_or, lN_and, lN_or, nI_andn, lN_andn, pI_e, pI_f, pI_c, pL_e, pL_f, pL_c, pI_L, pL_I, qB_1, qZb_n, true_and, and_true, forall_const, not_true_eq_false, not_false_eq_true, Nat.reduceLT, Nat.reduceLeDiff, Nat.reduceEqDiff, Nat.reduceAdd, Nat.reduceMul, Nat.reduceSub, Nat.reduceMod, Nat.reduceDiv, false_implies, implies_true, sP_e, sP_c]
          simp
        · simp (disch := omega) only [li, ll, nI_add, nI_mul', nI_sub', nI_div', qRem_nI, lN_add, lN_mul, lN_sub, lN_div', qRemL_lN, qIn_I, qIx_nI, nI_ltI, nI_leI, nI_eq, nI_eqn, nI_eqn', nI_len, nI_ltn, nI_nle', nI_nlt', lN_eqn, lg_lt, lg_gt, lg_eq, lg_le, lg_ge, pk_lLT, pk_lLE, pk_lEQ, nI_l, lN_i, qShl_n, nI_and, nI_or, lN_and, lN_or, nI_andn, lN_andn, pI_e, pI_f, pI_c, pL_e, pL_f, pL_c, pI_L, pL_I, qB_1, qZb_n, true_and, and_true, forall_const, not_true_eq_false, not_false_eq_true, Nat.reduceLT, Nat.reduceLeDiff, Nat.reduceEqDiff, Nat.reduceAdd, Nat.reduceMul, Nat.reduceSub, Nat.reduceMod, Nat.reduceDiv, false_implies, implies_true, sP_f, sP_c]
          rw [hn3 j (by omega)]
          have : ¬ N 8 0 = j := fun e => q e.symm
          simp [this]
    · intro j hj
      by_cases q : j = N 8 0
      · subst q
        simp (disch := omega) only [li, ll, nI_add, nI_mul', nI_sub', nI_div', qRem_nI, lN_add, lN_mul, lN_sub, lN_div', qRemL_lN, qIn_I, qIx_nI, nI_ltI, nI_leI, nI_eq, nI_eqn, nI_eqn', nI_len, nI_ltn, nI_nle', nI_nlt', lN_eqn, lg_lt, lg_gt, lg_eq, lg_le, lg_ge, pk_lLT, pk_lLE, pk_lEQ, nI_l, lN_i, qShl_n, nI_and, nI_or, lN_and, lN_or, nI_andn, lN_andn, pI_e, pI_f, pI_c, pL_e, pL_f, pL_c, pI_L, pL_I, qB_1, qZb_n, true_and, and_true, forall_const, not_true_eq_false, not_false_eq_true, Nat.reduceLT, Nat.reduceLeDiff, Nat.reduceEqDiff, Nat.reduceAdd, Nat.reduceMul, Nat.reduceSub, Nat.reduceMod, Nat.reduceDiv, false_implies, implies_true, sP_e, sP_f, sP_c]
      · simp (disch := omega) only [li, ll, nI_add, nI_mul', nI_sub', nI_div', qRem_nI, lN_add, lN_mul, lN_sub, lN_div', qRemL_lN, qIn_I, qIx_nI, nI_ltI, nI_leI, nI_eq, nI_eqn, nI_eqn', nI_len, nI_ltn, nI_nle', nI_nlt', lN_eqn, lg_lt, lg_gt, lg_eq, lg_le, lg_ge, pk_lLT, pk_lLE, pk_lEQ, nI_l, lN_i, qShl_n, nI_and, nI_or, lN_and, lN_or, nI_andn, lN_andn, pI_e, pI_f, pI_c, pL_e, pL_f, pL_c, pI_L, pL_I, qB_1, qZb_n, true_and, and_true, forall_const, not_true_eq_false, not_false_eq_true, Nat.reduceLT, Nat.reduceLeDiff, Nat.reduceEqDiff, Nat.reduceAdd, Nat.reduceMul, Nat.reduceSub, Nat.reduceMod, Nat.reduceDiv, false_implies, implies_true, sP_e, sP_f, sP_c]
        exact r.hrd j (by omega)
theorem m_heard {h i : Int32} (hd : 2 ≤ d) (hX : rM w N K T Z) (hy : ∀ w', vHd N h → rM w' (nHd N h i) K T Z → fr (fun c => 72 ≤ c) w w' → Q (nI (N 8 0 + 1)) w') (hn : ¬ vHd N h → Q (-1) w) : qCall (some s) d 312 [.ref 72, .int h, .int i] w (qQi Q) := by
  obtain ⟨d, rfl, hd1⟩ := dS hd
  have r := hX.n
  have o := hX.okn
  have o0 := o.p12
  have o5 := o.tks
  have o6 := o.gvs
  have o7 := o.nds
  have o8 := o.hds
  refine A_Mo_heard (m_isInB hd1 (fun g => b1 ?_) (fun g => b0 (hn (fun q => g q.1))))
  obtain ⟨x, hx, hx2, ea, ea2⟩ := nI_rng 0 999999 g.1 g.2
  have e1 : nHd N h i = sPut (sPut (sPut N 18 (N 8 0) x) 19 (N 8 0) (if i = 0 then 0 else 1)) 8 0 (N 8 0 + 1) := by unfold nHd; rw [ea2]
  simp (disch := omega) only [li, ll, nI_add, nI_mul', nI_sub', nI_div', qRem_nI, lN_add, lN_mul, lN_sub, lN_div', qRemL_lN, qIn_I, qIx_nI, nI_ltI, nI_leI, nI_eq, nI_eqn, nI_eqn', nI_len, nI_ltn, nI_nle', nI_nlt', lN_eqn, lg_lt, lg_gt, lg_eq, lg_le, lg_ge, pk_lLT, pk_lLE, pk_lEQ, nI_l, lN_i, qShl_n, nI_and, nI_or, lN_and, lN_or, nI_andn, lN_andn, pI_e, pI_f, pI_c, pL_e, pL_f, pL_c, pI_L, pL_I, qB_1, qZb_n, true_and, and_true, forall_const, not_true_eq_false, not_false_eq_true, Nat.reduceLT, Nat.reduceLeDiff, Nat.reduceEqDiff, Nat.reduceAdd, Nat.reduceMul, Nat.reduceSub, Nat.reduceMod, Nat.reduceDiv, false_implies, implies_true, r.hds, ea]
  refine ⟨fun g6 => ⟨by omega, ?_⟩, fun e => hn (fun q => by have := q.2; omega)⟩
  have gg : vHd N h := ⟨g, by omega⟩
  have ok := nHd_ok (i := i) o gg
  rw [e1] at hy ok
  have fin : ∀ v : Nat, (if i = 0 then 0 else 1) = v → qAt s d c_Mo_heard (qQi Q) 72 [some (.ref 72), none, none] [.int (nI v), .int (nI (150 + 2 * N 8 0 + 1)), .ref 73] (qPutI w 73 (150 + 2 * N 8 0) (nI x)) := by
    intro v ev
    rw [ev] at hy ok
    refine A_Mo_heard_72 ?_
    simp (disch := omega) only [li, ll, nI_add, nI_mul', nI_sub', nI_div', qRem_nI, lN_add, lN_mul, lN_sub, lN_div', qRemL_lN, qIn_I, qIx_nI, nI_ltI, nI_leI, nI_eq, nI_eqn, nI_eqn', nI_len, nI_ltn, nI_nle', nI_nlt', lN_eqn, lg_lt, lg_gt, lg_eq, lg_le, lg_ge, pk_lLT, pk_lLE, pk_lEQ, nI_l, lN_i, qShl_n, nI_and, nI_or, lN_and, lN_or, nI_andn, lN_andn, pI_e, pI_f, pI_c, pL_e, pL_f, pL_c, pI_L, pL_I, qB_1, qZb_n, true_and, and_true, forall_const, not_true_eq_false, not_false_eq_true, Nat.reduceLT, Nat.reduceLeDiff, Nat.reduceEqDiff, Nat.reduceAdd, Nat.reduceMul, Nat.reduceSub, Nat.reduceMod, Nat.reduceDiv, false_implies, implies_true, r.hds]
    refine ⟨by omega, hy _ gg ?_ (fr_I (fr_I (fr_pI (by decide)) (by decide)) (by decide))⟩
    refine hX.upd (A := fun c => c = 73) (fr_I (fr_I (fr_pI rfl) rfl) rfl) (fun c _ => by omega) ?_ ok rfl
    (refine rR.mk ?_ ?_ ?_ ?_ ?_ ?_ ?_ ?_ ?_ ?_ ?_ ?_ ?_ ?_ ?_ ?_ ?_ ?_ ?_ ?_ ?_ ?_ ?_); (all_goals (try simp (disch := omega) only [li, ll, nI_add, nI_mul', nI_sub', nI_div', qRem_nI, lN_add, lN_mul, lN_sub, lN_div', qRemL_lN, qIn_I, qIx_nI, nI_ltI, nI_leI, nI_eq, nI_eqn, nI_eqn', nI_len, nI_ltn, nI_nle', nI_nlt', lN_eqn, lg_lt, lg_gt, lg_eq, lg_le, lg_ge, pk_lLT, pk_lLE, pk_lEQ, nI_l, lN_i, qShl_n, nI_and, nI_or, lN_and, lN_or, nI_andn, lN_andn, pI_e, pI_f, pI_c, pL_e, pL_f, pL_c, pI_L, pL_I, qB_1, qZb_n, true_and, and_true, forall_const, not_true_eq_false, not_false_eq_true, Nat.reduceLT, Nat.reduceLeDiff, Nat.reduceEqDiff, Nat.reduceAdd, Nat.reduceMul, Nat.reduceSub, Nat.reduceMod, Nat.reduceDiv, false_implies, implies_true, sP_e, sP_f, sP_c])); (all_goals try (first | done | (first | done | exact r.ppl | exact r.day | exact r.clk | exact r.txs | exact r.rul | exact r.tks | exact r.gvs | exact r.nds | exact r.hds | exact r.num | exact r.fst | exact r.nr | exact r.nr0 | exact r.gv | exact r.ndA | exact r.ndB | exact r.nda | exact r.ndh | exact r.hrd | exact r.hri | exact r.tkh | exact r.tkA | exact r.tkB) | (intro i hi; (try simp (disch := omega) only [li, ll, nI_add, nI_mul', nI_sub', nI_div', qRem_nI, lN_add, lN_mul, lN_sub, lN_div', qRemL_lN, qIn_I, qIx_nI, nI_ltI, nI_leI, nI_eq, nI_eqn, nI_eqn', nI_len, nI_ltn, nI_nle', nI_nlt', lN_eqn, lg_lt, lg_gt, lg_eq, lg_le, lg_ge, pk_lLT, pk_lLE, pk_lEQ, nI_l, lN_i, qShl_n, nI_and, nI_or, lN_and, lN_or, nI_andn, lN_andn, pI_e, pI_f, pI_c, pL_e, pL_f, pL_c, pI_L, pL_I, qB_1, qZb_n, true_and, and_true, forall_const, not_true_eq_false, not_false_eq_true, Nat.reduceLT, Nat.reduceLeDiff, Nat.reduceEqDiff, Nat.reduceAdd, Nat.reduceMul, Nat.reduceSub, Nat.reduceMod, Nat.reduceDiv, false_implies, implies_true, sP_e, sP_f, sP_c]); first | exact r.num i hi | exact r.fst i hi | exact r.nr i hi | exact r.gv i hi | exact r.ndA i hi | exact r.ndB i hi | exact r.nda i hi | exact r.ndh i hi | exact r.hrd i hi | exact r.hri i hi | exact r.tkh i hi | exact r.tkA i hi | exact r.tkB i hi) | (intro i hi hj; (try simp (disch := omega) only [li, ll, nI_add, nI_mul', nI_sub', nI_div', qRem_nI, lN_add, lN_mul, lN_sub, lN_div', qRemL_lN, qIn_I, qIx_nI, nI_ltI, nI_leI, nI_eq, nI_eqn, nI_eqn', nI_len, nI_ltn, nI_nle', nI_nlt', lN_eqn, lg_lt, lg_gt, lg_eq, lg_le, lg_ge, pk_lLT, pk_lLE, pk_lEQ, nI_l, lN_i, qShl_n, nI_and, nI_or, lN_and, lN_or, nI_andn, lN_andn, pI_e, pI_f, pI_c, pL_e, pL_f, pL_c, pI_L, pL_I, qB_1, qZb_n, true_and, and_true, forall_const, not_true_eq_false, not_false_eq_true, Nat.reduceLT, Nat.reduceLeDiff, Nat.reduceEqDiff, Nat.reduceAdd, Nat.reduceMul, Nat.reduceSub, Nat.reduceMod, Nat.reduceDiv, false_implies, implies_true, sP_e, sP_f, sP_c]); exact r.nr0 i hi hj)))
    all_goals
      intro i hi
      by_cases q : i = N 8 0
      · subst q
        simp (disch := omega) only [li, ll, nI_add, nI_mul', nI_sub', nI_div', qRem_nI, lN_add, lN_mul, lN_sub, lN_div', qRemL_lN, qIn_I, qIx_nI, nI_ltI, nI_leI, nI_eq, nI_eqn, nI_eqn', nI_len, nI_ltn, nI_nle', nI_nlt', lN_eqn, lg_lt, lg_gt, lg_eq, lg_le, lg_ge, pk_lLT, pk_lLE, pk_lEQ, nI_l, lN_i, qShl_n, nI_and, nI_or, lN_and, lN_or, nI_andn, lN_andn, pI_e, pI_f, pI_c, pL_e, pL_f, pL_c, pI_L, pL_I, qB_1, qZb_n, true_and, and_true, forall_const, not_true_eq_false, not_false_eq_true, Nat.reduceLT, Nat.reduceLeDiff, Nat.reduceEqDiff, Nat.reduceAdd, Nat.reduceMul, Nat.reduceSub, Nat.reduceMod, Nat.reduceDiv, false_implies, implies_true, sP_e, sP_f, sP_c]
      · simp (disch := omega) only [li, ll, nI_add, nI_mul', nI_sub', nI_div', qRem_nI, lN_add, lN_mul, lN_sub, lN_div', qRemL_lN, qIn_I, qIx_nI, nI_ltI, nI_leI, nI_eq, nI_eqn, nI_eqn', nI_len, nI_ltn, nI_nle', nI_nlt', lN_eqn, lg_lt, lg_gt, lg_eq, lg_le, lg_ge, pk_lLT, pk_lLE, pk_lEQ, nI_l, lN_i, qShl_n, nI_and, nI_or, lN_and, lN_or, nI_andn, lN_andn, pI_e, pI_f, pI_c, pL_e, pL_f, pL_c, pI_L, pL_I, qB_1, qZb_n, true_and, and_true, forall_const, not_true_eq_false, not_false_eq_true, Nat.reduceLT, Nat.reduceLeDiff, Nat.reduceEqDiff, Nat.reduceAdd, Nat.reduceMul, Nat.reduceSub, Nat.reduceMod, Nat.reduceDiv, false_implies, implies_true, sP_e, sP_f, sP_c]
        first | exact r.hrd i (by omega) | exact r.hri i (by omega)
  exact ⟨fun gi => fin 0 (if_pos gi), fun gi => fin 1 (if_neg gi)⟩
def vNr (N : vS) (a b : Int32) : Prop := ¬ a = b ∧ vTold (N 0 0) a ∧ vTold (N 0 0) b
def nNr (N : vS) (a b i : Int32) : vS := if i = 0 then sPut (sPut N 12 (qIx a) (andn (N 12 (qIx a)) (2 ^ qIx b))) 12 (qIx b) (andn (N 12 (qIx b)) (2 ^ qIx a)) else sPut (sPut N 12 (qIx a) (N 12 (qIx a) ||| 2 ^ qIx b)) 12 (qIx b) (N 12 (qIx b) ||| 2 ^ qIx a)
theorem p11 {k : Nat} (h : k < 12) : 2 ^ k < 4096 := Nat.lt_of_le_of_lt (Nat.pow_le_pow_right (n := 2) (i := k) (j := 11) (by decide) (by omega)) (by decide)
theorem nr2_ok {x y u v : Nat} (o : okS N) (hu : u < 4096) (hv : v < 4096) : okS (sPut (sPut N 12 x u) 12 y v) := by
  (refine okS.mk ?_ ?_ ?_ ?_ ?_ ?_ ?_ ?_ ?_ ?_ ?_ ?_ ?_ ?_ ?_ ?_); (all_goals (try simp (disch := omega) only [li, ll, nI_add, nI_mul', nI_sub', nI_div', qRem_nI, lN_add, lN_mul, lN_sub, lN_div', qRemL_lN, qIn_I, qIx_nI, nI_ltI, nI_leI, nI_eq, nI_eqn, nI_eqn', nI_len, nI_ltn, nI_nle', nI_nlt', lN_eqn, lg_lt, lg_gt, lg_eq, lg_le, lg_ge, pk_lLT, pk_lLE, pk_lEQ, nI_l, lN_i, qShl_n, nI_and, nI_or, lN_and, lN_or, nI_andn, lN_andn, pI_e, pI_f, pI_c, pL_e, pL_f, pL_c, pI_L, pL_I, qB_1, qZb_n, true_and, and_true, forall_const, not_true_eq_false, not_false_eq_true, Nat.reduceLT, Nat.reduceLeDiff, Nat.reduceEqDiff, Nat.reduceAdd, Nat.reduceMul, Nat.reduceSub, Nat.reduceMod, Nat.reduceDiv, false_implies, implies_true, sP_e, sP_f, sP_c])); (all_goals try (first | done | (first | done | exact o.p12 | exact o.day | exact o.clk | exact o.txs | exact o.rul | exact o.tks | exact o.gvs | exact o.nds | exact o.hds | exact o.num | exact o.fst | exact o.nr | exact o.gv | exact o.need | exact o.hrd | exact o.tlk) | (intro i hi; (try simp (disch := omega) only [li, ll, nI_add, nI_mul', nI_sub', nI_div', qRem_nI, lN_add, lN_mul, lN_sub, lN_div', qRemL_lN, qIn_I, qIx_nI, nI_ltI, nI_leI, nI_eq, nI_eqn, nI_eqn', nI_len, nI_ltn, nI_nle', nI_nlt', lN_eqn, lg_lt, lg_gt, lg_eq, lg_le, lg_ge, pk_lLT, pk_lLE, pk_lEQ, nI_l, lN_i, qShl_n, nI_and, nI_or, lN_and, lN_or, nI_andn, lN_andn, pI_e, pI_f, pI_c, pL_e, pL_f, pL_c, pI_L, pL_I, qB_1, qZb_n, true_and, and_true, forall_const, not_true_eq_false, not_false_eq_true, Nat.reduceLT, Nat.reduceLeDiff, Nat.reduceEqDiff, Nat.reduceAdd, Nat.reduceMul, Nat.reduceSub, Nat.reduceMod, Nat.reduceDiv, false_implies, implies_true, sP_e, sP_f, sP_c]); first | exact o.num i hi | exact o.fst i hi | exact o.nr i hi | exact o.gv i hi | exact o.need i hi | exact o.hrd i hi | exact o.tlk i hi)))
  intro i hi
  by_cases q : i = y
  · subst q; rw [sP_e]; exact hv
  · rw [sP_f q]
    by_cases q2 : i = x
    · subst q2; rw [sP_e]; exact hu
    · rw [sP_f q2]; exact o.nr i hi
theorem nNr_ok {a b i : Int32} (o : okS N) (g : vNr N a b) : okS (nNr N a b i) := by
  obtain ⟨x, hx, ea, ea2⟩ := vTold_x o.p12 g.2.1
  obtain ⟨y, hy', eb, eb2⟩ := vTold_x o.p12 g.2.2
  have o0 := o.p12
  unfold nNr
  rw [ea2, eb2]
  have h1 := o.nr x hx
  have h2 := o.nr y hy'
  have h3 := p11 (k := x) (by omega)
  have h4 := p11 (k := y) (by omega)
  split
  · exact nr2_ok o (andn_lt (n := 12) h1) (andn_lt (n := 12) h2)
  · exact nr2_ok o (Nat.or_lt_two_pow (n := 12) h1 h4) (Nat.or_lt_two_pow (n := 12) h2 h3)
theorem rS_nr {x y u v : Nat} (hX : rX w N K T Z) (hx : x < N 0 0) (hy : y < N 0 0) (hxy : ¬ x = y) (hu : u < 4096) (hv : v < 4096) : rX (qPutI (qPutI w 5 x (nI u)) 5 y (nI v)) (sPut (sPut N 12 x u) 12 y v) K T Z := by
  have r := hX.n
  refine hX.upd (A := fun c => c < 13) (fr_I (fr_pI (by decide)) (by decide)) (fun c _ _ => by omega) ?_ (nr2_ok hX.okn hu hv) rfl hX.opn hX.op2
  (refine rS.mk ?_ ?_ ?_ ?_ ?_ ?_ ?_ ?_ ?_ ?_ ?_ ?_ ?_ ?_ ?_ ?_ ?_ ?_ ?_ ?_); (all_goals (try simp (disch := omega) only [li, ll, nI_add, nI_mul', nI_sub', nI_div', qRem_nI, lN_add, lN_mul, lN_sub, lN_div', qRemL_lN, qIn_I, qIx_nI, nI_ltI, nI_leI, nI_eq, nI_eqn, nI_eqn', nI_len, nI_ltn, nI_nle', nI_nlt', lN_eqn, lg_lt, lg_gt, lg_eq, lg_le, lg_ge, pk_lLT, pk_lLE, pk_lEQ, nI_l, lN_i, qShl_n, nI_and, nI_or, lN_and, lN_or, nI_andn, lN_andn, pI_e, pI_f, pI_c, pL_e, pL_f, pL_c, pI_L, pL_I, qB_1, qZb_n, true_and, and_true, forall_const, not_true_eq_false, not_false_eq_true, Nat.reduceLT, Nat.reduceLeDiff, Nat.reduceEqDiff, Nat.reduceAdd, Nat.reduceMul, Nat.reduceSub, Nat.reduceMod, Nat.reduceDiv, false_implies, implies_true, sP_e, sP_f, sP_c])); (all_goals try (first | done | (first | done | exact r.ppl | exact r.day | exact r.clk | exact r.txs | exact r.rul | exact r.tks | exact r.gvs | exact r.nds | exact r.hds | exact r.hIs | exact r.num | exact r.fst | exact r.nr | exact r.tkh | exact r.tkp | exact r.gv | exact r.ndp | exact r.nda | exact r.ndh | exact r.hrd) | (intro i hi; (try simp (disch := omega) only [li, ll, nI_add, nI_mul', nI_sub', nI_div', qRem_nI, lN_add, lN_mul, lN_sub, lN_div', qRemL_lN, qIn_I, qIx_nI, nI_ltI, nI_leI, nI_eq, nI_eqn, nI_eqn', nI_len, nI_ltn, nI_nle', nI_nlt', lN_eqn, lg_lt, lg_gt, lg_eq, lg_le, lg_ge, pk_lLT, pk_lLE, pk_lEQ, nI_l, lN_i, qShl_n, nI_and, nI_or, lN_and, lN_or, nI_andn, lN_andn, pI_e, pI_f, pI_c, pL_e, pL_f, pL_c, pI_L, pL_I, qB_1, qZb_n, true_and, and_true, forall_const, not_true_eq_false, not_false_eq_true, Nat.reduceLT, Nat.reduceLeDiff, Nat.reduceEqDiff, Nat.reduceAdd, Nat.reduceMul, Nat.reduceSub, Nat.reduceMod, Nat.reduceDiv, false_implies, implies_true, sP_e, sP_f, sP_c]); first | exact r.num i hi | exact r.fst i hi | exact r.nr i hi | exact r.tkh i hi | exact r.tkp i hi | exact r.gv i hi | exact r.ndp i hi | exact r.nda i hi | exact r.ndh i hi | exact r.hrd i hi)))
  intro i hi
  by_cases q : i = y
  · subst q; simp (disch := omega) only [li, ll, nI_add, nI_mul', nI_sub', nI_div', qRem_nI, lN_add, lN_mul, lN_sub, lN_div', qRemL_lN, qIn_I, qIx_nI, nI_ltI, nI_leI, nI_eq, nI_eqn, nI_eqn', nI_len, nI_ltn, nI_nle', nI_nlt', lN_eqn, lg_lt, lg_gt, lg_eq, lg_le, lg_ge, pk_lLT, pk_lLE, pk_lEQ, nI_l, lN_i, qShl_n, nI_and, nI_or, lN_and, lN_or, nI_andn, lN_andn, pI_e, pI_f, pI_c, pL_e, pL_f, pL_c, pI_L, pL_I, qB_1, qZb_n, true_and, and_true, forall_const, not_true_eq_false, not_false_eq_true, Nat.reduceLT, Nat.reduceLeDiff, Nat.reduceEqDiff, Nat.reduceAdd, Nat.reduceMul, Nat.reduceSub, Nat.reduceMod, Nat.reduceDiv, false_implies, implies_true, sP_e]
  · by_cases q2 : i = x
    · subst q2; simp (disch := omega) only [li, ll, nI_add, nI_mul', nI_sub', nI_div', qRem_nI, lN_add, lN_mul, lN_sub, lN_div', qRemL_lN, qIn_I, qIx_nI, nI_ltI, nI_leI, nI_eq, nI_eqn, nI_eqn', nI_len, nI_ltn, nI_nle', nI_nlt', lN_eqn, lg_lt, lg_gt, lg_eq, lg_le, lg_ge, pk_lLT, pk_lLE, pk_lEQ, nI_l, lN_i, qShl_n, nI_and, nI_or, lN_and, lN_or, nI_andn, lN_andn, pI_e, pI_f, pI_c, pL_e, pL_f, pL_c, pI_L, pL_I, qB_1, qZb_n, true_and, and_true, forall_const, not_true_eq_false, not_false_eq_true, Nat.reduceLT, Nat.reduceLeDiff, Nat.reduceEqDiff, Nat.reduceAdd, Nat.reduceMul, Nat.reduceSub, Nat.reduceMod, Nat.reduceDiv, false_implies, implies_true, sP_e, sP_f]
    · simp (disch := omega) only [li, ll, nI_add, nI_mul', nI_sub', nI_div', qRem_nI, lN_add, lN_mul, lN_sub, lN_div', qRemL_lN, qIn_I, qIx_nI, nI_ltI, nI_leI, nI_eq, nI_eqn, nI_eqn', nI_len, nI_ltn, nI_nle', nI_nlt', lN_eqn, lg_lt, lg_gt, lg_eq, lg_le, lg_ge, pk_lLT, pk_lLE, pk_lEQ, nI_l, lN_i, qShl_n, nI_and, nI_or, lN_and, lN_or, nI_andn, lN_andn, pI_e, pI_f, pI_c, pL_e, pL_f, pL_c, pI_L, pL_I, qB_1, qZb_n, true_and, and_true, forall_const, not_true_eq_false, not_false_eq_true, Nat.reduceLT, Nat.reduceLeDiff, Nat.reduceEqDiff, Nat.reduceAdd, Nat.reduceMul, Nat.reduceSub, Nat.reduceMod, Nat.reduceDiv, false_implies, implies_true, sP_e, sP_f]; exact r.nr i hi
theorem rR_nr {x y u v : Nat} (hX : rM w N K T Z) (hx : x < N 0 0) (hy : y < N 0 0) (hxy : ¬ x = y) (hu : u < 4096) (hv : v < 4096) : rM (qPutI (qPutI w 73 (40 + x) (nI u)) 73 (40 + y) (nI v)) (sPut (sPut N 12 x u) 12 y v) K T Z := by
  have r := hX.n
  have o := hX.okn
  have o0 := o.p12
  have o5 := o.tks
  have o6 := o.gvs
  have o7 := o.nds
  have o8 := o.hds
  refine hX.upd (A := fun c => c = 73) (fr_I (fr_pI rfl) rfl) (fun c _ => by omega) ?_ (nr2_ok hX.okn hu hv) rfl
  (refine rR.mk ?_ ?_ ?_ ?_ ?_ ?_ ?_ ?_ ?_ ?_ ?_ ?_ ?_ ?_ ?_ ?_ ?_ ?_ ?_ ?_ ?_ ?_ ?_); (all_goals (try simp (disch := omega) only [li, ll, nI_add, nI_mul', nI_sub', nI_div', qRem_nI, lN_add, lN_mul, lN_sub, lN_div', qRemL_lN, qIn_I, qIx_nI, nI_ltI, nI_leI, nI_eq, nI_eqn, nI_eqn', nI_len, nI_ltn, nI_nle', nI_nlt', lN_eqn, lg_lt, lg_gt, lg_eq, lg_le, lg_ge, pk_lLT, pk_lLE, pk_lEQ, nI_l, lN_i, qShl_n, nI_and, nI_or, lN_and, lN_or, nI_andn, lN_andn, pI_e, pI_f, pI_c, pL_e, pL_f, pL_c, pI_L, pL_I, qB_1, qZb_n, true_and, and_true, forall_const, not_true_eq_false, not_false_eq_true, Nat.reduceLT, Nat.reduceLeDiff, Nat.reduceEqDiff, Nat.reduceAdd, Nat.reduceMul, Nat.reduceSub, Nat.reduceMod, Nat.reduceDiv, false_implies, implies_true, sP_e, sP_f, sP_c])); (all_goals try (first | done | (first | done | exact r.ppl | exact r.day | exact r.clk | exact r.txs | exact r.rul | exact r.tks | exact r.gvs | exact r.nds | exact r.hds | exact r.num | exact r.fst | exact r.nr | exact r.nr0 | exact r.gv | exact r.ndA | exact r.ndB | exact r.nda | exact r.ndh | exact r.hrd | exact r.hri | exact r.tkh | exact r.tkA | exact r.tkB) | (intro i hi; (try simp (disch := omega) only [li, ll, nI_add, nI_mul', nI_sub', nI_div', qRem_nI, lN_add, lN_mul, lN_sub, lN_div', qRemL_lN, qIn_I, qIx_nI, nI_ltI, nI_leI, nI_eq, nI_eqn, nI_eqn', nI_len, nI_ltn, nI_nle', nI_nlt', lN_eqn, lg_lt, lg_gt, lg_eq, lg_le, lg_ge, pk_lLT, pk_lLE, pk_lEQ, nI_l, lN_i, qShl_n, nI_and, nI_or, lN_and, lN_or, nI_andn, lN_andn, pI_e, pI_f, pI_c, pL_e, pL_f, pL_c, pI_L, pL_I, qB_1, qZb_n, true_and, and_true, forall_const, not_true_eq_false, not_false_eq_true, Nat.reduceLT, Nat.reduceLeDiff, Nat.reduceEqDiff, Nat.reduceAdd, Nat.reduceMul, Nat.reduceSub, Nat.reduceMod, Nat.reduceDiv, false_implies, implies_true, sP_e, sP_f, sP_c]); first | exact r.num i hi | exact r.fst i hi | exact r.nr i hi | exact r.gv i hi | exact r.ndA i hi | exact r.ndB i hi | exact r.nda i hi | exact r.ndh i hi | exact r.hrd i hi | exact r.hri i hi | exact r.tkh i hi | exact r.tkA i hi | exact r.tkB i hi) | (intro i hi hj; (try simp (disch := omega) only [li, ll, nI_add, nI_mul', nI_sub', nI_div', qRem_nI, lN_add, lN_mul, lN_sub, lN_div', qRemL_lN, qIn_I, qIx_nI, nI_ltI, nI_leI, nI_eq, nI_eqn, nI_eqn', nI_len, nI_ltn, nI_nle', nI_nlt', lN_eqn, lg_lt, lg_gt, lg_eq, lg_le, lg_ge, pk_lLT, pk_lLE, pk_lEQ, nI_l, lN_i, qShl_n, nI_and, nI_or, lN_and, lN_or, nI_andn, lN_andn, pI_e, pI_f, pI_c, pL_e, pL_f, pL_c, pI_L, pL_I, qB_1, qZb_n, true_and, and_true, forall_const, not_true_eq_false, not_false_eq_true, Nat.reduceLT, Nat.reduceLeDiff, Nat.reduceEqDiff, Nat.reduceAdd, Nat.reduceMul, Nat.reduceSub, Nat.reduceMod, Nat.reduceDiv, false_implies, implies_true, sP_e, sP_f, sP_c]); exact r.nr0 i hi hj)))
  intro i hi
  by_cases q : i = y
  · subst q; simp (disch := omega) only [li, ll, nI_add, nI_mul', nI_sub', nI_div', qRem_nI, lN_add, lN_mul, lN_sub, lN_div', qRemL_lN, qIn_I, qIx_nI, nI_ltI, nI_leI, nI_eq, nI_eqn, nI_eqn', nI_len, nI_ltn, nI_nle', nI_nlt', lN_eqn, lg_lt, lg_gt, lg_eq, lg_le, lg_ge, pk_lLT, pk_lLE, pk_lEQ, nI_l, lN_i, qShl_n, nI_and, nI_or, lN_and, lN_or, nI_andn, lN_andn, pI_e, pI_f, pI_c, pL_e, pL_f, pL_c, pI_L, pL_I, qB_1, qZb_n, true_and, and_true, forall_const, not_true_eq_false, not_false_eq_true, Nat.reduceLT, Nat.reduceLeDiff, Nat.reduceEqDiff, Nat.reduceAdd, Nat.reduceMul, Nat.reduceSub, Nat.reduceMod, Nat.reduceDiv, false_implies, implies_true, sP_e]
  · by_cases q2 : i = x
    · subst q2; simp (disch := omega) only [li, ll, nI_add, nI_mul', nI_sub', nI_div', qRem_nI, lN_add, lN_mul, lN_sub, lN_div', qRemL_lN, qIn_I, qIx_nI, nI_ltI, nI_leI, nI_eq, nI_eqn, nI_eqn', nI_len, nI_ltn, nI_nle', nI_nlt', lN_eqn, lg_lt, lg_gt, lg_eq, lg_le, lg_ge, pk_lLT, pk_lLE, pk_lEQ, nI_l, lN_i, qShl_n, nI_and, nI_or, lN_and, lN_or, nI_andn, lN_andn, pI_e, pI_f, pI_c, pL_e, pL_f, pL_c, pI_L, pL_I, qB_1, qZb_n, true_and, and_true, forall_const, not_true_eq_false, not_false_eq_true, Nat.reduceLT, Nat.reduceLeDiff, Nat.reduceEqDiff, Nat.reduceAdd, Nat.reduceMul, Nat.reduceSub, Nat.reduceMod, Nat.reduceDiv, false_implies, implies_true, sP_e, sP_f]
    · simp (disch := omega) only [li, ll, nI_add, nI_mul', nI_sub', nI_div', qRem_nI, lN_add, lN_mul, lN_sub, lN_div', qRemL_lN, qIn_I, qIx_nI, nI_ltI, nI_leI, nI_eq, nI_eqn, nI_eqn', nI_len, nI_ltn, nI_nle', nI_nlt', lN_eqn, lg_lt, lg_gt, lg_eq, lg_le, lg_ge, pk_lLT, pk_lLE, pk_lEQ, nI_l, lN_i, qShl_n, nI_and, nI_or, lN_and, lN_or, nI_andn, lN_andn, pI_e, pI_f, pI_c, pL_e, pL_f, pL_c, pI_L, pL_I, qB_1, qZb_n, true_and, and_true, forall_const, not_true_eq_false, not_false_eq_true, Nat.reduceLT, Nat.reduceLeDiff, Nat.reduceEqDiff, Nat.reduceAdd, Nat.reduceMul, Nat.reduceSub, Nat.reduceMod, Nat.reduceDiv, false_implies, implies_true, sP_e, sP_f]; exact r.nr i hi
theorem c_setNear {a b i : Int32} (hd : 3 ≤ d) (hX : rX w N K T Z) (hy : ∀ w', vNr N a b → rX w' (nNr N a b i) K T Z → fr (fun c => c < 72) w w' → Q 1 w') (hn : ¬ vNr N a b → Q 0 w) : qCall (some s) d 33 [.ref 2, .int a, .int b, .int i] w (qQi Q) := by
  obtain ⟨d, rfl, hd1⟩ := dS hd
  have r := hX.n
  have o := hX.okn
  have o0 := o.p12
  refine A_State_setNear (c_isPair hd1 r.ppl o.p12 (fun g => n1 ?_) (fun g => n0 (hn g)))
  obtain ⟨x, hx, ea, ea2⟩ := vTold_x o.p12 g.2.1
  obtain ⟨y, hy', eb, eb2⟩ := vTold_x o.p12 g.2.2
  have hxy : ¬ x = y := fun e => g.1 (by rw [ea, eb, e])
  have h1 := o.nr x hx
  have h2 := o.nr y hy'
  have h3 := p11 (k := x) (by omega)
  have h4 := p11 (k := y) (by omega)
  unfold nNr at hy
  rw [ea2, eb2] at hy
  subst ea eb
  simp (disch := omega) only [li, ll, nI_add, nI_mul', nI_sub', nI_div', qRem_nI, lN_add, lN_mul, lN_sub, lN_div', qRemL_lN, qIn_I, qIx_nI, nI_ltI, nI_leI, nI_eq, nI_eqn, nI_eqn', nI_len, nI_ltn, nI_nle', nI_nlt', lN_eqn, lg_lt, lg_gt, lg_eq, lg_le, lg_ge, pk_lLT, pk_lLE, pk_lEQ, nI_l, lN_i, qShl_n, nI_and, nI_or, lN_and, lN_or, nI_andn, lN_andn, pI_e, pI_f, pI_c, pL_e, pL_f, pL_c, pI_L, pL_I, qB_1, qZb_n, true_and, and_true, forall_const, not_true_eq_false, not_false_eq_true, Nat.reduceLT, Nat.reduceLeDiff, Nat.reduceEqDiff, Nat.reduceAdd, Nat.reduceMul, Nat.reduceSub, Nat.reduceMod, Nat.reduceDiv, false_implies, implies_true, r.nr x hx]
  refine ⟨fun (gi : i = 0) => ⟨by omega, A_State_setNear_45 ?_⟩, fun (gi : ¬ i = 0) => ⟨by omega, A_State_setNear_45 ?_⟩⟩
  · rw [if_pos gi] at hy
    simp (disch := omega) only [li, ll, nI_add, nI_mul', nI_sub', nI_div', qRem_nI, lN_add, lN_mul, lN_sub, lN_div', qRemL_lN, qIn_I, qIx_nI, nI_ltI, nI_leI, nI_eq, nI_eqn, nI_eqn', nI_len, nI_ltn, nI_nle', nI_nlt', lN_eqn, lg_lt, lg_gt, lg_eq, lg_le, lg_ge, pk_lLT, pk_lLE, pk_lEQ, nI_l, lN_i, qShl_n, nI_and, nI_or, lN_and, lN_or, nI_andn, lN_andn, pI_e, pI_f, pI_c, pL_e, pL_f, pL_c, pI_L, pL_I, qB_1, qZb_n, true_and, and_true, forall_const, not_true_eq_false, not_false_eq_true, Nat.reduceLT, Nat.reduceLeDiff, Nat.reduceEqDiff, Nat.reduceAdd, Nat.reduceMul, Nat.reduceSub, Nat.reduceMod, Nat.reduceDiv, false_implies, implies_true, r.nr y hy']
    exact ⟨by omega, fun _ => ⟨by omega, by omega, hy _ g (rS_nr hX hx hy' hxy (andn_lt (n := 12) h1) (andn_lt (n := 12) h2)) (fr_I (fr_pI (by decide)) (by decide))⟩, fun e => absurd gi e⟩
  · rw [if_neg gi] at hy
    simp (disch := omega) only [li, ll, nI_add, nI_mul', nI_sub', nI_div', qRem_nI, lN_add, lN_mul, lN_sub, lN_div', qRemL_lN, qIn_I, qIx_nI, nI_ltI, nI_leI, nI_eq, nI_eqn, nI_eqn', nI_len, nI_ltn, nI_nle', nI_nlt', lN_eqn, lg_lt, lg_gt, lg_eq, lg_le, lg_ge, pk_lLT, pk_lLE, pk_lEQ, nI_l, lN_i, qShl_n, nI_and, nI_or, lN_and, lN_or, nI_andn, lN_andn, pI_e, pI_f, pI_c, pL_e, pL_f, pL_c, pI_L, pL_I, qB_1, qZb_n, true_and, and_true, forall_const, not_true_eq_false, not_false_eq_true, Nat.reduceLT, Nat.reduceLeDiff, Nat.reduceEqDiff, Nat.reduceAdd, Nat.reduceMul, Nat.reduceSub, Nat.reduceMod, Nat.reduceDiv, false_implies, implies_true, r.nr y hy']
    exact ⟨by omega, fun e => absurd e gi, fun _ => ⟨by omega, by omega, hy _ g (rS_nr hX hx hy' hxy (Nat.or_lt_two_pow (n := 12) h1 h4) (Nat.or_lt_two_pow (n := 12) h2 h3)) (fr_I (fr_pI (by decide)) (by decide))⟩⟩
theorem c_near {a b i : Int32} (hd : 4 ≤ d) (hX : rX w N K T Z) (hy : ∀ w', vNr N a b → rX w' (nNr N a b i) K T Z → fr (fun c => c < 72) w w' → Q 1 w') (hn : ¬ vNr N a b → Q 0 w) : qCall (some s) d 32 [.ref 1, .int a, .int b, .int i] w (qQi Q) := by
  obtain ⟨d, rfl, hd1⟩ := dS hd
  exact A_X_near (c_setNear hd1 hX (fun w' g h f => hy w' g h f) (fun g => hn g))
theorem m_near {a b i : Int32} (hd : 3 ≤ d) (hX : rM w N K T Z) (hy : ∀ w', vNr N a b → rM w' (nNr N a b i) K T Z → fr (fun c => 72 ≤ c) w w' → Q 1 w') (hn : ¬ vNr N a b → Q 0 w) : qCall (some s) d 215 [.ref 72, .int a, .int b, .int i] w (qQi Q) := by
  obtain ⟨d, rfl, hd1⟩ := dS hd
  have r := hX.n
  have o := hX.okn
  have o0 := o.p12
  refine A_Mo_near (m_isPerson hd1 r.ppl o.p12 (fun g2 => b1 (m_isPerson hd1 r.ppl o.p12 (fun g3 => b1 ⟨fun g1 => ?_, fun e => hn (fun q => q.1 e)⟩) (fun g => b0 (hn (fun q => g q.2.2))))) (fun g => b0 (hn (fun q => g q.2.1))))
  have g : vNr N a b := ⟨g1, g2, g3⟩
  obtain ⟨x, hx, ea, ea2⟩ := vTold_x o.p12 g.2.1
  obtain ⟨y, hy', eb, eb2⟩ := vTold_x o.p12 g.2.2
  have hxy : ¬ x = y := fun e => g.1 (by rw [ea, eb, e])
  have h1 := o.nr x hx
  have h2 := o.nr y hy'
  have h3 := p11 (k := x) (by omega)
  have h4 := p11 (k := y) (by omega)
  unfold nNr at hy
  rw [ea2, eb2] at hy
  subst ea eb
  simp (disch := omega) only [li, ll, nI_add, nI_mul', nI_sub', nI_div', qRem_nI, lN_add, lN_mul, lN_sub, lN_div', qRemL_lN, qIn_I, qIx_nI, nI_ltI, nI_leI, nI_eq, nI_eqn, nI_eqn', nI_len, nI_ltn, nI_nle', nI_nlt', lN_eqn, lg_lt, lg_gt, lg_eq, lg_le, lg_ge, pk_lLT, pk_lLE, pk_lEQ, nI_l, lN_i, qShl_n, nI_and, nI_or, lN_and, lN_or, nI_andn, lN_andn, pI_e, pI_f, pI_c, pL_e, pL_f, pL_c, pI_L, pL_I, qB_1, qZb_n, true_and, and_true, forall_const, not_true_eq_false, not_false_eq_true, Nat.reduceLT, Nat.reduceLeDiff, Nat.reduceEqDiff, Nat.reduceAdd, Nat.reduceMul, Nat.reduceSub, Nat.reduceMod, Nat.reduceDiv, false_implies, implies_true, r.nr x hx]
  refine ⟨fun (gi : i = 0) => ⟨by omega, A_Mo_near_66 ?_⟩, fun (gi : ¬ i = 0) => ⟨by omega, A_Mo_near_66 ?_⟩⟩
  · rw [if_pos gi] at hy
    simp (disch := omega) only [li, ll, nI_add, nI_mul', nI_sub', nI_div', qRem_nI, lN_add, lN_mul, lN_sub, lN_div', qRemL_lN, qIn_I, qIx_nI, nI_ltI, nI_leI, nI_eq, nI_eqn, nI_eqn', nI_len, nI_ltn, nI_nle', nI_nlt', lN_eqn, lg_lt, lg_gt, lg_eq, lg_le, lg_ge, pk_lLT, pk_lLE, pk_lEQ, nI_l, lN_i, qShl_n, nI_and, nI_or, lN_and, lN_or, nI_andn, lN_andn, pI_e, pI_f, pI_c, pL_e, pL_f, pL_c, pI_L, pL_I, qB_1, qZb_n, true_and, and_true, forall_const, not_true_eq_false, not_false_eq_true, Nat.reduceLT, Nat.reduceLeDiff, Nat.reduceEqDiff, Nat.reduceAdd, Nat.reduceMul, Nat.reduceSub, Nat.reduceMod, Nat.reduceDiv, false_implies, implies_true, r.nr y hy']
    exact ⟨by omega, fun _ => ⟨by omega, by omega, hy _ g (rR_nr hX hx hy' hxy (andn_lt (n := 12) h1) (andn_lt (n := 12) h2)) (fr_I (fr_pI (by decide)) (by decide))⟩, fun e => absurd gi e⟩
  · rw [if_neg gi] at hy
    simp (disch := omega) only [li, ll, nI_add, nI_mul', nI_sub', nI_div', qRem_nI, lN_add, lN_mul, lN_sub, lN_div', qRemL_lN, qIn_I, qIx_nI, nI_ltI, nI_leI, nI_eq, nI_eqn, nI_eqn', nI_len, nI_ltn, nI_nle', nI_nlt', lN_eqn, lg_lt, lg_gt, lg_eq, lg_le, lg_ge, pk_lLT, pk_lLE, pk_lEQ, nI_l, lN_i, qShl_n, nI_and, nI_or, lN_and, lN_or, nI_andn, lN_andn, pI_e, pI_f, pI_c, pL_e, pL_f, pL_c, pI_L, pL_I, qB_1, qZb_n, true_and, and_true, forall_const, not_true_eq_false, not_false_eq_true, Nat.reduceLT, Nat.reduceLeDiff, Nat.reduceEqDiff, Nat.reduceAdd, Nat.reduceMul, Nat.reduceSub, Nat.reduceMod, Nat.reduceDiv, false_implies, implies_true, r.nr y hy']
    exact ⟨by omega, fun e => absurd e gi, fun _ => ⟨by omega, by omega, hy _ g (rR_nr hX hx hy' hxy (Nat.or_lt_two_pow (n := 12) h1 h4) (Nat.or_lt_two_pow (n := 12) h2 h3)) (fr_I (fr_pI (by decide)) (by decide))⟩⟩
end State3
