/-! Calls that change what is held: day, near, given, need, talk, heard, end; both sides. -/
section State
variable {s : Nat × (Nat → Int32)} {d : Nat} {w : qW} {Q : Int32 → qW → Prop} {N K : vS} {T : Nat → vT} {Z : vZ}
theorem nI_rng {x : Int32} (a b : Nat) (h1 : nI a ≤ x) (h2 : x ≤ nI b) (hb : b < 2 ^ 31 := by omega) (ha : a < 2 ^ 31 := by omega) : ∃ j, a ≤ j ∧ j ≤ b ∧ x = nI j ∧ qIx x = j := by
  have h3 := Int32.le_iff_toInt_le.mp h1
  rw [nI_toInt ha] at h3
  obtain ⟨j, hj, rfl⟩ := nI_of (fun q : x < 0 => by
    have := Int32.lt_iff_toInt_lt.mp q
    have e : (0 : Int32).toInt = 0 := by decide
    omega)
  simp (disch := omega) only [li, ll, nI_add, nI_mul', nI_sub', nI_div', qRem_nI, lN_add, lN_mul, lN_sub, lN_div', qRemL_lN, qIn_I, qIx_nI, nI_ltI, nI_leI, nI_eq, nI_eqn, nI_eqn', nI_len, nI_ltn, nI_nle', nI_nlt', lN_eqn, lg_lt, lg_gt, lg_eq, lg_le, lg_ge, lgn_lt, lgn_gt, lgn_eq, lgn_le, lgn_ge, pk_lLT, pk_lLE, pk_lEQ, nI_l, lN_i, qShl_n, nI_and, nI_or, lN_and, lN_or, nI_andn, lN_andn, pI_e, pI_f, pI_c, pL_e, pL_f, pL_c, pI_L, pL_I, qB_1, qZb_n, true_and, and_true, forall_const, not_true_eq_false, not_false_eq_true, Nat.reduceLT, Nat.reduceLeDiff, Nat.reduceEqDiff, Nat.reduceAdd, Nat.reduceMul, Nat.reduceSub, Nat.reduceMod, Nat.reduceDiv, false_implies, implies_true] at h1 h2
  exact ⟨j, h1, h2, rfl, qIx_nI hj⟩
theorem vDay_nI {h : Int32} (g : vDay h) : ∃ n, h = nI n ∧ qIx h = n ∧ (n = 0 ∨ 2 ≤ n ∧ n ≤ 999) := by
  rcases g with rfl | ⟨g1, g2⟩
  · exact ⟨0, rfl, rfl, Or.inl rfl⟩
  · obtain ⟨j, h1, h2, e, e2⟩ := nI_rng 2 999 g1 g2
    exact ⟨j, e, e2, Or.inr ⟨h1, h2⟩⟩
def nDay (N : vS) (h : Int32) : vS := sPut N 1 0 (qIx h)
theorem nDay_ok {h : Int32} (o : okS N) (g : vDay h) : okS (nDay N h) := by
  obtain ⟨n, e, e2, hn'⟩ := vDay_nI g
  unfold nDay
  rw [e2]
  exact okS.mk o.p12 hn' o.clk o.txs o.rul o.tks o.gvs o.nds o.hds o.num o.fst o.nr o.gv o.need o.hrd o.tlk
theorem c_day {h : Int32} (hd : 2 ≤ d) (hX : rX w N K T Z) (hy : ∀ w', vDay h → rX w' (nDay N h) K T Z → fr (fun c => c < 72) w w' → Q 1 w') (hn : ¬ vDay h → Q 0 w) : qCall (some s) d 28 [.ref 1, .int h] w (qQi Q) := by
  obtain ⟨d, rfl, hd1⟩ := dS hd
  refine A_X_day (c_isDay hd1 (fun g => n1 ?_) (fun g => n0 (hn g)))
  refine hy _ g ?_ (fr_pI (by decide))
  refine hX.upd (A := fun c => c = 2) (fr_pI rfl) (fun c _ _ => by omega) ?_ (nDay_ok hX.okn g) rfl hX.opn hX.op2
  have r := hX.n
  obtain ⟨n, e, e2, hn'⟩ := vDay_nI g
  unfold nDay
  rw [e2]
  subst e
  (refine rS.mk ?_ ?_ ?_ ?_ ?_ ?_ ?_ ?_ ?_ ?_ ?_ ?_ ?_ ?_ ?_ ?_ ?_ ?_ ?_ ?_); (all_goals (try simp (disch := omega) only [li, ll, nI_add, nI_mul', nI_sub', nI_div', qRem_nI, lN_add, lN_mul, lN_sub, lN_div', qRemL_lN, qIn_I, qIx_nI, nI_ltI, nI_leI, nI_eq, nI_eqn, nI_eqn', nI_len, nI_ltn, nI_nle', nI_nlt', lN_eqn, lg_lt, lg_gt, lg_eq, lg_le, lg_ge, lgn_lt, lgn_gt, lgn_eq, lgn_le, lgn_ge, pk_lLT, pk_lLE, pk_lEQ, nI_l, lN_i, qShl_n, nI_and, nI_or, lN_and, lN_or, nI_andn, lN_andn, pI_e, pI_f, pI_c, pL_e, pL_f, pL_c, pI_L, pL_I, qB_1, qZb_n, true_and, and_true, forall_const, not_true_eq_false, not_false_eq_true, Nat.reduceLT, Nat.reduceLeDiff, Nat.reduceEqDiff, Nat.reduceAdd, Nat.reduceMul, Nat.reduceSub, Nat.reduceMod, Nat.reduceDiv, false_implies, implies_true, sP_e, sP_f, sP_c])); (all_goals try (first | done | (first | done | exact r.ppl | exact r.day | exact r.clk | exact r.txs | exact r.rul | exact r.tks | exact r.gvs | exact r.nds | exact r.hds | exact r.hIs | exact r.num | exact r.fst | exact r.nr | exact r.tkh | exact r.tkp | exact r.gv | exact r.ndp | exact r.nda | exact r.ndh | exact r.hrd) | (intro i hi; (try simp (disch := omega) only [li, ll, nI_add, nI_mul', nI_sub', nI_div', qRem_nI, lN_add, lN_mul, lN_sub, lN_div', qRemL_lN, qIn_I, qIx_nI, nI_ltI, nI_leI, nI_eq, nI_eqn, nI_eqn', nI_len, nI_ltn, nI_nle', nI_nlt', lN_eqn, lg_lt, lg_gt, lg_eq, lg_le, lg_ge, lgn_lt, lgn_gt, lgn_eq, lgn_le, lgn_ge, pk_lLT, pk_lLE, pk_lEQ, nI_l, lN_i, qShl_n, nI_and, nI_or, lN_and, lN_or, nI_andn, lN_andn, pI_e, pI_f, pI_c, pL_e, pL_f, pL_c, pI_L, pL_I, qB_1, qZb_n, true_and, and_true, forall_const, not_true_eq_false, not_false_eq_true, Nat.reduceLT, Nat.reduceLeDiff, Nat.reduceEqDiff, Nat.reduceAdd, Nat.reduceMul, Nat.reduceSub, Nat.reduceMod, Nat.reduceDiv, false_implies, implies_true, sP_e, sP_f, sP_c]); first | exact r.num i hi | exact r.fst i hi | exact r.nr i hi | exact r.tkh i hi | exact r.tkp i hi | exact r.gv i hi | exact r.ndp i hi | exact r.nda i hi | exact r.ndh i hi | exact r.hrd i hi)))
theorem m_day {h : Int32} (hd : 3 ≤ d) (hX : rM w N K T Z) (hy : ∀ w', vDay h → rM w' (nDay N h) K T Z → fr (fun c => 72 ≤ c) w w' → Q 1 w') (hn : ¬ vDay h → Q 0 w) : qCall (some s) d 212 [.ref 72, .int h] w (qQi Q) := by
  obtain ⟨d, rfl, hd1⟩ := dS hd
  refine A_Mo_day (m_isDay hd1 (fun g => n1 ⟨qIn_nI (j := 1) (by decide) (by decide), ?_⟩) (fun g => n0 (hn g)))
  refine hy _ g ?_ (fr_pI (by decide))
  refine hX.upd (A := fun c => c = 73) (fr_pI rfl) (fun c _ => by omega) ?_ (nDay_ok hX.okn g) rfl
  have r := hX.n
  obtain ⟨n, e, e2, hn'⟩ := vDay_nI g
  unfold nDay
  rw [e2]
  subst e
  (refine rR.mk ?_ ?_ ?_ ?_ ?_ ?_ ?_ ?_ ?_ ?_ ?_ ?_ ?_ ?_ ?_ ?_ ?_ ?_ ?_ ?_ ?_ ?_ ?_); (all_goals (try simp (disch := omega) only [li, ll, nI_add, nI_mul', nI_sub', nI_div', qRem_nI, lN_add, lN_mul, lN_sub, lN_div', qRemL_lN, qIn_I, qIx_nI, nI_ltI, nI_leI, nI_eq, nI_eqn, nI_eqn', nI_len, nI_ltn, nI_nle', nI_nlt', lN_eqn, lg_lt, lg_gt, lg_eq, lg_le, lg_ge, lgn_lt, lgn_gt, lgn_eq, lgn_le, lgn_ge, pk_lLT, pk_lLE, pk_lEQ, nI_l, lN_i, qShl_n, nI_and, nI_or, lN_and, lN_or, nI_andn, lN_andn, pI_e, pI_f, pI_c, pL_e, pL_f, pL_c, pI_L, pL_I, qB_1, qZb_n, true_and, and_true, forall_const, not_true_eq_false, not_false_eq_true, Nat.reduceLT, Nat.reduceLeDiff, Nat.reduceEqDiff, Nat.reduceAdd, Nat.reduceMul, Nat.reduceSub, Nat.reduceMod, Nat.reduceDiv, false_implies, implies_true, sP_e, sP_f, sP_c])); (all_goals try (first | done | (first | done | exact r.ppl | exact r.day | exact r.clk | exact r.txs | exact r.rul | exact r.tks | exact r.gvs | exact r.nds | exact r.hds | exact r.num | exact r.fst | exact r.nr | exact r.nr0 | exact r.gv | exact r.ndA | exact r.ndB | exact r.nda | exact r.ndh | exact r.hrd | exact r.hri | exact r.tkh | exact r.tkA | exact r.tkB) | (intro i hi; (try simp (disch := omega) only [li, ll, nI_add, nI_mul', nI_sub', nI_div', qRem_nI, lN_add, lN_mul, lN_sub, lN_div', qRemL_lN, qIn_I, qIx_nI, nI_ltI, nI_leI, nI_eq, nI_eqn, nI_eqn', nI_len, nI_ltn, nI_nle', nI_nlt', lN_eqn, lg_lt, lg_gt, lg_eq, lg_le, lg_ge, lgn_lt, lgn_gt, lgn_eq, lgn_le, lgn_ge, pk_lLT, pk_lLE, pk_lEQ, nI_l, lN_i, qShl_n, nI_and, nI_or, lN_and, lN_or, nI_andn, lN_andn, pI_e, pI_f, pI_c, pL_e, pL_f, pL_c, pI_L, pL_I, qB_1, qZb_n, true_and, and_true, forall_const, not_true_eq_false, not_false_eq_true, Nat.reduceLT, Nat.reduceLeDiff, Nat.reduceEqDiff, Nat.reduceAdd, Nat.reduceMul, Nat.reduceSub, Nat.reduceMod, Nat.reduceDiv, false_implies, implies_true, sP_e, sP_f, sP_c]); first | exact r.num i hi | exact r.fst i hi | exact r.nr i hi | exact r.gv i hi | exact r.ndA i hi | exact r.ndB i hi | exact r.nda i hi | exact r.ndh i hi | exact r.hrd i hi | exact r.hri i hi | exact r.tkh i hi | exact r.tkA i hi | exact r.tkB i hi) | (intro i hi hj; (try simp (disch := omega) only [li, ll, nI_add, nI_mul', nI_sub', nI_div', qRem_nI, lN_add, lN_mul, lN_sub, lN_div', qRemL_lN, qIn_I, qIx_nI, nI_ltI, nI_leI, nI_eq, nI_eqn, nI_eqn', nI_len, nI_ltn, nI_nle', nI_nlt', lN_eqn, lg_lt, lg_gt, lg_eq, lg_le, lg_ge, lgn_lt, lgn_gt, lgn_eq, lgn_le, lgn_ge, pk_lLT, pk_lLE, pk_lEQ, nI_l, lN_i, qShl_n, nI_and, nI_or, lN_and, lN_or, nI_andn, lN_andn, pI_e, pI_f, pI_c, pL_e, pL_f, pL_c, pI_L, pL_I, qB_1, qZb_n, true_and, and_true, forall_const, not_true_eq_false, not_false_eq_true, Nat.reduceLT, Nat.reduceLeDiff, Nat.reduceEqDiff, Nat.reduceAdd, Nat.reduceMul, Nat.reduceSub, Nat.reduceMod, Nat.reduceDiv, false_implies, implies_true, sP_e, sP_f, sP_c]); exact r.nr0 i hi hj)))
def vGv (N : vS) (h : Int32) : Prop := vNum h ∧ N 6 0 < 6 ∧ ∀ i, i < N 6 0 → ¬ nI (N 13 i) = h
def nGv (N : vS) (h : Int32) : vS := sPut (sPut N 13 (N 6 0) (qIx h)) 6 0 (N 6 0 + 1)
theorem nGv_ok {h : Int32} (o : okS N) (g : vGv N h) : okS (nGv N h) := by
  obtain ⟨n, h1, h2, e, e2⟩ := nI_rng 1 9999 g.1.1 g.1.2
  unfold nGv
  rw [e2]
  have g2 := g.2.1
  (refine okS.mk ?_ ?_ ?_ ?_ ?_ ?_ ?_ ?_ ?_ ?_ ?_ ?_ ?_ ?_ ?_ ?_); (all_goals (try simp (disch := omega) only [li, ll, nI_add, nI_mul', nI_sub', nI_div', qRem_nI, lN_add, lN_mul, lN_sub, lN_div', qRemL_lN, qIn_I, qIx_nI, nI_ltI, nI_leI, nI_eq, nI_eqn, nI_eqn', nI_len, nI_ltn, nI_nle', nI_nlt', lN_eqn, lg_lt, lg_gt, lg_eq, lg_le, lg_ge, lgn_lt, lgn_gt, lgn_eq, lgn_le, lgn_ge, pk_lLT, pk_lLE, pk_lEQ, nI_l, lN_i, qShl_n, nI_and, nI_or, lN_and, lN_or, nI_andn, lN_andn, pI_e, pI_f, pI_c, pL_e, pL_f, pL_c, pI_L, pL_I, qB_1, qZb_n, true_and, and_true, forall_const, not_true_eq_false, not_false_eq_true, Nat.reduceLT, Nat.reduceLeDiff, Nat.reduceEqDiff, Nat.reduceAdd, Nat.reduceMul, Nat.reduceSub, Nat.reduceMod, Nat.reduceDiv, false_implies, implies_true, sP_e, sP_f, sP_c])); (all_goals try (first | done | (first | done | exact o.p12 | exact o.day | exact o.clk | exact o.txs | exact o.rul | exact o.tks | exact o.gvs | exact o.nds | exact o.hds | exact o.num | exact o.fst | exact o.nr | exact o.gv | exact o.need | exact o.hrd | exact o.tlk) | (intro i hi; (try simp (disch := omega) only [li, ll, nI_add, nI_mul', nI_sub', nI_div', qRem_nI, lN_add, lN_mul, lN_sub, lN_div', qRemL_lN, qIn_I, qIx_nI, nI_ltI, nI_leI, nI_eq, nI_eqn, nI_eqn', nI_len, nI_ltn, nI_nle', nI_nlt', lN_eqn, lg_lt, lg_gt, lg_eq, lg_le, lg_ge, lgn_lt, lgn_gt, lgn_eq, lgn_le, lgn_ge, pk_lLT, pk_lLE, pk_lEQ, nI_l, lN_i, qShl_n, nI_and, nI_or, lN_and, lN_or, nI_andn, lN_andn, pI_e, pI_f, pI_c, pL_e, pL_f, pL_c, pI_L, pL_I, qB_1, qZb_n, true_and, and_true, forall_const, not_true_eq_false, not_false_eq_true, Nat.reduceLT, Nat.reduceLeDiff, Nat.reduceEqDiff, Nat.reduceAdd, Nat.reduceMul, Nat.reduceSub, Nat.reduceMod, Nat.reduceDiv, false_implies, implies_true, sP_e, sP_f, sP_c]); first | exact o.num i hi | exact o.fst i hi | exact o.nr i hi | exact o.gv i hi | exact o.need i hi | exact o.hrd i hi | exact o.tlk i hi)))
  · omega
  · intro i hi
    by_cases q : i = N 6 0
    · subst q
      simp (disch := omega) only [li, ll, nI_add, nI_mul', nI_sub', nI_div', qRem_nI, lN_add, lN_mul, lN_sub, lN_div', qRemL_lN, qIn_I, qIx_nI, nI_ltI, nI_leI, nI_eq, nI_eqn, nI_eqn', nI_len, nI_ltn, nI_nle', nI_nlt', lN_eqn, lg_lt, lg_gt, lg_eq, lg_le, lg_ge, lgn_lt, lgn_gt, lgn_eq, lgn_le, lgn_ge, pk_lLT, pk_lLE, pk_lEQ, nI_l, lN_i, qShl_n, nI_and, nI_or, lN_and, lN_or, nI_andn, lN_andn, pI_e, pI_f, pI_c, pL_e, pL_f, pL_c, pI_L, pL_I, qB_1, qZb_n, true_and, and_true, forall_const, not_true_eq_false, not_false_eq_true, Nat.reduceLT, Nat.reduceLeDiff, Nat.reduceEqDiff, Nat.reduceAdd, Nat.reduceMul, Nat.reduceSub, Nat.reduceMod, Nat.reduceDiv, false_implies, implies_true, sP_e, sP_c]
      omega
    · simp (disch := omega) only [li, ll, nI_add, nI_mul', nI_sub', nI_div', qRem_nI, lN_add, lN_mul, lN_sub, lN_div', qRemL_lN, qIn_I, qIx_nI, nI_ltI, nI_leI, nI_eq, nI_eqn, nI_eqn', nI_len, nI_ltn, nI_nle', nI_nlt', lN_eqn, lg_lt, lg_gt, lg_eq, lg_le, lg_ge, lgn_lt, lgn_gt, lgn_eq, lgn_le, lgn_ge, pk_lLT, pk_lLE, pk_lEQ, nI_l, lN_i, qShl_n, nI_and, nI_or, lN_and, lN_or, nI_andn, lN_andn, pI_e, pI_f, pI_c, pL_e, pL_f, pL_c, pI_L, pL_I, qB_1, qZb_n, true_and, and_true, forall_const, not_true_eq_false, not_false_eq_true, Nat.reduceLT, Nat.reduceLeDiff, Nat.reduceEqDiff, Nat.reduceAdd, Nat.reduceMul, Nat.reduceSub, Nat.reduceMod, Nat.reduceDiv, false_implies, implies_true, sP_f, sP_c]
      exact o.gv i (by omega)
theorem c_given {h : Int32} (hd : 2 ≤ d) (hX : rX w N K T Z) (hy : ∀ w', vGv N h → rX w' (nGv N h) K T Z → fr (fun c => c < 72) w w' → Q (nI (N 6 0 + 1)) w') (hn : ¬ vGv N h → Q (-1) w) : qCall (some s) d 152 [.ref 1, .int h] w (qQi Q) := by
  obtain ⟨d, rfl, hd1⟩ := dS hd
  have r := hX.n
  have o := hX.okn
  have o6 := o.gvs
  refine A_X_given (c_isNumber hd1 (fun g => b1 ?_) (fun g => b0 (hn (fun q => g q.1))))
  simp (disch := omega) only [li, ll, nI_add, nI_mul', nI_sub', nI_div', qRem_nI, lN_add, lN_mul, lN_sub, lN_div', qRemL_lN, qIn_I, qIx_nI, nI_ltI, nI_leI, nI_eq, nI_eqn, nI_eqn', nI_len, nI_ltn, nI_nle', nI_nlt', lN_eqn, lg_lt, lg_gt, lg_eq, lg_le, lg_ge, lgn_lt, lgn_gt, lgn_eq, lgn_le, lgn_ge, pk_lLT, pk_lLE, pk_lEQ, nI_l, lN_i, qShl_n, nI_and, nI_or, lN_and, lN_or, nI_andn, lN_andn, pI_e, pI_f, pI_c, pL_e, pL_f, pL_c, pI_L, pL_I, qB_1, qZb_n, true_and, and_true, forall_const, not_true_eq_false, not_false_eq_true, Nat.reduceLT, Nat.reduceLeDiff, Nat.reduceEqDiff, Nat.reduceAdd, Nat.reduceMul, Nat.reduceSub, Nat.reduceMod, Nat.reduceDiv, false_implies, implies_true, r.gvs]
  refine ⟨fun q => by omega, fun _ => ⟨fun g6 => ?_, fun g6 => hn (fun q => by have := q.2.1; omega)⟩⟩
  have loop : ∀ k i, N 6 0 - i = k → i ≤ N 6 0 → (∀ j, j < i → ¬ nI (N 13 j) = h) → qAt s d c_X_given (qQi Q) 33 [some (.ref 1), some (.int h), some (.int (nI i))] [] w := by
    intro k
    induction k with
    | zero =>
      intro i hk hi hj
      have e : i = N 6 0 := by omega
      subst e
      refine A_X_given_33 ?_
      simp (disch := omega) only [li, ll, nI_add, nI_mul', nI_sub', nI_div', qRem_nI, lN_add, lN_mul, lN_sub, lN_div', qRemL_lN, qIn_I, qIx_nI, nI_ltI, nI_leI, nI_eq, nI_eqn, nI_eqn', nI_len, nI_ltn, nI_nle', nI_nlt', lN_eqn, lg_lt, lg_gt, lg_eq, lg_le, lg_ge, lgn_lt, lgn_gt, lgn_eq, lgn_le, lgn_ge, pk_lLT, pk_lLE, pk_lEQ, nI_l, lN_i, qShl_n, nI_and, nI_or, lN_and, lN_or, nI_andn, lN_andn, pI_e, pI_f, pI_c, pL_e, pL_f, pL_c, pI_L, pL_I, qB_1, qZb_n, true_and, and_true, forall_const, not_true_eq_false, not_false_eq_true, Nat.reduceLT, Nat.reduceLeDiff, Nat.reduceEqDiff, Nat.reduceAdd, Nat.reduceMul, Nat.reduceSub, Nat.reduceMod, Nat.reduceDiv, false_implies, implies_true, r.gvs]
      refine ⟨fun _ => ⟨g6, ?_⟩, fun q => by omega⟩
      have gg : vGv N h := ⟨g, g6, hj⟩
      refine hy _ gg ?_ (fr_I (fr_pI (by decide)) (by decide))
      refine hX.upd (A := fun c => c < 13) (fr_I (fr_pI (by decide)) (by decide)) (fun c _ _ => by omega) ?_ (nGv_ok o gg) rfl hX.opn hX.op2
      obtain ⟨n, h1, h2, e, e2⟩ := nI_rng 1 9999 g.1 g.2
      unfold nGv
      rw [e2]
      subst e
      (refine rS.mk ?_ ?_ ?_ ?_ ?_ ?_ ?_ ?_ ?_ ?_ ?_ ?_ ?_ ?_ ?_ ?_ ?_ ?_ ?_ ?_); (all_goals (try simp (disch := omega) only [li, ll, nI_add, nI_mul', nI_sub', nI_div', qRem_nI, lN_add, lN_mul, lN_sub, lN_div', qRemL_lN, qIn_I, qIx_nI, nI_ltI, nI_leI, nI_eq, nI_eqn, nI_eqn', nI_len, nI_ltn, nI_nle', nI_nlt', lN_eqn, lg_lt, lg_gt, lg_eq, lg_le, lg_ge, lgn_lt, lgn_gt, lgn_eq, lgn_le, lgn_ge, pk_lLT, pk_lLE, pk_lEQ, nI_l, lN_i, qShl_n, nI_and, nI_or, lN_and, lN_or, nI_andn, lN_andn, pI_e, pI_f, pI_c, pL_e, pL_f, pL_c, pI_L, pL_I, qB_1, qZb_n, true_and, and_true, forall_const, not_true_eq_false, not_false_eq_true, Nat.reduceLT, Nat.reduceLeDiff, Nat.reduceEqDiff, Nat.reduceAdd, Nat.reduceMul, Nat.reduceSub, Nat.reduceMod, Nat.reduceDiv, false_implies, implies_true, sP_e, sP_f, sP_c])); (all_goals try (first | done | (first | done | exact r.ppl | exact r.day | exact r.clk | exact r.txs | exact r.rul | exact r.tks | exact r.gvs | exact r.nds | exact r.hds | exact r.hIs | exact r.num | exact r.fst | exact r.nr | exact r.tkh | exact r.tkp | exact r.gv | exact r.ndp | exact r.nda | exact r.ndh | exact r.hrd) | (intro i hi; (try simp (disch := omega) only [li, ll, nI_add, nI_mul', nI_sub', nI_div', qRem_nI, lN_add, lN_mul, lN_sub, lN_div', qRemL_lN, qIn_I, qIx_nI, nI_ltI, nI_leI, nI_eq, nI_eqn, nI_eqn', nI_len, nI_ltn, nI_nle', nI_nlt', lN_eqn, lg_lt, lg_gt, lg_eq, lg_le, lg_ge, lgn_lt, lgn_gt, lgn_eq, lgn_le, lgn_ge, pk_lLT, pk_lLE, pk_lEQ, nI_l, lN_i, qShl_n, nI_and, nI_or, lN_and, lN_or, nI_andn, lN_andn, pI_e, pI_f, pI_c, pL_e, pL_f, pL_c, pI_L, pL_I, qB_1, qZb_n, true_and, and_true, forall_const, not_true_eq_false, not_false_eq_true, Nat.reduceLT, Nat.reduceLeDiff, Nat.reduceEqDiff, Nat.reduceAdd, Nat.reduceMul, Nat.reduceSub, Nat.reduceMod, Nat.reduceDiv, false_implies, implies_true, sP_e, sP_f, sP_c]); first | exact r.num i hi | exact r.fst i hi | exact r.nr i hi | exact r.tkh i hi | exact r.tkp i hi | exact r.gv i hi | exact r.ndp i hi | exact r.nda i hi | exact r.ndh i hi | exact r.hrd i hi)))
      intro i hi
      by_cases q : i = N 6 0
      · subst q
        simp (disch := omega) only [li, ll, nI_add, nI_mul', nI_sub', nI_div', qRem_nI, lN_add, lN_mul, lN_sub, lN_div', qRemL_lN, qIn_I, qIx_nI, nI_ltI, nI_leI, nI_eq, nI_eqn, nI_eqn', nI_len, nI_ltn, nI_nle', nI_nlt', lN_eqn, lg_lt, lg_gt, lg_eq, lg_le, lg_ge, lgn_lt, lgn_gt, lgn_eq, lgn_le, lgn_ge, pk_lLT, pk_lLE, pk_lEQ, nI_l, lN_i, qShl_n, nI_and, nI_or, lN_and, lN_or, nI_andn, lN_andn, pI_e, pI_f, pI_c, pL_e, pL_f, pL_c, pI_L, pL_I, qB_1, qZb_n, true_and, and_true, forall_const, not_true_eq_false, not_false_eq_true, Nat.reduceLT, Nat.reduceLeDiff, Nat.reduceEqDiff, Nat.reduceAdd, Nat.reduceMul, Nat.reduceSub, Nat.reduceMod, Nat.reduceDiv, false_implies, implies_true, sP_e, sP_f, sP_c]
      · simp (disch := omega) only [li, ll, nI_add, nI_mul', nI_sub', nI_div', qRem_nI, lN_add, lN_mul, lN_sub, lN_div', qRemL_lN, qIn_I, qIx_nI, nI_ltI, nI_leI, nI_eq, nI_eqn, nI_eqn', nI_len, nI_ltn, nI_nle', nI_nlt', lN_eqn, lg_lt, lg_gt, lg_eq, lg_le, lg_ge, lgn_lt, lgn_gt, lgn_eq, lgn_le, lgn_ge, pk_lLT, pk_lLE, pk_lEQ, nI_l, lN_i, qShl_n, nI_and, nI_or, lN_and, lN_or, nI_andn, lN_andn, pI_e, pI_f, pI_c, pL_e, pL_f, pL_c, pI_L, pL_I, qB_1, qZb_n, true_and, and_true, forall_const, not_true_eq_false, not_false_eq_true, Nat.reduceLT, Nat.reduceLeDiff, Nat.reduceEqDiff, Nat.reduceAdd, Nat.reduceMul, Nat.reduceSub, Nat.reduceMod, Nat.reduceDiv, false_implies, implies_true, sP_e, sP_f, sP_c]
        exact r.gv i (by omega)
    | succ k ih =>
      intro i hk hi hj
      refine A_X_given_33 ?_
      simp (disch := omega) only [li, ll, nI_add, nI_mul', nI_sub', nI_div', qRem_nI, lN_add, lN_mul, lN_sub, lN_div', qRemL_lN, qIn_I, qIx_nI, nI_ltI, nI_leI, nI_eq, nI_eqn, nI_eqn', nI_len, nI_ltn, nI_nle', nI_nlt', lN_eqn, lg_lt, lg_gt, lg_eq, lg_le, lg_ge, lgn_lt, lgn_gt, lgn_eq, lgn_le, lgn_ge, pk_lLT, pk_lLE, pk_lEQ, nI_l, lN_i, qShl_n, nI_and, nI_or, lN_and, lN_or, nI_andn, lN_andn, pI_e, pI_f, pI_c, pL_e, pL_f, pL_c, pI_L, pL_I, qB_1, qZb_n, true_and, and_true, forall_const, not_true_eq_false, not_false_eq_true, Nat.reduceLT, Nat.reduceLeDiff, Nat.reduceEqDiff, Nat.reduceAdd, Nat.reduceMul, Nat.reduceSub, Nat.reduceMod, Nat.reduceDiv, false_implies, implies_true, r.gvs]
      refine ⟨fun q => by omega, fun _ => ⟨by omega, ?_⟩⟩
      rw [r.gv i (by omega)]
      refine ⟨fun q => ih (i + 1) (by omega) (by omega) (fun j hj2 => ?_), fun q => hn (fun q2 => q2.2.2 i (by omega) q)⟩
      by_cases e : j = i
      · subst e; exact q
      · exact hj j (by omega)
  exact loop _ 0 rfl (by omega) (fun j hj => by omega)
theorem m_given {h : Int32} (hd : 2 ≤ d) (hX : rM w N K T Z) (hy : ∀ w', vGv N h → rM w' (nGv N h) K T Z → fr (fun c => 72 ≤ c) w w' → Q (nI (N 6 0 + 1)) w') (hn : ¬ vGv N h → Q (-1) w) : qCall (some s) d 298 [.ref 72, .int h] w (qQi Q) := by
  obtain ⟨d, rfl, hd1⟩ := dS hd
  have r := hX.n
  have o := hX.okn
  have o6 := o.gvs
  refine A_Mo_given (m_isInB hd1 (fun g => b1 ?_) (fun g => b0 (hn (fun q => g q.1))))
  simp (disch := omega) only [li, ll, nI_add, nI_mul', nI_sub', nI_div', qRem_nI, lN_add, lN_mul, lN_sub, lN_div', qRemL_lN, qIn_I, qIx_nI, nI_ltI, nI_leI, nI_eq, nI_eqn, nI_eqn', nI_len, nI_ltn, nI_nle', nI_nlt', lN_eqn, lg_lt, lg_gt, lg_eq, lg_le, lg_ge, lgn_lt, lgn_gt, lgn_eq, lgn_le, lgn_ge, pk_lLT, pk_lLE, pk_lEQ, nI_l, lN_i, qShl_n, nI_and, nI_or, lN_and, lN_or, nI_andn, lN_andn, pI_e, pI_f, pI_c, pL_e, pL_f, pL_c, pI_L, pL_I, qB_1, qZb_n, true_and, and_true, forall_const, not_true_eq_false, not_false_eq_true, Nat.reduceLT, Nat.reduceLeDiff, Nat.reduceEqDiff, Nat.reduceAdd, Nat.reduceMul, Nat.reduceSub, Nat.reduceMod, Nat.reduceDiv, false_implies, implies_true, r.gvs]
  refine ⟨fun g6 => ?_, fun g6 => hn (fun q => by have := q.2.1; omega)⟩
  have loop : ∀ k i, N 6 0 - i = k → i ≤ N 6 0 → (∀ j, j < i → ¬ nI (N 13 j) = h) → qAt s d c_Mo_given (qQi Q) 27 [some (.ref 72), some (.int h), some (.int (nI i))] [] w := by
    intro k
    induction k with
    | zero =>
      intro i hk hi hj
      have e : i = N 6 0 := by omega
      subst e
      refine A_Mo_given_27 ?_
      simp (disch := omega) only [li, ll, nI_add, nI_mul', nI_sub', nI_div', qRem_nI, lN_add, lN_mul, lN_sub, lN_div', qRemL_lN, qIn_I, qIx_nI, nI_ltI, nI_leI, nI_eq, nI_eqn, nI_eqn', nI_len, nI_ltn, nI_nle', nI_nlt', lN_eqn, lg_lt, lg_gt, lg_eq, lg_le, lg_ge, lgn_lt, lgn_gt, lgn_eq, lgn_le, lgn_ge, pk_lLT, pk_lLE, pk_lEQ, nI_l, lN_i, qShl_n, nI_and, nI_or, lN_and, lN_or, nI_andn, lN_andn, pI_e, pI_f, pI_c, pL_e, pL_f, pL_c, pI_L, pL_I, qB_1, qZb_n, true_and, and_true, forall_const, not_true_eq_false, not_false_eq_true, Nat.reduceLT, Nat.reduceLeDiff, Nat.reduceEqDiff, Nat.reduceAdd, Nat.reduceMul, Nat.reduceSub, Nat.reduceMod, Nat.reduceDiv, false_implies, implies_true, r.gvs]
      refine ⟨fun _ => ⟨by omega, ?_⟩, fun q => by omega⟩
      have gg : vGv N h := ⟨g, by omega, hj⟩
      refine hy _ gg ?_ (fr_I (fr_pI (by decide)) (by decide))
      refine hX.upd (A := fun c => c = 73) (fr_I (fr_pI rfl) rfl) (fun c _ => by omega) ?_ (nGv_ok o gg) rfl
      obtain ⟨n, h1, h2, e, e2⟩ := nI_rng 1 9999 g.1 g.2
      unfold nGv
      rw [e2]
      subst e
      have o0 := o.p12
      have o5 := o.tks
      have o7 := o.nds
      have o8 := o.hds
      (refine rR.mk ?_ ?_ ?_ ?_ ?_ ?_ ?_ ?_ ?_ ?_ ?_ ?_ ?_ ?_ ?_ ?_ ?_ ?_ ?_ ?_ ?_ ?_ ?_); (all_goals (try simp (disch := omega) only [li, ll, nI_add, nI_mul', nI_sub', nI_div', qRem_nI, lN_add, lN_mul, lN_sub, lN_div', qRemL_lN, qIn_I, qIx_nI, nI_ltI, nI_leI, nI_eq, nI_eqn, nI_eqn', nI_len, nI_ltn, nI_nle', nI_nlt', lN_eqn, lg_lt, lg_gt, lg_eq, lg_le, lg_ge, lgn_lt, lgn_gt, lgn_eq, lgn_le, lgn_ge, pk_lLT, pk_lLE, pk_lEQ, nI_l, lN_i, qShl_n, nI_and, nI_or, lN_and, lN_or, nI_andn, lN_andn, pI_e, pI_f, pI_c, pL_e, pL_f, pL_c, pI_L, pL_I, qB_1, qZb_n, true_and, and_true, forall_const, not_true_eq_false, not_false_eq_true, Nat.reduceLT, Nat.reduceLeDiff, Nat.reduceEqDiff, Nat.reduceAdd, Nat.reduceMul, Nat.reduceSub, Nat.reduceMod, Nat.reduceDiv, false_implies, implies_true, sP_e, sP_f, sP_c])); (all_goals try (first | done | (first | done | exact r.ppl | exact r.day | exact r.clk | exact r.txs | exact r.rul | exact r.tks | exact r.gvs | exact r.nds | exact r.hds | exact r.num | exact r.fst | exact r.nr | exact r.nr0 | exact r.gv | exact r.ndA | exact r.ndB | exact r.nda | exact r.ndh | exact r.hrd | exact r.hri | exact r.tkh | exact r.tkA | exact r.tkB) | (intro i hi; (try simp (disch := omega) only [li, ll, nI_add, nI_mul', nI_sub', nI_div', qRem_nI, lN_add, lN_mul, lN_sub, lN_div', qRemL_lN, qIn_I, qIx_nI, nI_ltI, nI_leI, nI_eq, nI_eqn, nI_eqn', nI_len, nI_ltn, nI_nle', nI_nlt', lN_eqn, lg_lt, lg_gt, lg_eq, lg_le, lg_ge, lgn_lt, lgn_gt, lgn_eq, lgn_le, lgn_ge, pk_lLT, pk_lLE, pk_lEQ, nI_l, lN_i, qShl_n, nI_and, nI_or, lN_and, lN_or, nI_andn, lN_andn, pI_e, pI_f, pI_c, pL_e, pL_f, pL_c, pI_L, pL_I, qB_1, qZb_n, true_and, and_true, forall_const, not_true_eq_false, not_false_eq_true, Nat.reduceLT, Nat.reduceLeDiff, Nat.reduceEqDiff, Nat.reduceAdd, Nat.reduceMul, Nat.reduceSub, Nat.reduceMod, Nat.reduceDiv, false_implies, implies_true, sP_e, sP_f, sP_c]); first | exact r.num i hi | exact r.fst i hi | exact r.nr i hi | exact r.gv i hi | exact r.ndA i hi | exact r.ndB i hi | exact r.nda i hi | exact r.ndh i hi | exact r.hrd i hi | exact r.hri i hi | exact r.tkh i hi | exact r.tkA i hi | exact r.tkB i hi) | (intro i hi hj; (try simp (disch := omega) only [li, ll, nI_add, nI_mul', nI_sub', nI_div', qRem_nI, lN_add, lN_mul, lN_sub, lN_div', qRemL_lN, qIn_I, qIx_nI, nI_ltI, nI_leI, nI_eq, nI_eqn, nI_eqn', nI_len, nI_ltn, nI_nle', nI_nlt', lN_eqn, lg_lt, lg_gt, lg_eq, lg_le, lg_ge, lgn_lt, lgn_gt, lgn_eq, lgn_le, lgn_ge, pk_lLT, pk_lLE, pk_lEQ, nI_l, lN_i, qShl_n, nI_and, nI_or, lN_and, lN_or, nI_andn, lN_andn, pI_e, pI_f, pI_c, pL_e, pL_f, pL_c, pI_L, pL_I, qB_1, qZb_n, true_and, and_true, forall_const, not_true_eq_false, not_false_eq_true, Nat.reduceLT, Nat.reduceLeDiff, Nat.reduceEqDiff, Nat.reduceAdd, Nat.reduceMul, Nat.reduceSub, Nat.reduceMod, Nat.reduceDiv, false_implies, implies_true, sP_e, sP_f, sP_c]); exact r.nr0 i hi hj)))
      intro i hi
      by_cases q : i = N 6 0
      · subst q
        simp (disch := omega) only [li, ll, nI_add, nI_mul', nI_sub', nI_div', qRem_nI, lN_add, lN_mul, lN_sub, lN_div', qRemL_lN, qIn_I, qIx_nI, nI_ltI, nI_leI, nI_eq, nI_eqn, nI_eqn', nI_len, nI_ltn, nI_nle', nI_nlt', lN_eqn, lg_lt, lg_gt, lg_eq, lg_le, lg_ge, lgn_lt, lgn_gt, lgn_eq, lgn_le, lgn_ge, pk_lLT, pk_lLE, pk_lEQ, nI_l, lN_i, qShl_n, nI_and, nI_or, lN_and, lN_or, nI_andn, lN_andn, pI_e, pI_f, pI_c, pL_e, pL_f, pL_c, pI_L, pL_I, qB_1, qZb_n, true_and, and_true, forall_const, not_true_eq_false, not_false_eq_true, Nat.reduceLT, Nat.reduceLeDiff, Nat.reduceEqDiff, Nat.reduceAdd, Nat.reduceMul, Nat.reduceSub, Nat.reduceMod, Nat.reduceDiv, false_implies, implies_true, sP_e, sP_f, sP_c]
      · simp (disch := omega) only [li, ll, nI_add, nI_mul', nI_sub', nI_div', qRem_nI, lN_add, lN_mul, lN_sub, lN_div', qRemL_lN, qIn_I, qIx_nI, nI_ltI, nI_leI, nI_eq, nI_eqn, nI_eqn', nI_len, nI_ltn, nI_nle', nI_nlt', lN_eqn, lg_lt, lg_gt, lg_eq, lg_le, lg_ge, lgn_lt, lgn_gt, lgn_eq, lgn_le, lgn_ge, pk_lLT, pk_lLE, pk_lEQ, nI_l, lN_i, qShl_n, nI_and, nI_or, lN_and, lN_or, nI_andn, lN_andn, pI_e, pI_f, pI_c, pL_e, pL_f, pL_c, pI_L, pL_I, qB_1, qZb_n, true_and, and_true, forall_const, not_true_eq_false, not_false_eq_true, Nat.reduceLT, Nat.reduceLeDiff, Nat.reduceEqDiff, Nat.reduceAdd, Nat.reduceMul, Nat.reduceSub, Nat.reduceMod, Nat.reduceDiv, false_implies, implies_true, sP_e, sP_f, sP_c]
        exact r.gv i (by omega)
    | succ k ih =>
      intro i hk hi hj
      refine A_Mo_given_27 ?_
      simp (disch := omega) only [li, ll, nI_add, nI_mul', nI_sub', nI_div', qRem_nI, lN_add, lN_mul, lN_sub, lN_div', qRemL_lN, qIn_I, qIx_nI, nI_ltI, nI_leI, nI_eq, nI_eqn, nI_eqn', nI_len, nI_ltn, nI_nle', nI_nlt', lN_eqn, lg_lt, lg_gt, lg_eq, lg_le, lg_ge, lgn_lt, lgn_gt, lgn_eq, lgn_le, lgn_ge, pk_lLT, pk_lLE, pk_lEQ, nI_l, lN_i, qShl_n, nI_and, nI_or, lN_and, lN_or, nI_andn, lN_andn, pI_e, pI_f, pI_c, pL_e, pL_f, pL_c, pI_L, pL_I, qB_1, qZb_n, true_and, and_true, forall_const, not_true_eq_false, not_false_eq_true, Nat.reduceLT, Nat.reduceLeDiff, Nat.reduceEqDiff, Nat.reduceAdd, Nat.reduceMul, Nat.reduceSub, Nat.reduceMod, Nat.reduceDiv, false_implies, implies_true, r.gvs]
      refine ⟨fun q => by omega, fun _ => ⟨by omega, ?_⟩⟩
      rw [r.gv i (by omega)]
      refine ⟨fun q => ih (i + 1) (by omega) (by omega) (fun j hj2 => ?_), fun q => hn (fun q2 => q2.2.2 i (by omega) q)⟩
      by_cases e : j = i
      · subst e; exact q
      · exact hj j (by omega)
  exact loop _ 0 rfl (by omega) (fun j hj => by omega)
end State
