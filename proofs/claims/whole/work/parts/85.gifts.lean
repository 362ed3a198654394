/-! Numbers given, and one that is changed: the class. -/
section Gifts
variable {s : Nat × (Nat → Int32)} {d : Nat} {w : qW} {Q : Int32 → qW → Prop} {QL : Int64 → qW → Prop} {R : qW → Prop} {N S K : vS} {T : Nat → vT} {Z : vZ}
theorem nNm_ok {p v : Nat} (o : okS N) (hv : 1 ≤ v ∧ v ≤ 9999) : okS (sPut N 10 p v) := by
  (refine okS.mk ?_ ?_ ?_ ?_ ?_ ?_ ?_ ?_ ?_ ?_ ?_ ?_ ?_ ?_ ?_ ?_); (all_goals (try simp (disch := omega) only [li, ll, nI_add, nI_mul', nI_sub', nI_div', qRem_nI, lN_add, lN_mul, lN_sub, lN_div', qRemL_lN, qIn_I, qIx_nI, nI_ltI, nI_leI, nI_eq, nI_eqn, nI_eqn', nI_len, nI_ltn, nI_nle', nI_nlt', lN_eqn, lg_lt, lg_gt, lg_eq, lg_le, lg_ge, lgn_lt, lgn_gt, lgn_eq, lgn_le, lgn_ge, pk_lLT, pk_lLE, pk_lEQ, nI_l, lN_i, qShl_n, nI_and, nI_or, lN_and, lN_or, nI_andn, lN_andn, pI_e, pI_f, pI_c, pL_e, pL_f, pL_c, pI_L, pL_I, qB_1, qZb_n, true_and, and_true, forall_const, not_true_eq_false, not_false_eq_true, Nat.reduceLT, Nat.reduceLeDiff, Nat.reduceEqDiff, Nat.reduceAdd, Nat.reduceMul, Nat.reduceSub, Nat.reduceMod, Nat.reduceDiv, false_implies, implies_true, sP_e, sP_f, sP_c])); (all_goals try (first | done | (first | done | exact o.p12 | exact o.day | exact o.clk | exact o.txs | exact o.rul | exact o.tks | exact o.gvs | exact o.nds | exact o.hds | exact o.num | exact o.fst | exact o.nr | exact o.gv | exact o.need | exact o.hrd | exact o.tlk) | (intro i hi; (try simp (disch := omega) only [li, ll, nI_add, nI_mul', nI_sub', nI_div', qRem_nI, lN_add, lN_mul, lN_sub, lN_div', qRemL_lN, qIn_I, qIx_nI, nI_ltI, nI_leI, nI_eq, nI_eqn, nI_eqn', nI_len, nI_ltn, nI_nle', nI_nlt', lN_eqn, lg_lt, lg_gt, lg_eq, lg_le, lg_ge, lgn_lt, lgn_gt, lgn_eq, lgn_le, lgn_ge, pk_lLT, pk_lLE, pk_lEQ, nI_l, lN_i, qShl_n, nI_and, nI_or, lN_and, lN_or, nI_andn, lN_andn, pI_e, pI_f, pI_c, pL_e, pL_f, pL_c, pI_L, pL_I, qB_1, qZb_n, true_and, and_true, forall_const, not_true_eq_false, not_false_eq_true, Nat.reduceLT, Nat.reduceLeDiff, Nat.reduceEqDiff, Nat.reduceAdd, Nat.reduceMul, Nat.reduceSub, Nat.reduceMod, Nat.reduceDiv, false_implies, implies_true, sP_e, sP_f, sP_c]); first | exact o.num i hi | exact o.fst i hi | exact o.nr i hi | exact o.gv i hi | exact o.need i hi | exact o.hrd i hi | exact o.tlk i hi)))
  intro i hi
  by_cases q : i = p
  · subst q; rw [sP_e]; exact hv
  · rw [sP_f q]; exact o.num i hi
theorem c_renumber {p v : Nat} (hd : 6 ≤ d) (hX : rX w N K T Z) (hp : p < N 0 0) (hv : 1 ≤ v ∧ v ≤ 9999) (hQ : ∀ w', rX w' (sPut N 10 p v) K T Z → fr (fun c => c = 3 ∨ c = 48 ∨ c = 49 ∨ c = 51) w w' → R w') : qCall (some s) d 159 [.ref 59, .int (nI p), .int (nI v)] w (qQv R) := by
  obtain ⟨d, rfl, hd1⟩ := dS hd
  have r := hX.n
  have o := hX.okn
  have o0 := o.p12
  refine A_Gifts_renumber ⟨qIn_nI (by omega) (by decide), ?_⟩
  rw [qIx_nI (by omega)]
  obtain ⟨O, hO, hb⟩ := hX.O
  have h : rW (qPutI w 3 p (nI v)) (sPut N 10 p v) K T Z := by
    refine hX.wk.upd (A := fun c => 2 ≤ c ∧ c ≤ 12) (fr_pI (by decide)) (fun c _ _ => by omega) ?_ (nNm_ok o hv) rfl hX.op2
    (refine rS.mk ?_ ?_ ?_ ?_ ?_ ?_ ?_ ?_ ?_ ?_ ?_ ?_ ?_ ?_ ?_ ?_ ?_ ?_ ?_ ?_); (all_goals (try simp (disch := omega) only [li, ll, nI_add, nI_mul', nI_sub', nI_div', qRem_nI, lN_add, lN_mul, lN_sub, lN_div', qRemL_lN, qIn_I, qIx_nI, nI_ltI, nI_leI, nI_eq, nI_eqn, nI_eqn', nI_len, nI_ltn, nI_nle', nI_nlt', lN_eqn, lg_lt, lg_gt, lg_eq, lg_le, lg_ge, lgn_lt, lgn_gt, lgn_eq, lgn_le, lgn_ge, pk_lLT, pk_lLE, pk_lEQ, nI_l, lN_i, qShl_n, nI_and, nI_or, lN_and, lN_or, nI_andn, lN_andn, pI_e, pI_f, pI_c, pL_e, pL_f, pL_c, pI_L, pL_I, qB_1, qZb_n, true_and, and_true, forall_const, not_true_eq_false, not_false_eq_true, Nat.reduceLT, Nat.reduceLeDiff, Nat.reduceEqDiff, Nat.reduceAdd, Nat.reduceMul, Nat.reduceSub, Nat.reduceMod, Nat.reduceDiv, false_implies, implies_true, sP_e, sP_f, sP_c])); (all_goals try (first | done | (first | done | exact r.ppl | exact r.day | exact r.clk | exact r.txs | exact r.rul | exact r.tks | exact r.gvs | exact r.nds | exact r.hds | exact r.hIs | exact r.num | exact r.fst | exact r.nr | exact r.tkh | exact r.tkp | exact r.gv | exact r.ndp | exact r.nda | exact r.ndh | exact r.hrd) | (intro i hi; (try simp (disch := omega) only [li, ll, nI_add, nI_mul', nI_sub', nI_div', qRem_nI, lN_add, lN_mul, lN_sub, lN_div', qRemL_lN, qIn_I, qIx_nI, nI_ltI, nI_leI, nI_eq, nI_eqn, nI_eqn', nI_len, nI_ltn, nI_nle', nI_nlt', lN_eqn, lg_lt, lg_gt, lg_eq, lg_le, lg_ge, lgn_lt, lgn_gt, lgn_eq, lgn_le, lgn_ge, pk_lLT, pk_lLE, pk_lEQ, nI_l, lN_i, qShl_n, nI_and, nI_or, lN_and, lN_or, nI_andn, lN_andn, pI_e, pI_f, pI_c, pL_e, pL_f, pL_c, pI_L, pL_I, qB_1, qZb_n, true_and, and_true, forall_const, not_true_eq_false, not_false_eq_true, Nat.reduceLT, Nat.reduceLeDiff, Nat.reduceEqDiff, Nat.reduceAdd, Nat.reduceMul, Nat.reduceSub, Nat.reduceMod, Nat.reduceDiv, false_implies, implies_true, sP_e, sP_f, sP_c]); first | exact r.num i hi | exact r.fst i hi | exact r.nr i hi | exact r.tkh i hi | exact r.tkp i hi | exact r.gv i hi | exact r.ndp i hi | exact r.nda i hi | exact r.ndh i hi | exact r.hrd i hi)))
    intro j hj
    by_cases q : j = p
    · subst q; simp (disch := omega) only [li, ll, nI_add, nI_mul', nI_sub', nI_div', qRem_nI, lN_add, lN_mul, lN_sub, lN_div', qRemL_lN, qIn_I, qIx_nI, nI_ltI, nI_leI, nI_eq, nI_eqn, nI_eqn', nI_len, nI_ltn, nI_nle', nI_nlt', lN_eqn, lg_lt, lg_gt, lg_eq, lg_le, lg_ge, lgn_lt, lgn_gt, lgn_eq, lgn_le, lgn_ge, pk_lLT, pk_lLE, pk_lEQ, nI_l, lN_i, qShl_n, nI_and, nI_or, lN_and, lN_or, nI_andn, lN_andn, pI_e, pI_f, pI_c, pL_e, pL_f, pL_c, pI_L, pL_I, qB_1, qZb_n, true_and, and_true, forall_const, not_true_eq_false, not_false_eq_true, Nat.reduceLT, Nat.reduceLeDiff, Nat.reduceEqDiff, Nat.reduceAdd, Nat.reduceMul, Nat.reduceSub, Nat.reduceMod, Nat.reduceDiv, false_implies, implies_true, sP_e, sP_f, sP_c]
    · simp (disch := omega) only [li, ll, nI_add, nI_mul', nI_sub', nI_div', qRem_nI, lN_add, lN_mul, lN_sub, lN_div', qRemL_lN, qIn_I, qIx_nI, nI_ltI, nI_leI, nI_eq, nI_eqn, nI_eqn', nI_len, nI_ltn, nI_nle', nI_nlt', lN_eqn, lg_lt, lg_gt, lg_eq, lg_le, lg_ge, lgn_lt, lgn_gt, lgn_eq, lgn_le, lgn_ge, pk_lLT, pk_lLE, pk_lEQ, nI_l, lN_i, qShl_n, nI_and, nI_or, lN_and, lN_or, nI_andn, lN_andn, pI_e, pI_f, pI_c, pL_e, pL_f, pL_c, pI_L, pL_I, qB_1, qZb_n, true_and, and_true, forall_const, not_true_eq_false, not_false_eq_true, Nat.reduceLT, Nat.reduceLeDiff, Nat.reduceEqDiff, Nat.reduceAdd, Nat.reduceMul, Nat.reduceSub, Nat.reduceMod, Nat.reduceDiv, false_implies, implies_true, sP_e, sP_f, sP_c]; exact r.num j hj
  refine c_openFor (O := O) (by omega) h.v (fun c hc => hO c hc) hp ?_
  intro w2 O2 f2 r2 h2
  refine hQ w2 (h.x f2 r2 ?_) (fr_tr (fr_pI (Or.inl rfl)) (fr_wk f2 (fun c hc => by omega)))
  intro c q hc hq
  have hq : q < N 0 0 := hq
  rw [h2 c q hc]
  by_cases e : q = p
  · subst e; rw [if_pos rfl]
  · rw [if_neg e, hb c q hc hq]
    rw [brd_eq (N := N) (N' := sPut N 10 p v) rfl (by rw [sP_f e]) rfl]
theorem all_eq {N' : vS} {set h : Nat} (hS : nrm N' N) (hn : ∀ p, set.testBit p = true → N' 10 p = N 10 p) : allSpk T N' set h = allSpk T N set h := by
  unfold allSpk
  rw [hS 0 (by decide) 0]
  have : (fun p => !set.testBit p || spk T N' p h) = (fun p => !set.testBit p || spk T N p h) := by
    funext p
    cases hb : set.testBit p with
    | false => rfl
    | true =>
      have e10 := hn p hb
      have e11 := hS 11 (by decide) p
      unfold spk spkD due
      rw [hS 1 (by decide) 0, hS 2 (by decide) 0, e10, e11, brd_eq (hS 4 (by decide) 0) e10 e11]
  rw [this]
theorem wtF_eq {N' : vS} {k : Nat} (hS : nrm N' N) (h1 : N' 10 (N 14 k) = N 10 (N 14 k)) (h2 : N' 10 (N 15 k) = N 10 (N 15 k)) : wtF T N' k = wtF T N k := by
  have eg : gotF T N' k = gotF T N k := by
    unfold gotF tgF
    rw [hS 14 (by decide) k, hS 15 (by decide) k, hS 17 (by decide) k]
    refine cnt_congr (fun i _ => all_eq hS (fun p hb => ?_))
    rw [pair_bit, Bool.or_eq_true, decide_eq_true_eq, decide_eq_true_eq] at hb
    rcases hb with e | e
    · rw [← e]; exact h1
    · rw [← e]; exact h2
  unfold wtF rul
  rw [eg, hS 4 (by decide) 0, hS 16 (by decide) k, hS 17 (by decide) k]
theorem c_isBetter {N' : vS} {set low high : Nat} {bw : Int} (hd : 7 ≤ d) (hX : rX w N' K T Z) (hS : nrm N' N) (hs : set < 4096) (hn : ∀ p, p < N 0 0 → set.testBit p = false → N' 10 p = N 10 p) (h60 : ∀ i, i < N 7 0 → w.1 60 i = iZ (wtF T N i)) (hl : low < N 0 0) (hh : high < N 0 0) (hb : w.1 59 0 = iZ bw) (hb1 : -2000000 ≤ bw) (hb2 : bw ≤ 2000000)
    (hQ : ∀ w', rX w' N' K T Z → fr (fun c => wtA c ∨ c = 59) w w' → (bw < wtT T N' (N 7 0) → w'.1 59 0 = iZ (wtT T N' (N 7 0)) ∧ w'.1 59 2 = nI (N' 10 low) ∧ w'.1 59 3 = nI (N' 10 high) ∧ w'.1 59 1 = w.1 59 1) → (¬ bw < wtT T N' (N 7 0) → w'.1 59 = w.1 59) → Q (tI (decide (bw < wtT T N' (N 7 0)))) w') : qCall (some s) d 160 [.ref 59, .int (nI set), .int (nI low), .int (nI high)] w (qQi Q) := by
  obtain ⟨d, rfl, hd1⟩ := dS hd
  have o := hX.okn
  have o0 := o.p12
  have o7 := o.nds
  have e0 := hS 0 (by decide) 0
  have e7 := hS 7 (by decide) 0
  have pb := wtT_b T N' (N 7 0)
  refine A_Gifts_isBetter ?_
  refine lpU (i := 0) (n := N 7 0) (I := fun i w2 => fr wtA w w2) (P := fun i w2 => qAt s d c_Gifts_isBetter (qQi Q) 6 [some (.ref 59), some (.int (nI set)), some (.int (nI low)), some (.int (nI high)), some (.int (iZ (wtT T N' i))), some (.int (nI i))] [] w2) ?_ ?_ (Nat.zero_le _) (fr_rf _ _)
  · intro w2 f2
    have hX2 := hX.wt f2
    refine A_Gifts_isBetter_6 ?_
    have en : w2.1 2 13 = nI (N 7 0) := by rw [hX2.n.nds, e7]
    have e59 : w2.1 59 = w.1 59 := (f2 59 (by unfold wtA; omega)).1
    have b59 : w2.1 59 0 = iZ bw := by rw [e59]; exact hb
    have n1' : w2.1 3 low = nI (N' 10 low) := hX2.n.num low (by omega)
    have n2' : w2.1 3 high = nI (N' 10 high) := hX2.n.num high (by omega)
    rw [en, b59, iZ_lt (by omega) (by omega), qIx_nI (by omega), qIx_nI (by omega), n1', n2']
    refine ⟨fun _ => ⟨fun g => ⟨qIn_nI (by omega) (by decide), qIn_nI (by omega) (by decide), ?_⟩, fun g => ?_⟩, fun g => absurd (Int32.le_refl _) g⟩
    · have f3 : fr (fun c => c = 59) w2 (qPutI (qPutI (qPutI w2 59 0 (iZ (wtT T N' (N 7 0)))) 59 2 (nI (N' 10 low))) 59 3 (nI (N' 10 high))) := fr_I (fr_I (fr_pI rfl) rfl) rfl
      have := hQ _ (hX2.keep f3 (fun c => ⟨fun _ _ => by omega, by omega⟩)) (fr_tr (fr_wk f2 (fun c hc => Or.inl hc)) (fr_wk f3 (fun c hc => Or.inr hc))) (fun _ => ⟨by rw [pI_f (by decide), pI_f (by decide), pI_e], by rw [pI_f (by decide), pI_e], by rw [pI_e], by rw [pI_f (by decide), pI_f (by decide), pI_f (by decide), e59]⟩) (fun q => absurd g q)
      rw [decide_eq_true g] at this
      exact this
    · have := hQ w2 hX2 (fr_wk f2 (fun c hc => Or.inl hc)) (fun q => absurd q g) (fun _ => e59)
      rw [decide_eq_false g] at this
      exact this
  · intro i w2 hi f2 ih
    have hX2 := hX.wt f2
    have i7 : i < N' 7 0 := by omega
    have on := o.need i i7
    obtain ⟨s1, s2, s3⟩ := need_set o i7
    refine A_Gifts_isBetter_6 ?_
    have en : w2.1 2 13 = nI (N 7 0) := by rw [hX2.n.nds, e7]
    have e9 : w2.1 9 i = nI (2 ^ N' 14 i ||| 2 ^ N' 15 i) := hX2.n.ndp i i7
    have e60 : w2.1 60 i = iZ (wtF T N i) := by rw [(f2 60 (by unfold wtA; omega)).1]; exact h60 i hi
    have a1 : (2 ^ N' 14 i ||| 2 ^ N' 15 i) &&& set < 4096 := Nat.lt_of_le_of_lt Nat.and_le_left s3
    rw [en, nI_leI (by omega) (by omega), show qIx (nI i) = i from qIx_nI (by omega), e9, e60, nI_and, eq0 (by omega), nI_1, iZ_add]
    refine ⟨fun g => absurd g (by omega), fun _ => ⟨qIn_nI (by omega) (by decide), fun g => c_worthOf (by omega) hX2 i7 (fun w3 f3 => ?_), fun g => ⟨qIn_nI (by omega) (by decide), ?_⟩⟩⟩
    · rw [iZ_add]
      exact ih w3 (fr_tr f2 f3)
    · have q : ∀ p, (2 ^ N' 14 i ||| 2 ^ N' 15 i).testBit p = true → set.testBit p = false := fun p hp => by
        have := congrArg (fun n => n.testBit p) g
        simp only [Nat.testBit_and, hp, Bool.true_and, Nat.zero_testBit] at this
        exact this
      have e14 := hS 14 (by decide) i
      have e15 := hS 15 (by decide) i
      have q1 := hn (N' 14 i) (by omega) (q _ (by rw [pair_bit]; simp))
      have q2 := hn (N' 15 i) (by omega) (q _ (by rw [pair_bit]; simp))
      rw [e14] at q1
      rw [e15] at q2
      have := ih w2 f2
      have ew : wtT T N' (i + 1) = wtT T N' i + wtF T N i := by rw [← wtF_eq hS q1 q2]; rfl
      rw [ew] at this
      exact this
/-- two numbers changed -/
def st2 (N : vS) (x y a b : Nat) : vS := fun r i => if r = 10 ∧ i = x then a else if r = 10 ∧ i = y then b else N r i
theorem st2_nrm (N : vS) (x y a b : Nat) : nrm (st2 N x y a b) N := fun r hr i => by
  unfold st2
  rw [if_neg (fun q => hr q.1), if_neg (fun q => hr q.1)]
theorem st2_x (N : vS) (x y a b : Nat) : st2 N x y a b 10 x = a := by unfold st2; rw [if_pos ⟨rfl, rfl⟩]
theorem st2_y {N : vS} {x y a b : Nat} (h : ¬ y = x) : st2 N x y a b 10 y = b := by unfold st2; rw [if_neg (fun q => h q.2), if_pos ⟨rfl, rfl⟩]
theorem st2_o {N : vS} {x y a b p : Nat} (h1 : ¬ p = x) (h2 : ¬ p = y) : st2 N x y a b 10 p = N 10 p := by unfold st2; rw [if_neg (fun q => h1 q.2), if_neg (fun q => h2 q.2)]
theorem st2_px (N : vS) (x y a b a' : Nat) : sPut (st2 N x y a b) 10 x a' = st2 N x y a' b := by
  funext r i
  unfold sPut st2
  by_cases e : r = 10 ∧ i = x
  · rw [if_pos e, if_pos e]
  · rw [if_neg e, if_neg e, if_neg e]
theorem st2_py {N : vS} {x y a b b' : Nat} (h : ¬ y = x) : sPut (st2 N x y a b) 10 y b' = st2 N x y a b' := by
  funext r i
  unfold sPut st2
  by_cases e : r = 10 ∧ i = y
  · rw [if_pos e, if_neg (fun q => h (e.2.symm.trans q.2)), if_pos e]
  · rw [if_neg e, if_neg e, if_neg e]
theorem st2_id (N : vS) (x y : Nat) : st2 N x y (N 10 x) (N 10 y) = N := by
  funext r i
  unfold st2
  by_cases e : r = 10 ∧ i = x
  · rw [if_pos e, e.1, e.2]
  · rw [if_neg e]
    by_cases e2 : r = 10 ∧ i = y
    · rw [if_pos e2, e2.1, e2.2]
    · rw [if_neg e2]
theorem st2_same (N : vS) (x a b b' : Nat) : st2 N x x a b = st2 N x x a b' := by
  funext r i
  unfold st2
  by_cases e : r = 10 ∧ i = x
  · rw [if_pos e, if_pos e]
  · rw [if_neg e, if_neg e, if_neg e, if_neg e]
theorem st2_ok {x y a b : Nat} (o : okS N) (ha : 1 ≤ a ∧ a ≤ 9999) (hb : 1 ≤ b ∧ b ≤ 9999) : okS (st2 N x y a b) := by
  have e := st2_nrm N x y a b
  have num : ∀ i, i < N 0 0 → 1 ≤ st2 N x y a b 10 i ∧ st2 N x y a b 10 i ≤ 9999 := by
    intro i hi
    unfold st2
    by_cases e : (10 : Nat) = 10 ∧ i = x
    · rw [if_pos e]; exact ha
    · rw [if_neg e]
      by_cases e2 : (10 : Nat) = 10 ∧ i = y
      · rw [if_pos e2]; exact hb
      · rw [if_neg e2]; exact o.num i hi
  exact okS.mk o.p12 o.day o.clk o.txs o.rul o.tks o.gvs o.nds o.hds num o.fst o.nr o.gv o.need o.hrd o.tlk
/-- of a set of one or two: the lower, the higher, how many ways the higher has -/
def gLo (set : Nat) : Nat := lowB set
def gHi (set : Nat) : Nat := if andn set (2 ^ lowB set) = 0 then lowB set else lowB (andn set (2 ^ lowB set))
def gW (N : vS) (set : Nat) : Nat := if andn set (2 ^ lowB set) = 0 then 1 else N 6 0
def wyF (N : vS) (set t : Nat) : vS := st2 N (gLo set) (gHi set) (N 13 (t / gW N set)) (N 13 (t % gW N set))
/-- the best worth and way among the first ways -/
def bsF (T : Nat → vT) (N : vS) (set : Nat) : Nat → Int × Nat
  | 0 => (-1000000, 0)
  | t + 1 => if (bsF T N set t).1 < wtT T (wyF N set t) (N 7 0) then (wtT T (wyF N set t) (N 7 0), t) else bsF T N set t
def gvOk (n : Nat) : Bool := decide (n = 0) || decide (2 < cntB n) || (decide (gHi n < 12) && n.testBit (gHi n) && (List.range 12).all (fun p => !n.testBit p || decide (p = gLo n) || decide (p = gHi n)) && (decide (andn n (2 ^ lowB n) = 0 ↔ gHi n = gLo n)) && decide (cntB n = if andn n (2 ^ lowB n) = 0 then 1 else 2) && decide (gLo n ≤ gHi n))
theorem gv_all : (List.range 64).all (fun a => (List.range 64).all (fun b => gvOk (64 * a + b))) = true := by decide +kernel
theorem gv_spec {n : Nat} (h0 : 0 < n) (hn : n < 4096) (hc : cntB n ≤ 2) : gHi n < 12 ∧ n.testBit (gHi n) = true ∧ (∀ p, n.testBit p = true → p = gLo n ∨ p = gHi n) ∧ (andn n (2 ^ lowB n) = 0 ↔ gHi n = gLo n) ∧ (cntB n = if andn n (2 ^ lowB n) = 0 then 1 else 2) ∧ gLo n ≤ gHi n := by
  have h := all4096 gv_all hn
  unfold gvOk at h
  simp only [Bool.or_eq_true, Bool.and_eq_true, decide_eq_true_eq] at h
  rcases h with (h | h) | ⟨⟨⟨⟨⟨h1, h2⟩, h3⟩, h4⟩, h5⟩, h6⟩
  · omega
  · omega
  · refine ⟨h1, h2, fun p hp => ?_, h4, h5, h6⟩
    have p12 : p < 12 := by
      rcases Nat.lt_or_ge p 12 with g | g
      · exact g
      · rw [bit_hi (k := 12) hn g] at hp; cases hp
    have := List.all_eq_true.mp h3 p (List.mem_range.mpr p12)
    rw [hp] at this
    simp at this
    exact this
theorem bsF_b (T : Nat → vT) (o : okS N) (set : Nat) : ∀ t, -1000000 ≤ (bsF T N set t).1 ∧ (bsF T N set t).1 ≤ 200000 ∧ (bsF T N set t).2 ≤ t - 1 ∧ (0 < t → -1000000 < (bsF T N set t).1)
  | 0 => by unfold bsF; exact ⟨by omega, by omega, Nat.le_refl _, fun h => absurd h (Nat.lt_irrefl _)⟩
  | t + 1 => by
    have ih := bsF_b T o set t
    have o7 := o.nds
    have pb := wtT_b T (wyF N set t) (N 7 0)
    unfold bsF
    by_cases g : (bsF T N set t).1 < wtT T (wyF N set t) (N 7 0)
    · rw [if_pos g]
      exact ⟨by show _ ≤ wtT T _ _; omega, by show wtT T _ _ ≤ _; omega, by show t ≤ t + 1 - 1; omega, fun _ => by show _ < wtT T _ _; omega⟩
    · rw [if_neg g]
      exact ⟨ih.1, ih.2.1, by omega, fun _ => by omega⟩
theorem c_findBest {set : Nat} (hd : 9 ≤ d) (hX : rX w N K T Z) (h0 : 0 < set) (hs : set < 2 ^ N 0 0) (hc : cntB set ≤ 2) (hm : 1 ≤ N 6 0)
    (hQ : ∀ w', rX w' N K T Z → fr (fun c => c < 72) w w' → w'.1 59 0 = iZ (bsF T N set (N 6 0 * gW N set)).1 → w'.1 59 2 = nI (N 13 ((bsF T N set (N 6 0 * gW N set)).2 / gW N set)) → (¬ gHi set = gLo set → w'.1 59 3 = nI (N 13 ((bsF T N set (N 6 0 * gW N set)).2 % gW N set))) → R w') : qCall (some s) d 158 [.ref 59, .int (nI set)] w (qQv R) := by
  obtain ⟨d, rfl, hd1⟩ := dS hd
  have o := hX.okn
  have o0 := o.p12
  have o6 := o.gvs
  have hs2 : set < 4096 := by have := p12 o0; omega
  obtain ⟨l1, l2, l3⟩ := lowB_spec h0 hs2
  obtain ⟨g1, g2, g3, g4, g5, g6⟩ := gv_spec h0 hs2 hc
  have inP : ∀ p, set.testBit p = true → p < N 0 0 := fun p hp => by
    rcases Nat.lt_or_ge p (N 0 0) with g | g
    · exact g
    · rw [bit_hi hs g] at hp; cases hp
  have lP : gLo set < N 0 0 := inP _ l2
  have hP : gHi set < N 0 0 := inP _ g2
  have hW : gW N set = if gHi set = gLo set then 1 else N 6 0 := by
    unfold gW
    by_cases e : andn set (2 ^ lowB set) = 0
    · rw [if_pos e, if_pos (g4.mp e)]
    · rw [if_neg e, if_neg (fun q => e (g4.mpr q))]
  have hW1 : 1 ≤ gW N set ∧ gW N set ≤ 6 := by
    rw [hW]
    by_cases e : gHi set = gLo set
    · rw [if_pos e]; omega
    · rw [if_neg e]; omega
  have a0 : andn set (2 ^ lowB set) < 4096 := andn_lt12 hs2
  have rn : ∀ p v w2 N2, rX w2 N2 K T Z → p < N2 0 0 → 1 ≤ v ∧ v ≤ 9999 → ∀ RR : qW → Prop, (∀ w', rX w' (sPut N2 10 p v) K T Z → fr (fun c => c = 3 ∨ c = 48 ∨ c = 49 ∨ c = 51) w2 w' → RR w') → qCall (some s) d 159 [.ref 59, .int (nI p), .int (nI v)] w2 (qQv RR) := fun p v w2 N2 hX2 hp hv RR hR => c_renumber (by omega) hX2 hp hv hR
  -- from 25 on
  have main : qAt s d c_Gifts_findBest (qQv R) 25 [some (.ref 59), some (.int (nI set)), some (.int (nI (gLo set))), some (.int (nI (andn set (2 ^ lowB set)))), none, none, none, none, none, none] [.int (nI (gHi set))] w := by
    refine A_Gifts_findBest_25 ⟨qIn_nI (by unfold gLo; omega) (by decide), qIn_nI g1 (by decide), ?_⟩
    have n1 : w.1 3 (gLo set) = nI (N 10 (gLo set)) := hX.n.num _ lP
    have n2 : w.1 3 (gHi set) = nI (N 10 (gHi set)) := hX.n.num _ hP
    have nl := o.num _ lP
    have nh := o.num _ hP
    have e6 : w.1 2 11 = nI (N 6 0) := hX.n.gvs
    rw [qIx_nI (by omega), qIx_nI (by omega), n1, n2, eq0 (by omega), e6]
    have loops : ∀ w1 : qW, fr (fun c => wtA c ∨ c = 60) w w1 → (∀ i, i < N 7 0 → w1.1 60 i = iZ (wtF T N i)) → qAt s d c_Gifts_findBest (qQv R) 81 [some (.ref 59), some (.int (nI set)), some (.int (nI (gLo set))), some (.int (nI (andn set (2 ^ lowB set)))), some (.int (nI (gHi set))), some (.int (nI (N 10 (gLo set)))), some (.int (nI (N 10 (gHi set)))), some (.int (nI (gW N set))), some (.int (nI 0)), none] [] (qPutI w1 59 0 (-1000000 : Int32)) := by
      intro w1 f1 h60
      have hX1 := hX.keep f1 (fun c => ⟨fun _ _ => by unfold wtA; omega, by unfold wtA; omega⟩)
      refine lpU (i := 0) (n := N 6 0) (I := fun i w2 => fr (fun c => c < 72) w w2 ∧ (∀ i, i < N 7 0 → w2.1 60 i = iZ (wtF T N i)) ∧ (∃ a b, (1 ≤ a ∧ a ≤ 9999) ∧ (1 ≤ b ∧ b ≤ 9999) ∧ rX w2 (st2 N (gLo set) (gHi set) a b) K T Z) ∧ w2.1 59 0 = iZ (bsF T N set (i * gW N set)).1 ∧ (0 < i → w2.1 59 2 = nI (N 13 ((bsF T N set (i * gW N set)).2 / gW N set)) ∧ (¬ gHi set = gLo set → w2.1 59 3 = nI (N 13 ((bsF T N set (i * gW N set)).2 % gW N set))))) (P := fun i w2 => qAt s d c_Gifts_findBest (qQv R) 81 [some (.ref 59), some (.int (nI set)), some (.int (nI (gLo set))), some (.int (nI (andn set (2 ^ lowB set)))), some (.int (nI (gHi set))), some (.int (nI (N 10 (gLo set)))), some (.int (nI (N 10 (gHi set)))), some (.int (nI (gW N set))), some (.int (nI i)), none] [] w2) ?_ ?_ (Nat.zero_le _) ?_
      · intro w2 ⟨f2, h602, ⟨a, b, ha, hb, hX2⟩, b1', b2'⟩
        refine A_Gifts_findBest_81 ?_
        have e6' : w2.1 2 11 = nI (N 6 0) := hX2.n.gvs
        rw [e6']
        refine ⟨fun _ => ?_, fun g => absurd (Int32.le_refl _) g⟩
        refine rn _ _ w2 _ hX2 lP nl _ (fun w3 hX3 f3 => ?_)
        rw [st2_px] at hX3
        refine rn _ _ w3 _ hX3 hP nh _ (fun w4 hX4 f4 => ?_)
        have eN : sPut (st2 N (gLo set) (gHi set) (N 10 (gLo set)) b) 10 (gHi set) (N 10 (gHi set)) = N := by
          by_cases e : gHi set = gLo set
          · rw [e, st2_px, st2_same N (gLo set) (N 10 (gLo set)) b (N 10 (gLo set)), st2_id]
          · rw [st2_py e, st2_id]
        rw [eN] at hX4
        have e59 : w4.1 59 = w2.1 59 := by rw [(f4 59 (by omega)).1, (f3 59 (by omega)).1]
        refine hQ w4 hX4 (fr_tr f2 (fr_tr (fr_wk f3 (fun c hc => by omega)) (fr_wk f4 (fun c hc => by omega)))) ?_ ?_ ?_
        · rw [e59]; exact b1'
        · rw [e59]; exact (b2' (by omega)).1
        · rw [e59]; exact (b2' (by omega)).2
      · intro i w2 hi ⟨f2, h602, ⟨a, b, ha, hb, hX2⟩, b1', b2'⟩ ih
        have gi := o.gv i hi
        refine A_Gifts_findBest_81 ?_
        have e6' : w2.1 2 11 = nI (N 6 0) := hX2.n.gvs
        have e8 : w2.1 8 i = nI (N 13 i) := hX2.n.gv i hi
        rw [e6', nI_leI (by omega) (by omega), qIx_nI (by omega), e8]
        refine ⟨fun g => absurd g (by omega), fun _ => ⟨qIn_nI (by omega) (by decide), rn _ _ w2 _ hX2 lP gi _ (fun w3 hX3 f3 => ?_)⟩⟩
        rw [st2_px] at hX3
        have e59 : w3.1 59 = w2.1 59 := (f3 59 (by omega)).1
        have h603 : ∀ i, i < N 7 0 → w3.1 60 i = iZ (wtF T N i) := fun i hi => by rw [(f3 60 (by omega)).1]; exact h602 i hi
        refine lpU (i := 0) (n := gW N set) (I := fun j w4 => fr (fun c => c < 72) w w4 ∧ (∀ i, i < N 7 0 → w4.1 60 i = iZ (wtF T N i)) ∧ (∃ b, (1 ≤ b ∧ b ≤ 9999) ∧ rX w4 (st2 N (gLo set) (gHi set) (N 13 i) b) K T Z) ∧ w4.1 59 0 = iZ (bsF T N set (i * gW N set + j)).1 ∧ (0 < i * gW N set + j → w4.1 59 2 = nI (N 13 ((bsF T N set (i * gW N set + j)).2 / gW N set)) ∧ (¬ gHi set = gLo set → w4.1 59 3 = nI (N 13 ((bsF T N set (i * gW N set + j)).2 % gW N set))))) (P := fun j w4 => qAt s d c_Gifts_findBest (qQv R) 111 [some (.ref 59), some (.int (nI set)), some (.int (nI (gLo set))), some (.int (nI (andn set (2 ^ lowB set)))), some (.int (nI (gHi set))), some (.int (nI (N 10 (gLo set)))), some (.int (nI (N 10 (gHi set)))), some (.int (nI (gW N set))), some (.int (nI i)), some (.int (nI j))] [] w4) ?_ ?_ (Nat.zero_le _) ?_
        · intro w4 ⟨f4, h604, ⟨b', hb', hX4⟩, c1, c2⟩
          refine A_Gifts_findBest_111 ⟨fun _ => ?_, fun g => absurd (Int32.le_refl _) g⟩
          have et : (i + 1) * gW N set = i * gW N set + gW N set := by rw [Nat.add_mul, Nat.one_mul]
          rw [nI_1]
          refine ih w4 ⟨f4, h604, ⟨_, b', gi, hb', hX4⟩, ?_, fun _ => ?_⟩
          · rw [et]; exact c1
          · rw [et]; exact c2 (by omega)
        · intro j w4 hj ⟨f4, h604, ⟨b', hb', hX4⟩, c1, c2⟩ ihj
          have tdiv : (i * gW N set + j) / gW N set = i := by
            rw [Nat.mul_comm, Nat.mul_add_div (by omega), Nat.div_eq_of_lt hj, Nat.add_zero]
          have tmod : (i * gW N set + j) % gW N set = j := by
            rw [Nat.mul_comm, Nat.mul_add_mod, Nat.mod_eq_of_lt hj]
          -- behind the weighing
          have weigh : ∀ (w5 : qW), fr (fun c => c < 72) w w5 → (∀ i, i < N 7 0 → w5.1 60 i = iZ (wtF T N i)) → rX w5 (wyF N set (i * gW N set + j)) K T Z → w5.1 59 = w4.1 59 → qCall (some s) d 160 [.ref 59, .int (nI set), .int (nI (gLo set)), .int (nI (gHi set))] w5 (qQi fun _ w6 => qAt s d c_Gifts_findBest (qQv R) 111 [some (.ref 59), some (.int (nI set)), some (.int (nI (gLo set))), some (.int (nI (andn set (2 ^ lowB set)))), some (.int (nI (gHi set))), some (.int (nI (N 10 (gLo set)))), some (.int (nI (N 10 (gHi set)))), some (.int (nI (gW N set))), some (.int (nI i)), some (.int (nI (j + 1)))] [] w6) := by
            intro w5 f5 h605 hX5 e595
            have bb := bsF_b T o set (i * gW N set + j)
            refine c_isBetter (N := N) (by omega) hX5 (st2_nrm _ _ _ _ _) hs2 ?_ h605 lP hP (by rw [e595]; exact c1) (by omega) (by omega) ?_
            · intro p hp hpb
              refine st2_o (fun e => ?_) (fun e => ?_)
              · rw [e] at hpb; have := l2; unfold gLo at hpb; rw [hpb] at this; cases this
              · rw [e, g2] at hpb; cases hpb
            · intro w6 hX6 f6 y1 y2
              have gj := o.gv j
              refine ihj w6 ⟨fr_tr f5 (fr_wk f6 (fun c hc => by unfold wtA at hc; omega)), fun i hi => by rw [(f6 60 (by unfold wtA; omega)).1]; exact h605 i hi, ?_, ?_, fun _ => ?_⟩
              · unfold wyF at hX6
                rw [tdiv, tmod] at hX6
                exact ⟨_, by
                  by_cases e : gHi set = gLo set
                  · rw [hW, if_pos e] at hj
                    have : j = 0 := by omega
                    subst this
                    exact o.gv 0 (by omega)
                  · rw [hW, if_neg e] at hj
                    exact gj hj, hX6⟩
              · show _ = iZ (bsF T N set (i * gW N set + j + 1)).1
                unfold bsF
                by_cases g : (bsF T N set (i * gW N set + j)).1 < wtT T (wyF N set (i * gW N set + j)) (N 7 0)
                · rw [if_pos g]; exact (y1 g).1
                · rw [if_neg g, y2 g, e595]; exact c1
              · show _ = nI (N 13 ((bsF T N set (i * gW N set + j + 1)).2 / gW N set)) ∧ (_ → _ = nI (N 13 ((bsF T N set (i * gW N set + j + 1)).2 % gW N set)))
                unfold bsF
                by_cases g : (bsF T N set (i * gW N set + j)).1 < wtT T (wyF N set (i * gW N set + j)) (N 7 0)
                · rw [if_pos g]
                  refine ⟨?_, fun e => ?_⟩
                  · rw [(y1 g).2.1]; unfold wyF; rw [st2_x]
                  · rw [(y1 g).2.2.1]; unfold wyF; rw [st2_y e]
                · rw [if_neg g, y2 g, e595]
                  refine c2 ?_
                  rcases Nat.eq_zero_or_pos (i * gW N set + j) with e | e
                  · exfalso
                    apply g
                    rw [e]
                    have pb := wtT_b T (wyF N set 0) (N 7 0)
                    have o7 := o.nds
                    show (-1000000 : Int) < _
                    omega
                  · exact e
          refine A_Gifts_findBest_111 ?_
          rw [nI_leI (by omega) (by omega), eq0 (by omega), nI_1 j, g4, nI_1 i]
          refine ⟨fun g => absurd g (by omega), fun _ => ⟨fun e => ?_, fun e => ?_⟩⟩
          · refine weigh w4 f4 h604 ?_ rfl
            unfold wyF
            rw [tdiv, tmod]
            rw [e] at hX4 ⊢
            rw [st2_same N (gLo set) (N 13 i) _ b']
            exact hX4
          · rw [hW, if_neg e] at hj
            have e8' : w4.1 8 j = nI (N 13 j) := hX4.n.gv j hj
            rw [qIx_nI (by omega), e8']
            refine ⟨qIn_nI (by omega) (by decide), rn _ _ w4 _ hX4 hP (o.gv j hj) _ (fun w5 hX5 f5 => ?_)⟩
            rw [st2_py e] at hX5
            refine weigh w5 (fr_tr f4 (fr_wk f5 (fun c hc => by omega))) (fun i hi => by rw [(f5 60 (by omega)).1]; exact h604 i hi) ?_ (f5 59 (by omega)).1
            unfold wyF
            rw [tdiv, tmod]
            exact hX5
        · refine ⟨fr_tr f2 (fr_wk f3 (fun c hc => by omega)), h603, ⟨b, hb, hX3⟩, ?_, fun q => ?_⟩
          · rw [e59]; exact b1'
          · rw [e59]
            refine b2' ?_
            rcases Nat.eq_zero_or_pos i with e | e
            · subst e; rw [Nat.zero_mul] at q; omega
            · exact e
      · have f1' : fr (fun c => c = 59) w1 (qPutI w1 59 0 (-1000000 : Int32)) := fr_pI rfl
        refine ⟨fr_I (fr_wk f1 (fun c hc => by unfold wtA at hc; omega)) (by decide), fun i hi => by rw [pI_c (by decide)]; exact h60 i hi, ⟨_, _, nl, nh, ?_⟩, ?_, fun q => absurd q (Nat.lt_irrefl _)⟩
        · rw [st2_id]
          exact hX1.keep f1' (fun c => ⟨fun _ _ => by omega, by omega⟩)
        · rw [pI_e, Nat.zero_mul]; rfl
    refine ⟨fun e => c_total (by omega) hX (fun w1 f1 h60 => ?_), fun e => c_total (by omega) hX (fun w1 f1 h60 => ?_)⟩
    · have := loops w1 f1 h60
      have eW : gW N set = N 6 0 := by unfold gW; rw [if_neg e]
      rw [eW] at this
      exact this
    · have := loops w1 f1 h60
      have eW : gW N set = 1 := by unfold gW; rw [if_pos e]
      rw [eW] at this
      exact this
  refine A_Gifts_findBest (c_lowestOf (by omega) h0 hs2 ?_)
  rw [show (1 : Int32) = nI 1 from rfl, qShl_n (by omega), nI_andn, eq0 (by omega)]
  refine ⟨fun e => c_lowestOf (by omega) (by omega) a0 ?_, fun e => ?_⟩
  · have eH : gHi set = lowB (andn set (2 ^ lowB set)) := by unfold gHi; rw [if_neg e]
    rw [eH] at main
    exact main
  · have eH : gHi set = lowB set := by unfold gHi; rw [if_pos e]
    rw [eH] at main
    exact main
end Gifts
