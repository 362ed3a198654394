/-! roll: both sides. -/
section Roll
variable {s : Nat × (Nat → Int32)} {d : Nat} {w : qW} {Q : Int32 → qW → Prop} {R : qW → Prop} {N M K : vS} {T : Nat → vT} {Z : vZ}
def nFgt (N : vS) : vS := sPut (sPut (sPut N 0 0 0) 5 0 0) 7 0 0
theorem nFgt_ok (o : okS N) : okS (nFgt N) :=
  okS.mk (Nat.zero_le _) o.day o.clk o.txs o.rul (Nat.zero_le _) o.gvs (Nat.zero_le _) o.hds (fun i hi => absurd hi (Nat.not_lt_zero _)) (fun i hi => absurd hi (Nat.not_lt_zero _)) (fun i hi => absurd hi (Nat.not_lt_zero _)) o.gv (fun i hi => absurd hi (Nat.not_lt_zero _)) o.hrd (fun i hi => absurd hi (Nat.not_lt_zero _))
/-- one clause of a roll: was it done, and what stands behind it -/
def rlC (M : vS) (c : Nat × Nat × Nat) : Bool × vS := if c.1 = 3 then (if M 0 0 < 12 then (true, nPer M c.2.1 c.2.2) else (false, M)) else if c.1 = 4 then (if ¬ c.2.1 = c.2.2 ∧ c.2.1 < M 0 0 ∧ c.2.2 < M 0 0 then (true, nNr M (nI c.2.1) (nI c.2.2) 1) else (false, M)) else (true, M)
def rlF (t : vT) : Nat → Nat → vS → Int32 × vS
  | 0, _, M => (-1, M)
  | f + 1, k, M => if (rlC M (t.2.1 k)).1 = true then rlF t f (k + 1) (rlC M (t.2.1 k)).2 else (nI k, M)
theorem rlF_y {t : vT} {f k : Nat} (h : (rlC M (t.2.1 k)).1 = true) : rlF t (f + 1) k M = rlF t f (k + 1) (rlC M (t.2.1 k)).2 := if_pos h
theorem rlF_n {t : vT} {f k : Nat} (h : ¬ (rlC M (t.2.1 k)).1 = true) : rlF t (f + 1) k M = (nI k, M) := if_neg h
theorem vPer_nI {x y : Nat} (hx : 1 ≤ x ∧ x ≤ 9999) (hy : y ≤ 9999) : vPer M (nI x) (nI y) ↔ M 0 0 < 12 := by
  refine ⟨fun g => g.2, fun g => ⟨⟨⟨?_, ?_⟩, ⟨?_, ?_⟩⟩, g⟩⟩
  · exact (nI_leI (a := 1) (by decide) (by omega)).mpr hx.1
  · exact (nI_leI (b := 9999) (by omega) (by decide)).mpr hx.2
  · exact (nI_leI (a := 0) (by decide) (by omega)).mpr (Nat.zero_le _)
  · exact (nI_leI (b := 9999) (by omega) (by decide)).mpr hy
theorem vTold_i {P x : Nat} (hP : P ≤ 12) (hx : x ≤ 11) : vTold P (nI x) ↔ x < P := by
  refine ⟨fun g => ?_, fun g => ?_⟩
  · obtain ⟨j, hj, e, -⟩ := vTold_x hP g
    have := (nI_eq (by omega) (by omega)).mp e
    omega
  · exact ⟨(nI_leI (a := 0) (by decide) (by omega)).mpr (Nat.zero_le _), (nI_ltI (by omega) (by omega)).mpr g⟩
theorem vNr_nI {x y : Nat} (o : okS M) (hx : x ≤ 11) (hy : y ≤ 11) : vNr M (nI x) (nI y) ↔ ¬ x = y ∧ x < M 0 0 ∧ y < M 0 0 := by
  unfold vNr
  rw [vTold_i o.p12 hx, vTold_i o.p12 hy, nI_eq (by omega) (by omega)]
theorem rlC_3 {c : Nat × Nat × Nat} (h : c.1 = 3) (g : M 0 0 < 12) : rlC M c = (true, nPer M c.2.1 c.2.2) := by unfold rlC; rw [if_pos h, if_pos g]
theorem rlC_3n {c : Nat × Nat × Nat} (h : c.1 = 3) (g : ¬ M 0 0 < 12) : rlC M c = (false, M) := by unfold rlC; rw [if_pos h, if_neg g]
theorem rlC_4 {c : Nat × Nat × Nat} (h : c.1 = 4) (g : ¬ c.2.1 = c.2.2 ∧ c.2.1 < M 0 0 ∧ c.2.2 < M 0 0) : rlC M c = (true, nNr M (nI c.2.1) (nI c.2.2) 1) := by unfold rlC; rw [if_neg (by omega), if_pos h, if_pos g]
theorem rlC_4n {c : Nat × Nat × Nat} (h : c.1 = 4) (g : ¬ (¬ c.2.1 = c.2.2 ∧ c.2.1 < M 0 0 ∧ c.2.2 < M 0 0)) : rlC M c = (false, M) := by unfold rlC; rw [if_neg (by omega), if_pos h, if_neg g]
theorem rlC_o {c : Nat × Nat × Nat} (h3 : ¬ c.1 = 3) (h4 : ¬ c.1 = 4) : rlC M c = (true, M) := by unfold rlC; rw [if_neg h3, if_neg h4]
/-! the class -/
theorem rW_nr {x y u v : Nat} (hX : rW w N K T Z) (hx : x < N 0 0) (hy : y < N 0 0) (hxy : ¬ x = y) (hu : u < 4096) (hv : v < 4096) : rW (qPutI (qPutI w 5 x (nI u)) 5 y (nI v)) (sPut (sPut N 12 x u) 12 y v) K T Z := by
  have r := hX.n
  refine hX.upd (A := fun c => c < 13) (fr_I (fr_pI (by decide)) (by decide)) (fun c _ _ => by omega) ?_ (nr2_ok hX.okn hu hv) rfl hX.op2
  (refine rS.mk ?_ ?_ ?_ ?_ ?_ ?_ ?_ ?_ ?_ ?_ ?_ ?_ ?_ ?_ ?_ ?_ ?_ ?_ ?_ ?_); (all_goals (try simp (disch := omega) only [li, ll, nI_add, nI_mul', nI_sub', nI_div', qRem_nI, lN_add, lN_mul, lN_sub, lN_div', qRemL_lN, qIn_I, qIx_nI, nI_ltI, nI_leI, nI_eq, nI_eqn, nI_eqn', nI_len, nI_ltn, nI_nle', nI_nlt', lN_eqn, lg_lt, lg_gt, lg_eq, lg_le, lg_ge, lgn_lt, lgn_gt, lgn_eq, lgn_le, lgn_ge, pk_lLT, pk_lLE, pk_lEQ, nI_l, lN_i, qShl_n, nI_and, nI_or, lN_and, lN_or, nI_andn, lN_andn, pI_e, pI_f, pI_c, pL_e, pL_f, pL_c, pI_L, pL_I, qB_1, qZb_n, true_and, and_true, forall_const, not_true_eq_false, not_false_eq_true, Nat.reduceLT, Nat.reduceLeDiff, Nat.reduceEqDiff, Nat.reduceAdd, Nat.reduceMul, Nat.reduceSub, Nat.reduceMod, Nat.reduceDiv, false_implies, implies_true, sP_e, sP_f, sP_c])); (all_goals try (first | done | (first | done | exact r.ppl | exact r.day | exact r.clk | exact r.txs | exact r.rul | exact r.tks | exact r.gvs | exact r.nds | exact r.hds | exact r.hIs | exact r.num | exact r.fst | exact r.nr | exact r.tkh | exact r.tkp | exact r.gv | exact r.ndp | exact r.nda | exact r.ndh | exact r.hrd) | (intro i hi; (try simp (disch := omega) only [li, ll, nI_add, nI_mul', nI_sub', nI_div', qRem_nI, lN_add, lN_mul, lN_sub, lN_div', qRemL_lN, qIn_I, qIx_nI, nI_ltI, nI_leI, nI_eq, nI_eqn, nI_eqn', nI_len, nI_ltn, nI_nle', nI_nlt', lN_eqn, lg_lt, lg_gt, lg_eq, lg_le, lg_ge, lgn_lt, lgn_gt, lgn_eq, lgn_le, lgn_ge, pk_lLT, pk_lLE, pk_lEQ, nI_l, lN_i, qShl_n, nI_and, nI_or, lN_and, lN_or, nI_andn, lN_andn, pI_e, pI_f, pI_c, pL_e, pL_f, pL_c, pI_L, pL_I, qB_1, qZb_n, true_and, and_true, forall_const, not_true_eq_false, not_false_eq_true, Nat.reduceLT, Nat.reduceLeDiff, Nat.reduceEqDiff, Nat.reduceAdd, Nat.reduceMul, Nat.reduceSub, Nat.reduceMod, Nat.reduceDiv, false_implies, implies_true, sP_e, sP_f, sP_c]); first | exact r.num i hi | exact r.fst i hi | exact r.nr i hi | exact r.tkh i hi | exact r.tkp i hi | exact r.gv i hi | exact r.ndp i hi | exact r.nda i hi | exact r.ndh i hi | exact r.hrd i hi)))
  intro i hi
  by_cases q : i = y
  · subst q; simp (disch := omega) only [li, ll, nI_add, nI_mul', nI_sub', nI_div', qRem_nI, lN_add, lN_mul, lN_sub, lN_div', qRemL_lN, qIn_I, qIx_nI, nI_ltI, nI_leI, nI_eq, nI_eqn, nI_eqn', nI_len, nI_ltn, nI_nle', nI_nlt', lN_eqn, lg_lt, lg_gt, lg_eq, lg_le, lg_ge, lgn_lt, lgn_gt, lgn_eq, lgn_le, lgn_ge, pk_lLT, pk_lLE, pk_lEQ, nI_l, lN_i, qShl_n, nI_and, nI_or, lN_and, lN_or, nI_andn, lN_andn, pI_e, pI_f, pI_c, pL_e, pL_f, pL_c, pI_L, pL_I, qB_1, qZb_n, true_and, and_true, forall_const, not_true_eq_false, not_false_eq_true, Nat.reduceLT, Nat.reduceLeDiff, Nat.reduceEqDiff, Nat.reduceAdd, Nat.reduceMul, Nat.reduceSub, Nat.reduceMod, Nat.reduceDiv, false_implies, implies_true, sP_e]
  · by_cases q2 : i = x
    · subst q2; simp (disch := omega) only [li, ll, nI_add, nI_mul', nI_sub', nI_div', qRem_nI, lN_add, lN_mul, lN_sub, lN_div', qRemL_lN, qIn_I, qIx_nI, nI_ltI, nI_leI, nI_eq, nI_eqn, nI_eqn', nI_len, nI_ltn, nI_nle', nI_nlt', lN_eqn, lg_lt, lg_gt, lg_eq, lg_le, lg_ge, lgn_lt, lgn_gt, lgn_eq, lgn_le, lgn_ge, pk_lLT, pk_lLE, pk_lEQ, nI_l, lN_i, qShl_n, nI_and, nI_or, lN_and, lN_or, nI_andn, lN_andn, pI_e, pI_f, pI_c, pL_e, pL_f, pL_c, pI_L, pL_I, qB_1, qZb_n, true_and, and_true, forall_const, not_true_eq_false, not_false_eq_true, Nat.reduceLT, Nat.reduceLeDiff, Nat.reduceEqDiff, Nat.reduceAdd, Nat.reduceMul, Nat.reduceSub, Nat.reduceMod, Nat.reduceDiv, false_implies, implies_true, sP_e, sP_f]
    · simp (disch := omega) only [li, ll, nI_add, nI_mul', nI_sub', nI_div', qRem_nI, lN_add, lN_mul, lN_sub, lN_div', qRemL_lN, qIn_I, qIx_nI, nI_ltI, nI_leI, nI_eq, nI_eqn, nI_eqn', nI_len, nI_ltn, nI_nle', nI_nlt', lN_eqn, lg_lt, lg_gt, lg_eq, lg_le, lg_ge, lgn_lt, lgn_gt, lgn_eq, lgn_le, lgn_ge, pk_lLT, pk_lLE, pk_lEQ, nI_l, lN_i, qShl_n, nI_and, nI_or, lN_and, lN_or, nI_andn, lN_andn, pI_e, pI_f, pI_c, pL_e, pL_f, pL_c, pI_L, pL_I, qB_1, qZb_n, true_and, and_true, forall_const, not_true_eq_false, not_false_eq_true, Nat.reduceLT, Nat.reduceLeDiff, Nat.reduceEqDiff, Nat.reduceAdd, Nat.reduceMul, Nat.reduceSub, Nat.reduceMod, Nat.reduceDiv, false_implies, implies_true, sP_e, sP_f]; exact r.nr i hi
theorem c_setNearW {a b i : Int32} (hd : 3 ≤ d) (hX : rW w N K T Z) (hy : ∀ w', vNr N a b → rW w' (nNr N a b i) K T Z → fr (fun c => c < 72) w w' → Q 1 w') (hn : ¬ vNr N a b → Q 0 w) : qCall (some s) d 33 [.ref 2, .int a, .int b, .int i] w (qQi Q) := by
  obtain ⟨d, rfl, hd1⟩ := dS hd
  have r := hX.n
  have o := hX.okn
  have o0 := o.p12
  refine A_State_setNear (c_isPair hd1 r.ppl o.p12 (fun g => n1 ?_) (fun g => n0 (hn g)))
  obtain ⟨x, hx, ea, ea2⟩ := vTold_x o.p12 g.2.1
  obtain ⟨y, hy', eb, eb2⟩ := vTold_x o.p12 g.2.2
  have hxy : ¬ x = y := fun e => g.1 (by rw [ea, eb, e])
  have h1 := o.nr x hx
  have h2 := o.nr y hy'
  have h3 := p11 (k := x) (by omega)
  have h4 := p11 (k := y) (by omega)
  unfold nNr at hy
  rw [ea2, eb2] at hy
  subst ea eb
  simp (disch := omega) only [li, ll, nI_add, nI_mul', nI_sub', nI_div', qRem_nI, lN_add, lN_mul, lN_sub, lN_div', qRemL_lN, qIn_I, qIx_nI, nI_ltI, nI_leI, nI_eq, nI_eqn, nI_eqn', nI_len, nI_ltn, nI_nle', nI_nlt', lN_eqn, lg_lt, lg_gt, lg_eq, lg_le, lg_ge, lgn_lt, lgn_gt, lgn_eq, lgn_le, lgn_ge, pk_lLT, pk_lLE, pk_lEQ, nI_l, lN_i, qShl_n, nI_and, nI_or, lN_and, lN_or, nI_andn, lN_andn, pI_e, pI_f, pI_c, pL_e, pL_f, pL_c, pI_L, pL_I, qB_1, qZb_n, true_and, and_true, forall_const, not_true_eq_false, not_false_eq_true, Nat.reduceLT, Nat.reduceLeDiff, Nat.reduceEqDiff, Nat.reduceAdd, Nat.reduceMul, Nat.reduceSub, Nat.reduceMod, Nat.reduceDiv, false_implies, implies_true, r.nr x hx]
  refine ⟨fun (gi : i = 0) => ⟨by omega, A_State_setNear_45 ?_⟩, fun (gi : ¬ i = 0) => ⟨by omega, A_State_setNear_45 ?_⟩⟩
  · rw [if_pos gi] at hy
    simp (disch := omega) only [li, ll, nI_add, nI_mul', nI_sub', nI_div', qRem_nI, lN_add, lN_mul, lN_sub, lN_div', qRemL_lN, qIn_I, qIx_nI, nI_ltI, nI_leI, nI_eq, nI_eqn, nI_eqn', nI_len, nI_ltn, nI_nle', nI_nlt', lN_eqn, lg_lt, lg_gt, lg_eq, lg_le, lg_ge, lgn_lt, lgn_gt, lgn_eq, lgn_le, lgn_ge, pk_lLT, pk_lLE, pk_lEQ, nI_l, lN_i, qShl_n, nI_and, nI_or, lN_and, lN_or, nI_andn, lN_andn, pI_e, pI_f, pI_c, pL_e, pL_f, pL_c, pI_L, pL_I, qB_1, qZb_n, true_and, and_true, forall_const, not_true_eq_false, not_false_eq_true, Nat.reduceLT, Nat.reduceLeDiff, Nat.reduceEqDiff, Nat.reduceAdd, Nat.reduceMul, Nat.reduceSub, Nat.reduceMod, Nat.reduceDiv, false_implies, implies_true, r.nr y hy']
    exact ⟨by omega, fun _ => ⟨by omega, by omega, hy _ g (rW_nr hX hx hy' hxy (andn_lt (n := 12) h1) (andn_lt (n := 12) h2)) (fr_I (fr_pI (by decide)) (by decide))⟩, fun e => absurd gi e⟩
  · rw [if_neg gi] at hy
    simp (disch := omega) only [li, ll, nI_add, nI_mul', nI_sub', nI_div', qRem_nI, lN_add, lN_mul, lN_sub, lN_div', qRemL_lN, qIn_I, qIx_nI, nI_ltI, nI_leI, nI_eq, nI_eqn, nI_eqn', nI_len, nI_ltn, nI_nle', nI_nlt', lN_eqn, lg_lt, lg_gt, lg_eq, lg_le, lg_ge, lgn_lt, lgn_gt, lgn_eq, lgn_le, lgn_ge, pk_lLT, pk_lLE, pk_lEQ, nI_l, lN_i, qShl_n, nI_and, nI_or, lN_and, lN_or, nI_andn, lN_andn, pI_e, pI_f, pI_c, pL_e, pL_f, pL_c, pI_L, pL_I, qB_1, qZb_n, true_and, and_true, forall_const, not_true_eq_false, not_false_eq_true, Nat.reduceLT, Nat.reduceLeDiff, Nat.reduceEqDiff, Nat.reduceAdd, Nat.reduceMul, Nat.reduceSub, Nat.reduceMod, Nat.reduceDiv, false_implies, implies_true, r.nr y hy']
    exact ⟨by omega, fun e => absurd e gi, fun _ => ⟨by omega, by omega, hy _ g (rW_nr hX hx hy' hxy (Nat.or_lt_two_pow (n := 12) h1 h4) (Nat.or_lt_two_pow (n := 12) h2 h3)) (fr_I (fr_pI (by decide)) (by decide))⟩⟩
theorem c_isDone {x4 x6 x8 : Int32} {t : vT} {k : Nat} (hd : 4 ≤ d) (hW : rW w M K T Z) (ok : okT t) (hk : k < t.1) (e4 : x4 = nI (t.2.1 k).1) (e6 : 3 ≤ (t.2.1 k).1 → x6 = nI (t.2.1 k).2.1 ∧ x8 = nI (t.2.1 k).2.2) (hy : ∀ w', (rlC M (t.2.1 k)).1 = true → rW w' (rlC M (t.2.1 k)).2 K T Z → fr (fun c => c < 72) w w' → Q 1 w') (hn : ¬ (rlC M (t.2.1 k)).1 = true → Q 0 w) : qCall (some s) d 199 [.ref 2, .int x4, .int x6, .int x8] w (qQi Q) := by
  obtain ⟨d, rfl, hd1⟩ := dS hd
  have ok1 := ok.kind k hk
  have o := hW.okn
  have o0 := o.p12
  refine A_State_isDone ?_
  rw [e4, show (3 : Int32) = nI 3 from rfl, show (4 : Int32) = nI 4 from rfl, nI_eq (by omega) (by omega), nI_eq (by omega) (by omega)]
  refine ⟨fun h3 => ⟨fun h4 => ?_, fun h4 => ?_⟩, fun h3 => ?_⟩
  · rw [rlC_o h3 h4] at hy
    exact hy w rfl hW (fr_rf _ _)
  · obtain ⟨e6, e8⟩ := e6 (by omega)
    rw [e6, e8]
    have p4 := ok.p4 k hk h4
    refine c_setNearW (by omega) hW (fun w' g h f => ⟨fun e => absurd e (by decide), fun _ => ?_⟩) (fun g => ⟨fun _ => ?_, fun e => absurd rfl e⟩)
    · have g2 := (vNr_nI o p4.1 p4.2).mp g
      rw [rlC_4 h4 g2] at hy
      exact hy w' rfl h f
    · have g2 := mt (vNr_nI o p4.1 p4.2).mpr g
      rw [rlC_4n h4 g2] at hn
      exact hn (fun e => Bool.noConfusion e)
  · obtain ⟨e6, e8⟩ := e6 (by omega)
    rw [e6, e8]
    have p3 := ok.p3 k hk h3
    refine c_addPerson (by omega) hW (fun w' g h f => ⟨fun e => absurd (show nI (M 0 0) = -(nI 1) from e) (by rw [nI_eqn (by omega) (by omega) (by omega)]; exact id), fun _ => ?_⟩) (fun g => ⟨fun _ => ?_, fun e => absurd rfl e⟩)
    · have g2 := (vPer_nI ⟨p3.1, p3.2.1⟩ p3.2.2).mp g
      rw [rlC_3 h3 g2] at hy
      rw [qIx_nI (by omega), qIx_nI (by omega)] at h
      exact hy w' rfl h (fr_wk f (fun c hc => by omega))
    · have g2 := mt (vPer_nI ⟨p3.1, p3.2.1⟩ p3.2.2).mpr g
      rw [rlC_3n h3 g2] at hn
      exact hn (fun e => Bool.noConfusion e)
theorem rl_end {i k : Nat} {i3 : Int32} (hd : 6 ≤ d) (hW : rW w M K T Z) (hi : i < M 3 0) (hk : k ≤ (T i).1) (h34 : i3 ≠ -1 ∨ k = (T i).1) (hQ : ∀ w', rX w' M K T Z → fr (fun c => c < 72) w w' → Q i3 w') : qAt s d c_X_roll (qQi Q) 42 [some (.ref 1), none, some (.ref (27 + 5 * i)), some (.int i3), some (.int (nI k))] [] w := by
  have o3 := hW.okn.txs
  have rt := hW.t i hi
  have n24 := (hW.okt i hi).nc
  have fin : ∀ q, q = i3 → qCall (some s) d 31 [.ref 50] w (qQv fun w1 => Q q w1) := by
    intro q e
    subst e
    obtain ⟨O, hO⟩ := hW.O
    refine c_openForAll hd hW.v hO ?_
    intro w2 O2 f2 r2 h2
    exact hQ w2 (hW.x f2 r2 h2) (fr_wk f2 (fun c hc => by omega))
  refine A_X_roll_42 (qAl4 (by omega) ?_)
  rw [rt.nc, nI_leI (by omega) (by omega)]
  refine ⟨fun _ => fin _ rfl, fun g => ⟨fun _ => fin _ rfl, fun e => ?_⟩⟩
  rcases h34 with h | h
  · exact absurd e h
  · omega
theorem rl_loop {i : Nat} (hd : 6 ≤ d) : ∀ f k w M, rW w M K T Z → i < M 3 0 → k + f = (T i).1 → (∀ w', rX w' (rlF (T i) f k M).2 K T Z → fr (fun c => c < 72) w w' → Q (rlF (T i) f k M).1 w') → qAt s d c_X_roll (qQi Q) 42 [some (.ref 1), none, some (.ref (27 + 5 * i)), some (.int (-1)), some (.int (nI k))] [] w := by
  intro f
  induction f with
  | zero =>
    intro k w M hW hi hf hQ
    exact rl_end hd hW hi (by omega) (Or.inr (by omega)) hQ
  | succ f ih =>
    intro k w M hW hi hf hQ
    have o3 := hW.okn.txs
    have rt := hW.t i hi
    have ot := hW.okt i hi
    have n24 := ot.nc
    have i24 : qIn (nI k) 24 := qIn_nI (by omega) (by decide)
    refine A_X_roll_42 (qAl4 (by omega) ?_)
    rw [rt.nc, nI_leI (by omega) (by omega), nI_1]
    refine ⟨fun g => by omega, fun _ => ⟨fun e => absurd rfl e, fun _ => ?_⟩⟩
    refine qAl4 (by omega) (tx_gr (by omega) (Or.inl rfl) (tx_ald (by omega) (Or.inl rfl) i24 (qAl4 (by omega) (tx_gr (by omega) (Or.inr (Or.inl rfl)) (tx_ald (by omega) (Or.inr (Or.inl rfl)) i24 (qAl4 (by omega) (tx_gr (by omega) (Or.inr (Or.inr rfl)) (tx_ald (by omega) (Or.inr (Or.inr rfl)) i24 ?_))))))))
    rw [qIx_nI (by omega)]
    refine c_isDone (t := T i) (k := k) (by omega) hW ot (by omega) (rt.kind k (by omega)) (fun h => rt.lf k (by omega) h) (fun w' g h fr1 => ⟨fun _ => ?_, fun e => absurd e (by decide)⟩) (fun g => ⟨fun e => absurd rfl e, fun _ => ?_⟩)
    · rw [rlF_y g] at hQ
      refine ih (k + 1) w' _ h ?_ (by omega) (fun w2 h2 f2 => hQ w2 h2 (fr_tr fr1 f2))
      have : (rlC M ((T i).2.1 k)).2 3 0 = M 3 0 := by
        unfold rlC
        split
        · split <;> rfl
        · split
          · split
            · unfold nNr; rw [if_neg (by decide)]; rfl
            · rfl
          · rfl
      rw [this]; exact hi
    · rw [rlF_n g] at hQ
      refine rl_end hd hW hi (by omega) (Or.inl ?_) (fun w2 h2 f2 => hQ w2 h2 f2)
      intro e
      exact absurd (show nI k = -(nI 1) from e) (by rw [nI_eqn (by omega) (by omega) (by omega)]; exact id)
def vRl (N : vS) (a : Int32) : Prop := 0 ≤ a ∧ a < nI (N 3 0)
def nRl (N : vS) (T : Nat → vT) (a : Int32) : Int32 × vS := rlF (T (qIx a)) (T (qIx a)).1 0 (nFgt N)
theorem vRl_x {a : Int32} (o : okS N) (g : vRl N a) : ∃ i, i < N 3 0 ∧ a = nI i ∧ qIx a = i := by
  obtain ⟨i, -, hi3, e, e2⟩ := nI_rng 0 (N 3 0) g.1 (Int32.le_of_lt g.2) (by have := o.txs; omega) (by decide)
  have o3 := o.txs
  refine ⟨i, ?_, e, e2⟩
  have := g.2
  rw [e, nI_ltI (by omega) (by omega)] at this
  exact this
theorem c_roll {a : Int32} (hd : 7 ≤ d) (hX : rX w N K T Z) (hy : ∀ w', vRl N a → rX w' (nRl N T a).2 K T Z → fr (fun c => c < 72) w w' → Q (nRl N T a).1 w') (hn : ¬ vRl N a → Q (-2) w) : qCall (some s) d 197 [.ref 1, .int a] w (qQi Q) := by
  obtain ⟨d, rfl, hd1⟩ := dS hd
  have r := hX.n
  have o3 := hX.okn.txs
  refine A_X_roll ⟨fun g => hn (fun q => absurd g (Int32.not_lt.mpr q.1)), fun g1 => ?_⟩
  rw [r.txs]
  refine ⟨fun g2 => hn (fun q => absurd q.2 (Int32.not_lt.mpr g2)), fun g2 => ?_⟩
  have g : vRl N a := ⟨Int32.not_lt.mp g1, Int32.not_le.mp g2⟩
  obtain ⟨i, hi, e, e2⟩ := vRl_x hX.okn g
  have hz := fun w' => hy w' g
  unfold nRl at hz
  rw [e2] at hz
  subst e
  refine ⟨fun _ => ⟨qIn_nI (by omega) (by decide), 27 + 5 * i, ?_, ?_⟩, fun q => absurd ((nI_ltI (b := 4) (by omega) (by decide)).mpr (by omega)) q⟩
  · rw [e2]
    have : i = 0 ∨ i = 1 ∨ i = 2 ∨ i = 3 := by omega
    rcases this with rfl | rfl | rfl | rfl <;> rfl
  · have hW : rW (qPutI (qPutI (qPutI w 2 0 (0 : Int32)) 2 8 (0 : Int32)) 2 13 (0 : Int32)) (nFgt N) K T Z := by
      refine hX.wk.upd (A := fun c => c = 2) (fr_I (fr_I (fr_pI rfl) rfl) rfl) (fun c _ _ => by omega) ?_ (nFgt_ok hX.okn) rfl hX.op2
      exact rS.mk rfl r.day r.clk r.txs r.rul rfl r.gvs rfl r.hds r.hIs (fun i hi => absurd hi (Nat.not_lt_zero _)) (fun i hi => absurd hi (Nat.not_lt_zero _)) (fun i hi => absurd hi (Nat.not_lt_zero _)) (fun i hi => absurd hi (Nat.not_lt_zero _)) (fun i hi => absurd hi (Nat.not_lt_zero _)) r.gv (fun i hi => absurd hi (Nat.not_lt_zero _)) (fun i hi => absurd hi (Nat.not_lt_zero _)) (fun i hi => absurd hi (Nat.not_lt_zero _)) r.hrd
    obtain ⟨d, rfl, hd2⟩ := dS hd1
    refine A_State_forgetPeople ?_
    refine rl_loop (i := i) (K := K) (T := T) (Z := Z) (by omega) (T i).1 0 _ (nFgt N) hW hi (Nat.zero_add _) ?_
    intro w' h f
    exact hz w' h (fr_tr (fr_I (fr_I (fr_pI (by decide)) (by decide)) (by decide)) f)
/-! the reference -/
theorem m_roll_67 {i : Nat} (hd : 3 ≤ d) : ∀ f k w M, rM w M K T Z → i < M 3 0 → k + f = (T i).1 → (∀ w', rM w' (rlF (T i) f k M).2 K T Z → fr (fun c => 72 ≤ c) w w' → Q (rlF (T i) f k M).1 w') → qAt s d c_Mo_roll (qQi Q) 67 [some (.ref 72), some (.int (nI i)), some (.int (nI k)), none] [] w := by
  intro f
  induction f with
  | zero =>
    intro k w M hX hi hf hQ
    have o3 := hX.okn.txs
    have rt := hX.t i hi
    have n24 := (hX.okt i hi).nc
    refine A_Mo_roll_67 ?_
    rw [show (700 : Int32) = nI 700 from rfl, nI_mul', qIx_nI (by omega), rt.nc, nI_leI (by omega) (by omega)]
    refine ⟨qIn_nI (by omega) (by decide), fun _ => hQ w hX (fr_rf _ _), fun q => by omega⟩
  | succ f ih =>
    intro k w M hX hi hf hQ
    have o := hX.okn
    have o0 := o.p12
    have o3 := o.txs
    have rt := hX.t i hi
    have ot := hX.okt i hi
    have n24 := ot.nc
    have ok1 := ot.kind k (by omega)
    have nx : ∀ w' : qW, (rlC M ((T i).2.1 k)).1 = true → rM w' (rlC M ((T i).2.1 k)).2 K T Z → fr (fun c => 72 ≤ c) w w' → qAt s d c_Mo_roll (qQi Q) 67 [some (.ref 72), some (.int (nI i)), some (.int (nI (k + 1))), none] [] w' := by
      intro w' g h f1
      rw [rlF_y g] at hQ
      refine ih (k + 1) w' _ h ?_ (by omega) (fun w2 h2 f2 => hQ w2 h2 (fr_tr f1 f2))
      have : (rlC M ((T i).2.1 k)).2 3 0 = M 3 0 := by
        unfold rlC
        split
        · split <;> rfl
        · split
          · split
            · unfold nNr; rw [if_neg (by decide)]; rfl
            · rfl
          · rfl
      rw [this]; exact hi
    have bad : ¬ (rlC M ((T i).2.1 k)).1 = true → Q (nI k) w := by
      intro g
      rw [rlF_n g] at hQ
      exact hQ w hX (fr_rf _ _)
    refine A_Mo_roll_67 ?_
    rw [show (700 : Int32) = nI 700 from rfl, nI_mul', qIx_nI (by omega), rt.nc, nI_leI (by omega) (by omega), nI_1 (700 * i), show (3 : Int32) * nI k = nI 3 * nI k from rfl, nI_mul', nI_add, nI_1, show (nI (700 * i + 1 + 3 * k) + (2 : Int32)) = nI (700 * i + 1 + 3 * k) + nI 2 from rfl, nI_add, qIx_nI (by omega), qIx_nI (by omega), qIx_nI (by omega), rt.kind k (by omega), show (3 : Int32) = nI 3 from rfl, nI_eq (by omega) (by omega)]
    have at128 : ∀ w' : qW, rM w' M K T Z → ¬ ((T i).2.1 k).1 = 3 → w' = w → qAt s d c_Mo_roll (qQi Q) 128 [some (.ref 72), some (.int (nI i)), some (.int (nI k)), some (.int (nI (700 * i + 1 + 3 * k)))] [] w' := by
      intro w' _ h3 ew
      subst ew
      refine A_Mo_roll_128 ?_
      rw [nI_1, show (nI (700 * i + 1 + 3 * k) + (2 : Int32)) = nI (700 * i + 1 + 3 * k) + nI 2 from rfl, nI_add, nI_1, qIx_nI (by omega), qIx_nI (by omega), qIx_nI (by omega), rt.kind k (by omega), show (4 : Int32) = nI 4 from rfl, nI_eq (by omega) (by omega)]
      refine ⟨qIn_nI (by omega) (by decide), fun h4 => ?_, fun h4 => ⟨qIn_nI (by omega) (by decide), qIn_nI (by omega) (by decide), ?_⟩⟩
      · have e := rlC_o (M := M) h3 h4
        exact nx w' (by rw [e]) (by rw [e]; exact hX) (fr_rf _ _)
      · have p4 := ot.p4 k (by omega) h4
        have lf := rt.lf k (by omega) (by omega)
        rw [lf.1, lf.2]
        refine m_near (by omega) hX (fun w2 g h f2 => ⟨fun _ => ?_, fun e => absurd e (by decide)⟩) (fun g => ⟨fun e => absurd rfl e, fun _ => ?_⟩)
        · have e := rlC_4 (M := M) h4 ((vNr_nI o p4.1 p4.2).mp g)
          exact nx w2 (by rw [e]) (by rw [e]; exact h) f2
        · have e := rlC_4n (M := M) h4 (mt (vNr_nI o p4.1 p4.2).mpr g)
          exact bad (by rw [e]; exact fun q => Bool.noConfusion q)
    refine ⟨qIn_nI (by omega) (by decide), fun g => by omega, fun _ => ⟨qIn_nI (by omega) (by decide), fun h3 => at128 w hX h3 rfl, fun h3 => ⟨qIn_nI (by omega) (by decide), qIn_nI (by omega) (by decide), ?_⟩⟩⟩
    have p3 := ot.p3 k (by omega) h3
    have lf := rt.lf k (by omega) (by omega)
    rw [lf.1, lf.2]
    refine m_person (by omega) hX (fun w2 g h f2 => ⟨fun _ => ?_, fun e => absurd ((nI_leI (a := 0) (by decide) (by omega)).mpr (Nat.zero_le _)) e⟩) (fun g => ⟨fun e => absurd e (by decide), fun _ => ?_⟩)
    · have e := rlC_3 (M := M) h3 ((vPer_nI ⟨p3.1, p3.2.1⟩ p3.2.2).mp g)
      rw [qIx_nI (by omega), qIx_nI (by omega)] at h
      have rt2 := h.t i hi
      refine A_Mo_roll_128 ?_
      rw [nI_1, show (nI (700 * i + 1 + 3 * k) + (2 : Int32)) = nI (700 * i + 1 + 3 * k) + nI 2 from rfl, nI_add, nI_1, qIx_nI (by omega), qIx_nI (by omega), qIx_nI (by omega), rt2.kind k (by omega), show (4 : Int32) = nI 4 from rfl, nI_eq (by omega) (by omega)]
      refine ⟨qIn_nI (by omega) (by decide), fun h4 => nx w2 (by rw [e]) (by rw [e]; exact h) f2, fun h4 => by omega⟩
    · have e := rlC_3n (M := M) h3 (mt (vPer_nI ⟨p3.1, p3.2.1⟩ p3.2.2).mpr g)
      exact bad (by rw [e]; exact fun q => Bool.noConfusion q)
def clr (w : qW) : Nat → qW
  | 0 => w
  | k + 1 => qPutI (clr w k) 73 (40 + k) (nI 0)
theorem clr_at (k j : Nat) : (clr w k).1 73 j = if 40 ≤ j ∧ j < 40 + k then nI 0 else w.1 73 j := by
  induction k with
  | zero => rw [if_neg (by omega)]; rfl
  | succ k ih =>
    show (qPutI (clr w k) 73 (40 + k) (nI 0)).1 73 j = _
    by_cases e : j = 40 + k
    · subst e; rw [if_pos (by omega), pI_e]
    · rw [pI_f e, ih]
      by_cases g : 40 ≤ j ∧ j < 40 + k
      · rw [if_pos g, if_pos (by omega)]
      · rw [if_neg g, if_neg (by omega)]
theorem clr_fr (k : Nat) : fr (fun c => c = 73) w (clr w k) := by
  induction k with
  | zero => exact fr_rf _ _
  | succ k ih => exact fr_I ih rfl
theorem clr_L (k c : Nat) : (clr w k).2.1 c = w.2.1 c := by
  induction k with
  | zero => rfl
  | succ k ih => exact ih
theorem m_roll {a : Int32} (hd : 4 ≤ d) (hX : rM w N K T Z) (hy : ∀ w', vRl N a → rM w' (nRl N T a).2 K T Z → fr (fun c => 72 ≤ c) w w' → Q (nRl N T a).1 w') (hn : ¬ vRl N a → Q (-2) w) : qCall (some s) d 250 [.ref 72, .int a] w (qQi Q) := by
  obtain ⟨d, rfl, hd1⟩ := dS hd
  have r := hX.n
  have o := hX.okn
  have o0 := o.p12
  have o3 := o.txs
  have o6 := o.gvs
  have o8 := o.hds
  have key : (0 ≤ a ∧ a ≤ nI (N 3 0) - 1) ↔ vRl N a := by
    unfold vRl
    rw [show (nI (N 3 0) - 1 : Int32) = nI (N 3 0) - nI 1 from rfl, le_pred (by omega)]
  refine A_Mo_roll ⟨qIn_nI (j := 3) (by decide) (by decide), ?_⟩
  rw [show qIx (3 : Int32) = 3 from rfl, r.txs]
  refine m_isInB (by omega) (fun g => n1 ⟨qIn_nI (j := 0) (by decide) (by decide), qIn_nI (j := 5) (by decide) (by decide), qIn_nI (j := 7) (by decide) (by decide), ?_⟩) (fun g => n0 (hn (fun q => g (key.mpr q))))
  have g := key.mp g
  obtain ⟨i, hi, e, e2⟩ := vRl_x hX.okn g
  have hz := fun w' => hy w' g
  unfold nRl at hz
  rw [e2] at hz
  subst e
  have loop : ∀ k, k ≤ 12 → ∀ v : qW, qAt s d c_Mo_roll (qQi Q) 67 [some (.ref 72), some (.int (nI i)), some (.int (0 : Int32)), none] [] (clr v 12) → qAt s d c_Mo_roll (qQi Q) 43 [some (.ref 72), some (.int (nI i)), some (.int (nI k)), none] [] (clr v k) := by
    intro k hk v hf
    refine lpN (P := fun k => qAt s d c_Mo_roll (qQi Q) 43 [some (.ref 72), some (.int (nI i)), some (.int (nI k)), none] [] (clr v k)) (n := 12) ?_ ?_ hk
    · exact A_Mo_roll_43 ⟨fun _ => hf, fun q => absurd (by decide) q⟩
    · intro j hj ih
      refine A_Mo_roll_43 ?_
      rw [show (12 : Int32) = nI 12 from rfl, nI_leI (by omega) (by omega), show (40 : Int32) + nI j = nI 40 + nI j from rfl, nI_add, qIx_nI (by omega), nI_1]
      exact ⟨fun q => by omega, fun _ => ⟨qIn_nI (by omega) (by decide), ih⟩⟩
  refine loop 0 (by omega) (qPutI (qPutI (qPutI w 73 (qIx (0 : Int32)) (0 : Int32)) 73 (qIx (5 : Int32)) (0 : Int32)) 73 (qIx (7 : Int32)) (0 : Int32)) ?_
  refine m_roll_67 (i := i) (K := K) (T := T) (Z := Z) (by omega) (T i).1 0 _ (nFgt N) ?_ hi (Nat.zero_add _) ?_
  · refine hX.upd (A := fun c => c = 73) (fr_tr (fr_I (fr_I (fr_pI rfl) rfl) rfl) (clr_fr 12)) (fun c _ => by omega) ?_ (nFgt_ok o) rfl
    have at3 : ∀ j, ¬ j = 0 → ¬ j = 5 → ¬ j = 7 → ¬ (40 ≤ j ∧ j < 52) → (clr (qPutI (qPutI (qPutI w 73 (qIx (0 : Int32)) (0 : Int32)) 73 (qIx (5 : Int32)) (0 : Int32)) 73 (qIx (7 : Int32)) (0 : Int32)) 12).1 73 j = w.1 73 j := by
      intro j h0 h5 h7 h4
      rw [clr_at, if_neg (by omega), show qIx (7 : Int32) = 7 from rfl, show qIx (5 : Int32) = 5 from rfl, qIx_0, pI_f h7, pI_f h5, pI_f h0]
    refine rR.mk ?_ ?_ ?_ ?_ ?_ ?_ ?_ ?_ ?_ (fun i hi => absurd hi (Nat.not_lt_zero _)) (fun i hi => absurd hi (Nat.not_lt_zero _)) (fun i hi => absurd hi (Nat.not_lt_zero _)) ?_ ?_ (fun i hi => absurd hi (Nat.not_lt_zero _)) (fun i hi => absurd hi (Nat.not_lt_zero _)) (fun i hi => absurd hi (Nat.not_lt_zero _)) (fun i hi => absurd hi (Nat.not_lt_zero _)) ?_ ?_ (fun i hi => absurd hi (Nat.not_lt_zero _)) (fun i hi => absurd hi (Nat.not_lt_zero _)) (fun i hi => absurd hi (Nat.not_lt_zero _))
    · rw [clr_at, if_neg (by omega)]; rfl
    · rw [at3 1 (by omega) (by omega) (by omega) (by omega)]; exact r.day
    · rw [at3 2 (by omega) (by omega) (by omega) (by omega)]; exact r.clk
    · rw [at3 3 (by omega) (by omega) (by omega) (by omega)]; exact r.txs
    · rw [at3 4 (by omega) (by omega) (by omega) (by omega)]; exact r.rul
    · rw [clr_at, if_neg (by omega)]; rfl
    · rw [at3 6 (by omega) (by omega) (by omega) (by omega)]; exact r.gvs
    · rw [clr_at, if_neg (by omega)]; rfl
    · rw [at3 8 (by omega) (by omega) (by omega) (by omega)]; exact r.hds
    · intro j _ hj; rw [clr_at, if_pos (by omega)]
    · intro j hj
      have hj : j < N 6 0 := hj
      rw [at3 _ (by omega) (by omega) (by omega) (by omega)]; exact r.gv j hj
    · intro j hj
      have hj : j < N 8 0 := hj
      rw [at3 _ (by omega) (by omega) (by omega) (by omega)]; exact r.hrd j hj
    · intro j hj
      have hj : j < N 8 0 := hj
      rw [at3 _ (by omega) (by omega) (by omega) (by omega)]; exact r.hri j hj
  · intro w' h f
    exact hz w' h (fr_tr (fr_tr (fr_I (fr_I (fr_pI (by decide)) (by decide)) (by decide)) (fr_wk (clr_fr 12) (fun c hc => by omega))) f)
end Roll
