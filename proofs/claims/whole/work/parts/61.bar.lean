/-! take and bar of the reference: who is due and who is barred, laid out. -/
section Bar
variable {s : Nat × (Nat → Int32)} {d : Nat} {w : qW} {Q : Int32 → qW → Prop} {QL : Int64 → qW → Prop} {R : qW → Prop} {N K : vS} {T : Nat → vT} {Z : vZ}
/-- a state that rules as now does, with other numbers maybe -/
def alike (S N : vS) : Prop := S 0 0 = N 0 0 ∧ S 1 0 = N 1 0 ∧ S 2 0 = N 2 0 ∧ S 4 0 = N 4 0
theorem alike_rf (N : vS) : alike N N := ⟨rfl, rfl, rfl, rfl⟩
theorem m_rul (hX : rM w N K T Z) : (N 4 0 = 0 ∧ w.1 73 4 = -(nI 1)) ∨ ∃ i, N 4 0 = i + 1 ∧ i < 4 ∧ i < N 3 0 ∧ w.1 73 4 = nI i := by
  have h := hX.n.rul
  have o := hX.okn.rul
  have o3 := hX.okn.txs
  cases hi : N 4 0 with
  | zero => left; rw [hi] at h; exact ⟨rfl, h⟩
  | succ i =>
    right
    rw [hi] at h
    exact ⟨i, rfl, by omega, by omega, by rw [h]; exact pk_m1 i⟩
theorem m_clauses (hd : 1 ≤ d) (hX : rM w N K T Z) (h : Q (nI (if N 4 0 = 0 then 0 else (rul T N).1)) w) : qCall (some s) d 256 [.ref 72] w (qQi Q) := by
  obtain ⟨d, rfl, -⟩ := dS hd
  refine A_Mo_clauses ?_
  rcases m_rul hX with ⟨e, e2⟩ | ⟨i, e, hi, hi3, e2⟩
  · simp (disch := omega) only [li, ll, nI_add, nI_mul', nI_sub', nI_div', qRem_nI, lN_add, lN_mul, lN_sub, lN_div', qRemL_lN, qIn_I, qIx_nI, nI_ltI, nI_leI, nI_eq, nI_eqn, nI_eqn', nI_len, nI_ltn, nI_nle', nI_nlt', lN_eqn, lg_lt, lg_gt, lg_eq, lg_le, lg_ge, lgn_lt, lgn_gt, lgn_eq, lgn_le, lgn_ge, pk_lLT, pk_lLE, pk_lEQ, nI_l, lN_i, qShl_n, nI_and, nI_or, lN_and, lN_or, nI_andn, lN_andn, pI_e, pI_f, pI_c, pL_e, pL_f, pL_c, pI_L, pL_I, qB_1, qZb_n, true_and, and_true, forall_const, not_true_eq_false, not_false_eq_true, Nat.reduceLT, Nat.reduceLeDiff, Nat.reduceEqDiff, Nat.reduceAdd, Nat.reduceMul, Nat.reduceSub, Nat.reduceMod, Nat.reduceDiv, false_implies, implies_true, e2]
    rw [if_pos e] at h
    exact h
  · have hn := (hX.t i hi3).nc
    simp (disch := omega) only [li, ll, nI_add, nI_mul', nI_sub', nI_div', qRem_nI, lN_add, lN_mul, lN_sub, lN_div', qRemL_lN, qIn_I, qIx_nI, nI_ltI, nI_leI, nI_eq, nI_eqn, nI_eqn', nI_len, nI_ltn, nI_nle', nI_nlt', lN_eqn, lg_lt, lg_gt, lg_eq, lg_le, lg_ge, lgn_lt, lgn_gt, lgn_eq, lgn_le, lgn_ge, pk_lLT, pk_lLE, pk_lEQ, nI_l, lN_i, qShl_n, nI_and, nI_or, lN_and, lN_or, nI_andn, lN_andn, pI_e, pI_f, pI_c, pL_e, pL_f, pL_c, pI_L, pL_I, qB_1, qZb_n, true_and, and_true, forall_const, not_true_eq_false, not_false_eq_true, Nat.reduceLT, Nat.reduceLeDiff, Nat.reduceEqDiff, Nat.reduceAdd, Nat.reduceMul, Nat.reduceSub, Nat.reduceMod, Nat.reduceDiv, false_implies, implies_true, e2, hn]
    rw [if_neg (by omega)] at h
    have er : rul T N = T i := by unfold rul; rw [e]; rfl
    rw [er] at h
    exact ⟨fun _ => ⟨by omega, h⟩, fun g => absurd (by omega) g⟩
theorem m_sortAt {k i : Nat} (hd : 1 ≤ d) (hX : rM w N K T Z) (e : N 4 0 = i + 1) (hi : i < N 3 0) (hk : k < (T i).1) (h : Q (nI ((T i).2.1 k).1) w) : qCall (some s) d 257 [.ref 72, .int (nI k)] w (qQi Q) := by
  obtain ⟨d, rfl, -⟩ := dS hd
  refine A_Mo_sortAt ?_
  have o3 := hX.okn.txs
  have e2 : w.1 73 4 = nI i := by rw [hX.n.rul, e]; exact pk_m1 i
  have hn := (hX.t i hi).kind k hk
  have h24 := (hX.okt i hi).nc
  simp (disch := omega) only [li, ll, nI_add, nI_mul', nI_sub', nI_div', qRem_nI, lN_add, lN_mul, lN_sub, lN_div', qRemL_lN, qIn_I, qIx_nI, nI_ltI, nI_leI, nI_eq, nI_eqn, nI_eqn', nI_len, nI_ltn, nI_nle', nI_nlt', lN_eqn, lg_lt, lg_gt, lg_eq, lg_le, lg_ge, lgn_lt, lgn_gt, lgn_eq, lgn_le, lgn_ge, pk_lLT, pk_lLE, pk_lEQ, nI_l, lN_i, qShl_n, nI_and, nI_or, lN_and, lN_or, nI_andn, lN_andn, pI_e, pI_f, pI_c, pL_e, pL_f, pL_c, pI_L, pL_I, qB_1, qZb_n, true_and, and_true, forall_const, not_true_eq_false, not_false_eq_true, Nat.reduceLT, Nat.reduceLeDiff, Nat.reduceEqDiff, Nat.reduceAdd, Nat.reduceMul, Nat.reduceSub, Nat.reduceMod, Nat.reduceDiv, false_implies, implies_true, e2, hn]
  exact ⟨by omega, h⟩
theorem m_work {k i : Nat} (hd : 3 ≤ d) (hX : rM w N K T Z) (e : N 4 0 = i + 1) (hi : i < N 3 0) (hk : k < (T i).1) {b : Bool} (hb : ((T i).2.1 k).1 = if b then 1 else 2) {nm : Nat → Int} (hnm : ∀ k, k < 7 → b = decide (k < 4) → w.1 80 k = iZ (nm k) ∧ mil (nm k)) (hQ : ∀ w'', fr (fun c => c = 81 ∨ c = 82) w w'' → (b = true → w''.1 82 0 = resB b (evc nm ((T i).2.2 k) [] [])) → (b = false → w''.2.1 81 0 = lZ ((evc nm ((T i).2.2 k) [] []).1.headD 0)) → R w'') : qCall (some s) d 258 [.ref 72, .int (nI k)] w (qQv R) := by
  obtain ⟨d, rfl, hd1⟩ := dS hd
  refine A_Mo_work ?_
  have o3 := hX.okn.txs
  have e2 : w.1 73 4 = nI i := by rw [hX.n.rul, e]; exact pk_m1 i
  have h24 := (hX.okt i hi).nc
  obtain ⟨f, h1, h2, h3, h4⟩ := (hX.t i hi).code k hk (by rw [hb]; cases b <;> decide)
  have ty : tyc b ((T i).2.2 k) 0 0 := by
    cases b with
    | true => exact (hX.okt i hi).p1 k hk hb
    | false => exact (hX.okt i hi).p2 k hk hb
  simp (disch := omega) only [li, ll, nI_add, nI_mul', nI_sub', nI_div', qRem_nI, lN_add, lN_mul, lN_sub, lN_div', qRemL_lN, qIn_I, qIx_nI, nI_ltI, nI_leI, nI_eq, nI_eqn, nI_eqn', nI_len, nI_ltn, nI_nle', nI_nlt', lN_eqn, lg_lt, lg_gt, lg_eq, lg_le, lg_ge, lgn_lt, lgn_gt, lgn_eq, lgn_le, lgn_ge, pk_lLT, pk_lLE, pk_lEQ, nI_l, lN_i, qShl_n, nI_and, nI_or, lN_and, lN_or, nI_andn, lN_andn, pI_e, pI_f, pI_c, pL_e, pL_f, pL_c, pI_L, pL_I, qB_1, qZb_n, true_and, and_true, forall_const, not_true_eq_false, not_false_eq_true, Nat.reduceLT, Nat.reduceLeDiff, Nat.reduceEqDiff, Nat.reduceAdd, Nat.reduceMul, Nat.reduceSub, Nat.reduceMod, Nat.reduceDiv, false_implies, implies_true, e2, h1]
  exact ⟨by omega, work_loop hd1 (by omega) (by omega) hnm h3 h2 _ f [] [] w ty (fun x hx => by cases hx) trivial trivial (fr_rf _ _) h4 rfl hQ⟩
theorem m_isDue {S : vS} {p h : Nat} (hd : 1 ≤ d) (hp : p < 12) (h1 : w.1 83 p = nI (S 10 p)) (h2 : w.1 84 p = nI (S 11 p)) (o1 : 1 ≤ S 10 p ∧ S 10 p ≤ 9999) (o2 : S 11 p ≤ 9999) (hh : h < 2 ^ 62) (hQ : Q (tI (due S p h)) w) : qCall (some s) d 255 [.ref 72, .int (nI p), .long (lN h)] w (qQi Q) := by
  obtain ⟨d, rfl, -⟩ := dS hd
  refine A_Mo_isDue ?_
  unfold due at hQ
  simp (disch := omega) only [li, ll, nI_add, nI_mul', nI_sub', nI_div', qRem_nI, lN_add, lN_mul, lN_sub, lN_div', qRemL_lN, qIn_I, qIx_nI, nI_ltI, nI_leI, nI_eq, nI_eqn, nI_eqn', nI_len, nI_ltn, nI_nle', nI_nlt', lN_eqn, lg_lt, lg_gt, lg_eq, lg_le, lg_ge, lgn_lt, lgn_gt, lgn_eq, lgn_le, lgn_ge, pk_lLT, pk_lLE, pk_lEQ, nI_l, lN_i, qShl_n, nI_and, nI_or, lN_and, lN_or, nI_andn, lN_andn, pI_e, pI_f, pI_c, pL_e, pL_f, pL_c, pI_L, pL_I, qB_1, qZb_n, true_and, and_true, forall_const, not_true_eq_false, not_false_eq_true, Nat.reduceLT, Nat.reduceLeDiff, Nat.reduceEqDiff, Nat.reduceAdd, Nat.reduceMul, Nat.reduceSub, Nat.reduceMod, Nat.reduceDiv, false_implies, implies_true, h1, h2]
  refine ⟨hp, fun g => ?_, fun g => ⟨hp, hp, by omega, ?_⟩⟩
  · rw [decide_eq_false (by omega)] at hQ; exact hQ
  · rw [lN_sub (by omega), qRemL_lN (by omega) (by omega) (by omega), pk_lEQ (Nat.lt_of_le_of_lt (Nat.mod_le _ _) (by omega)) (by decide)]
    refine ⟨fun g2 => ?_, fun g2 => ?_⟩
    · rw [decide_eq_false (fun q => g2 q.2)] at hQ; exact hQ
    · rw [decide_eq_true ⟨by omega, g2⟩] at hQ; exact hQ
/-- what take lays out for one -/
def tk1 (w : qW) (T : Nat → vT) (S : vS) (p : Nat) : Prop := (w.1 83 p = nI (S 10 p)) ∧ (w.1 84 p = nI (S 11 p)) ∧ (∀ c, c < S 2 0 → w.1 85 (60 * p + c) = tI (brd T S p c)) ∧ (∀ t, t < S 1 0 → w.1 86 (999 * p + t) = tI (due S p t))
theorem tk1.num {w : qW} {T : Nat → vT} {S : vS} {p : Nat} (h : tk1 w T S p) : w.1 83 p = nI (S 10 p) := h.1
theorem tk1.fst {w : qW} {T : Nat → vT} {S : vS} {p : Nat} (h : tk1 w T S p) : w.1 84 p = nI (S 11 p) := h.2.1
theorem tk1.cls {w : qW} {T : Nat → vT} {S : vS} {p : Nat} (h : tk1 w T S p) : ∀ c, c < S 2 0 → w.1 85 (60 * p + c) = tI (brd T S p c) := h.2.2.1
theorem tk1.dun {w : qW} {T : Nat → vT} {S : vS} {p : Nat} (h : tk1 w T S p) : ∀ t, t < S 1 0 → w.1 86 (999 * p + t) = tI (due S p t) := h.2.2.2
theorem tk1.mk {w : qW} {T : Nat → vT} {S : vS} {p : Nat} (f_num : w.1 83 p = nI (S 10 p)) (f_fst : w.1 84 p = nI (S 11 p)) (f_cls : ∀ c, c < S 2 0 → w.1 85 (60 * p + c) = tI (brd T S p c)) (f_dun : ∀ t, t < S 1 0 → w.1 86 (999 * p + t) = tI (due S p t)) : tk1 w T S p := ⟨f_num, f_fst, f_cls, f_dun⟩
def barA (c : Nat) : Prop := c = 80 ∨ c = 81 ∨ c = 82 ∨ c = 85 ∨ c = 86
theorem any_succ (f : Nat → Bool) (k : Nat) : (List.range (k + 1)).any f = ((List.range k).any f || f k) := by
  rw [List.range_succ, List.any_append]
  simp
theorem any_le {f : Nat → Bool} {k n : Nat} (h : k ≤ n) (ha : (List.range k).any f = true) : (List.range n).any f = true := by
  rw [List.any_eq_true] at *
  obtain ⟨x, hx, hf⟩ := ha
  exact ⟨x, List.mem_range.mpr (by have := List.mem_range.mp hx; omega), hf⟩
theorem m_bar {S : vS} {p : Nat} (hd : 4 ≤ d) (hX : rM w N K T Z) (al : alike S N) (hp : p < 12) (h1 : w.1 83 p = nI (S 10 p)) (h2 : w.1 84 p = nI (S 11 p)) (o1 : 1 ≤ S 10 p ∧ S 10 p ≤ 9999) (o2 : S 11 p ≤ 9999) (hQ : ∀ w', fr barA w w' → tk1 w' T S p → (∀ q c, ¬ q = p → c < 60 → w'.1 85 (60 * q + c) = w.1 85 (60 * q + c)) → (∀ q c, ¬ q = p → c < 999 → w'.1 86 (999 * q + c) = w.1 86 (999 * q + c)) → R w') : qCall (some s) d 254 [.ref 72, .int (nI p)] w (qQv R) := by
  obtain ⟨d, rfl, hd1⟩ := dS hd
  obtain ⟨a0, a1, a2, a4⟩ := al
  have okd := hX.okn.day
  have okc := hX.okn.clk
  refine A_Mo_bar ?_
  have loop1 : ∀ k t (w' : qW), N 1 0 - t = k → t ≤ N 1 0 → fr (fun c => c = 86) w w' → (∀ j, j < t → w'.1 86 (999 * p + j) = tI (due S p j)) → (∀ q c, ¬ q = p → c < 999 → w'.1 86 (999 * q + c) = w.1 86 (999 * q + c)) →
      (∀ w2 : qW, fr (fun c => c = 80 ∨ c = 86) w w2 → (∀ j, j < N 1 0 → w2.1 86 (999 * p + j) = tI (due S p j)) → (∀ q c, ¬ q = p → c < 999 → w2.1 86 (999 * q + c) = w.1 86 (999 * q + c)) → w2.1 80 1 = nI (S 10 p) → w2.1 80 2 = nI (S 11 p) → w2.1 80 3 = nI p → qAt s d c_Mo_bar (qQv R) 70 [some (.ref 72), some (.int (nI p)), some (.int (nI 0)), none, none] [] w2) →
      qAt s d c_Mo_bar (qQv R) 2 [some (.ref 72), some (.int (nI p)), some (.int (nI t)), none, none] [] w' := by
    intro k
    induction k with
    | zero =>
      intro t w' hk ht hf hj hq hnext
      have e : t = N 1 0 := by omega
      subst e
      refine A_Mo_bar_2 ?_
      have eX := hX.keep (w' := w') hf (fun c h1 h2 => by omega)
      have e83 : w'.1 83 p = nI (S 10 p) := by rw [(hf 83 (by decide)).1]; exact h1
      have e84 : w'.1 84 p = nI (S 11 p) := by rw [(hf 84 (by decide)).1]; exact h2
      simp (disch := omega) only [li, ll, nI_add, nI_mul', nI_sub', nI_div', qRem_nI, lN_add, lN_mul, lN_sub, lN_div', qRemL_lN, qIn_I, qIx_nI, nI_ltI, nI_leI, nI_eq, nI_eqn, nI_eqn', nI_len, nI_ltn, nI_nle', nI_nlt', lN_eqn, lg_lt, lg_gt, lg_eq, lg_le, lg_ge, lgn_lt, lgn_gt, lgn_eq, lgn_le, lgn_ge, pk_lLT, pk_lLE, pk_lEQ, nI_l, lN_i, qShl_n, nI_and, nI_or, lN_and, lN_or, nI_andn, lN_andn, pI_e, pI_f, pI_c, pL_e, pL_f, pL_c, pI_L, pL_I, qB_1, qZb_n, true_and, and_true, forall_const, not_true_eq_false, not_false_eq_true, Nat.reduceLT, Nat.reduceLeDiff, Nat.reduceEqDiff, Nat.reduceAdd, Nat.reduceMul, Nat.reduceSub, Nat.reduceMod, Nat.reduceDiv, false_implies, implies_true, eX.n.day, e83, e84]
      refine ⟨fun _ => ⟨hp, hp, ?_⟩, fun g => absurd (Nat.le_refl _) g⟩
      refine hnext _ (fr_I (fr_I (fr_I (fr_wk hf (fun c hc => Or.inr hc)) (Or.inl rfl)) (Or.inl rfl)) (Or.inl rfl)) ?_ ?_ ?_ ?_ ?_
      · intro j hj2
        simp (disch := omega) only [li, ll, nI_add, nI_mul', nI_sub', nI_div', qRem_nI, lN_add, lN_mul, lN_sub, lN_div', qRemL_lN, qIn_I, qIx_nI, nI_ltI, nI_leI, nI_eq, nI_eqn, nI_eqn', nI_len, nI_ltn, nI_nle', nI_nlt', lN_eqn, lg_lt, lg_gt, lg_eq, lg_le, lg_ge, lgn_lt, lgn_gt, lgn_eq, lgn_le, lgn_ge, pk_lLT, pk_lLE, pk_lEQ, nI_l, lN_i, qShl_n, nI_and, nI_or, lN_and, lN_or, nI_andn, lN_andn, pI_e, pI_f, pI_c, pL_e, pL_f, pL_c, pI_L, pL_I, qB_1, qZb_n, true_and, and_true, forall_const, not_true_eq_false, not_false_eq_true, Nat.reduceLT, Nat.reduceLeDiff, Nat.reduceEqDiff, Nat.reduceAdd, Nat.reduceMul, Nat.reduceSub, Nat.reduceMod, Nat.reduceDiv, false_implies, implies_true]
        exact hj j hj2
      · intro q c hq2 hc
        simp (disch := omega) only [li, ll, nI_add, nI_mul', nI_sub', nI_div', qRem_nI, lN_add, lN_mul, lN_sub, lN_div', qRemL_lN, qIn_I, qIx_nI, nI_ltI, nI_leI, nI_eq, nI_eqn, nI_eqn', nI_len, nI_ltn, nI_nle', nI_nlt', lN_eqn, lg_lt, lg_gt, lg_eq, lg_le, lg_ge, lgn_lt, lgn_gt, lgn_eq, lgn_le, lgn_ge, pk_lLT, pk_lLE, pk_lEQ, nI_l, lN_i, qShl_n, nI_and, nI_or, lN_and, lN_or, nI_andn, lN_andn, pI_e, pI_f, pI_c, pL_e, pL_f, pL_c, pI_L, pL_I, qB_1, qZb_n, true_and, and_true, forall_const, not_true_eq_false, not_false_eq_true, Nat.reduceLT, Nat.reduceLeDiff, Nat.reduceEqDiff, Nat.reduceAdd, Nat.reduceMul, Nat.reduceSub, Nat.reduceMod, Nat.reduceDiv, false_implies, implies_true]
        exact hq q c hq2 hc
      · simp (disch := omega) only [li, ll, nI_add, nI_mul', nI_sub', nI_div', qRem_nI, lN_add, lN_mul, lN_sub, lN_div', qRemL_lN, qIn_I, qIx_nI, nI_ltI, nI_leI, nI_eq, nI_eqn, nI_eqn', nI_len, nI_ltn, nI_nle', nI_nlt', lN_eqn, lg_lt, lg_gt, lg_eq, lg_le, lg_ge, lgn_lt, lgn_gt, lgn_eq, lgn_le, lgn_ge, pk_lLT, pk_lLE, pk_lEQ, nI_l, lN_i, qShl_n, nI_and, nI_or, lN_and, lN_or, nI_andn, lN_andn, pI_e, pI_f, pI_c, pL_e, pL_f, pL_c, pI_L, pL_I, qB_1, qZb_n, true_and, and_true, forall_const, not_true_eq_false, not_false_eq_true, Nat.reduceLT, Nat.reduceLeDiff, Nat.reduceEqDiff, Nat.reduceAdd, Nat.reduceMul, Nat.reduceSub, Nat.reduceMod, Nat.reduceDiv, false_implies, implies_true]
      · simp (disch := omega) only [li, ll, nI_add, nI_mul', nI_sub', nI_div', qRem_nI, lN_add, lN_mul, lN_sub, lN_div', qRemL_lN, qIn_I, qIx_nI, nI_ltI, nI_leI, nI_eq, nI_eqn, nI_eqn', nI_len, nI_ltn, nI_nle', nI_nlt', lN_eqn, lg_lt, lg_gt, lg_eq, lg_le, lg_ge, lgn_lt, lgn_gt, lgn_eq, lgn_le, lgn_ge, pk_lLT, pk_lLE, pk_lEQ, nI_l, lN_i, qShl_n, nI_and, nI_or, lN_and, lN_or, nI_andn, lN_andn, pI_e, pI_f, pI_c, pL_e, pL_f, pL_c, pI_L, pL_I, qB_1, qZb_n, true_and, and_true, forall_const, not_true_eq_false, not_false_eq_true, Nat.reduceLT, Nat.reduceLeDiff, Nat.reduceEqDiff, Nat.reduceAdd, Nat.reduceMul, Nat.reduceSub, Nat.reduceMod, Nat.reduceDiv, false_implies, implies_true]
      · simp (disch := omega) only [li, ll, nI_add, nI_mul', nI_sub', nI_div', qRem_nI, lN_add, lN_mul, lN_sub, lN_div', qRemL_lN, qIn_I, qIx_nI, nI_ltI, nI_leI, nI_eq, nI_eqn, nI_eqn', nI_len, nI_ltn, nI_nle', nI_nlt', lN_eqn, lg_lt, lg_gt, lg_eq, lg_le, lg_ge, lgn_lt, lgn_gt, lgn_eq, lgn_le, lgn_ge, pk_lLT, pk_lLE, pk_lEQ, nI_l, lN_i, qShl_n, nI_and, nI_or, lN_and, lN_or, nI_andn, lN_andn, pI_e, pI_f, pI_c, pL_e, pL_f, pL_c, pI_L, pL_I, qB_1, qZb_n, true_and, and_true, forall_const, not_true_eq_false, not_false_eq_true, Nat.reduceLT, Nat.reduceLeDiff, Nat.reduceEqDiff, Nat.reduceAdd, Nat.reduceMul, Nat.reduceSub, Nat.reduceMod, Nat.reduceDiv, false_implies, implies_true]
    | succ k ih =>
      intro t w' hk ht hf hj hq hnext
      refine A_Mo_bar_2 ?_
      have eX := hX.keep (w' := w') hf (fun c h1 h2 => by omega)
      have e83 : w'.1 83 p = nI (S 10 p) := by rw [(hf 83 (by decide)).1]; exact h1
      have e84 : w'.1 84 p = nI (S 11 p) := by rw [(hf 84 (by decide)).1]; exact h2
      simp (disch := omega) only [li, ll, nI_add, nI_mul', nI_sub', nI_div', qRem_nI, lN_add, lN_mul, lN_sub, lN_div', qRemL_lN, qIn_I, qIx_nI, nI_ltI, nI_leI, nI_eq, nI_eqn, nI_eqn', nI_len, nI_ltn, nI_nle', nI_nlt', lN_eqn, lg_lt, lg_gt, lg_eq, lg_le, lg_ge, lgn_lt, lgn_gt, lgn_eq, lgn_le, lgn_ge, pk_lLT, pk_lLE, pk_lEQ, nI_l, lN_i, qShl_n, nI_and, nI_or, lN_and, lN_or, nI_andn, lN_andn, pI_e, pI_f, pI_c, pL_e, pL_f, pL_c, pI_L, pL_I, qB_1, qZb_n, true_and, and_true, forall_const, not_true_eq_false, not_false_eq_true, Nat.reduceLT, Nat.reduceLeDiff, Nat.reduceEqDiff, Nat.reduceAdd, Nat.reduceMul, Nat.reduceSub, Nat.reduceMod, Nat.reduceDiv, false_implies, implies_true, eX.n.day]
      refine ⟨fun g => by omega, fun _ => m_isDue (S := S) (by omega) hp e83 e84 o1 o2 (by omega) ?_⟩
      have hz : qZb (tI (due S p t)) = true := by cases due S p t <;> rfl
      rw [hz]
      refine ⟨by omega, ih (t + 1) _ (by omega) (by omega) (fr_I hf rfl) (fun j hj2 => ?_) (fun q c hq2 hc => ?_) hnext⟩
      · by_cases e : j = t
        · subst e; rw [pI_e]
        · rw [pI_f (by omega)]; exact hj j (by omega)
      · rw [pI_f (by omega)]; exact hq q c hq2 hc
  refine loop1 _ 0 w rfl (by omega) (fr_rf _ _) (fun j hj => by omega) (fun q c _ _ => rfl) ?_
  intro w2 f2 hdu hdq n1 n2 n3
  have loop2 : ∀ k c (w' : qW), N 2 0 - c = k → c ≤ N 2 0 → fr (fun c => c = 80 ∨ c = 81 ∨ c = 82 ∨ c = 85) w2 w' → w'.1 80 1 = nI (S 10 p) → w'.1 80 2 = nI (S 11 p) → w'.1 80 3 = nI p → (∀ j, j < c → w'.1 85 (60 * p + j) = tI (brd T S p j)) → (∀ q c, ¬ q = p → c < 60 → w'.1 85 (60 * q + c) = w.1 85 (60 * q + c)) → qAt s d c_Mo_bar (qQv R) 70 [some (.ref 72), some (.int (nI p)), some (.int (nI c)), none, none] [] w' := by
    intro k
    induction k with
    | zero =>
      intro c w' hk hc hf m1 m2 m3 hj hq
      have e : c = N 2 0 := by omega
      subst e
      refine A_Mo_bar_70 ?_
      have eX := (hX.keep (w' := w2) f2 (fun c h1 h2 => by omega)).keep (w' := w') hf (fun c h1 h2 => by omega)
      simp (disch := omega) only [li, ll, nI_add, nI_mul', nI_sub', nI_div', qRem_nI, lN_add, lN_mul, lN_sub, lN_div', qRemL_lN, qIn_I, qIx_nI, nI_ltI, nI_leI, nI_eq, nI_eqn, nI_eqn', nI_len, nI_ltn, nI_nle', nI_nlt', lN_eqn, lg_lt, lg_gt, lg_eq, lg_le, lg_ge, lgn_lt, lgn_gt, lgn_eq, lgn_le, lgn_ge, pk_lLT, pk_lLE, pk_lEQ, nI_l, lN_i, qShl_n, nI_and, nI_or, lN_and, lN_or, nI_andn, lN_andn, pI_e, pI_f, pI_c, pL_e, pL_f, pL_c, pI_L, pL_I, qB_1, qZb_n, true_and, and_true, forall_const, not_true_eq_false, not_false_eq_true, Nat.reduceLT, Nat.reduceLeDiff, Nat.reduceEqDiff, Nat.reduceAdd, Nat.reduceMul, Nat.reduceSub, Nat.reduceMod, Nat.reduceDiv, false_implies, implies_true, eX.n.clk]
      refine ⟨fun _ => hQ w' (fr_tr (fr_wk f2 (fun c hc => by unfold barA; omega)) (fr_wk hf (fun c hc => by unfold barA; omega))) ?_ hq ?_, fun g => absurd (Nat.le_refl _) g⟩
      · refine tk1.mk ?_ ?_ ?_ ?_
        · rw [(hf 83 (by decide)).1, (f2 83 (by decide)).1]; exact h1
        · rw [(hf 84 (by decide)).1, (f2 84 (by decide)).1]; exact h2
        · rw [a2]; exact hj
        · rw [a1, (hf 86 (by decide)).1]; exact hdu
      · intro q c hq2 hc
        rw [(hf 86 (by decide)).1]
        exact hdq q c hq2 hc
    | succ k ih =>
      intro c w' hk hc hf m1 m2 m3 hj hq
      refine A_Mo_bar_70 ?_
      have eX := (hX.keep (w' := w2) f2 (fun c h1 h2 => by omega)).keep (w' := w') hf (fun c h1 h2 => by omega)
      simp (disch := omega) only [li, ll, nI_add, nI_mul', nI_sub', nI_div', qRem_nI, lN_add, lN_mul, lN_sub, lN_div', qRemL_lN, qIn_I, qIx_nI, nI_ltI, nI_leI, nI_eq, nI_eqn, nI_eqn', nI_len, nI_ltn, nI_nle', nI_nlt', lN_eqn, lg_lt, lg_gt, lg_eq, lg_le, lg_ge, lgn_lt, lgn_gt, lgn_eq, lgn_le, lgn_ge, pk_lLT, pk_lLE, pk_lEQ, nI_l, lN_i, qShl_n, nI_and, nI_or, lN_and, lN_or, nI_andn, lN_andn, pI_e, pI_f, pI_c, pL_e, pL_f, pL_c, pI_L, pL_I, qB_1, qZb_n, true_and, and_true, forall_const, not_true_eq_false, not_false_eq_true, Nat.reduceLT, Nat.reduceLeDiff, Nat.reduceEqDiff, Nat.reduceAdd, Nat.reduceMul, Nat.reduceSub, Nat.reduceMod, Nat.reduceDiv, false_implies, implies_true, eX.n.clk]
      refine ⟨fun g => by omega, fun _ => ?_⟩
      -- the clauses
      have inner : ∀ l k (is : Bool) (w3 : qW), (if N 4 0 = 0 then 0 else (rul T N).1) - k = l → k ≤ (if N 4 0 = 0 then 0 else (rul T N).1) → fr (fun c => c = 81 ∨ c = 82) (qPutI w' 80 0 (nI c)) w3 → is = (List.range k).any (fun k => shut (rul T S) S p c k) → qAt s d c_Mo_bar (qQv R) 92 [some (.ref 72), some (.int (nI p)), some (.int (nI c)), some (.int (tI is)), some (.int (nI k))] [] w3 := by
        intro l
        have fin : ∀ (w3 : qW) (is : Bool), fr (fun c => c = 81 ∨ c = 82) (qPutI w' 80 0 (nI c)) w3 → is = brd T S p c → qAt s d c_Mo_bar (qQv R) 70 [some (.ref 72), some (.int (nI p)), some (.int (nI (c + 1))), none, none] [] (qPutI w3 85 (60 * p + c) (tI is)) := by
          intro w3 is f3 ei
          have e80 : ∀ k, w3.1 80 k = (qPutI w' 80 0 (nI c)).1 80 k := fun k => by rw [(f3 80 (by decide)).1]
          have e85 : ∀ k, w3.1 85 k = w'.1 85 k := fun k => by rw [(f3 85 (by decide)).1, pI_c (by decide)]
          refine ih (c + 1) _ (by omega) (by omega) (fr_I (fr_tr (fr_I hf (Or.inl rfl)) (fr_wk f3 (fun c hc => by omega))) (by decide)) ?_ ?_ ?_ ?_ ?_
          · rw [pI_c (by decide), e80, pI_f (by decide)]; exact m1
          · rw [pI_c (by decide), e80, pI_f (by decide)]; exact m2
          · rw [pI_c (by decide), e80, pI_f (by decide)]; exact m3
          · intro j hj2
            by_cases e : j = c
            · subst e; rw [pI_e, ei]
            · rw [pI_f (by omega), e85]; exact hj j (by omega)
          · intro q c2 hq2 hc2
            rw [pI_f (by omega), e85]; exact hq q c2 hq2 hc2
        have eR : ∀ w3, fr (fun c => c = 81 ∨ c = 82) (qPutI w' 80 0 (nI c)) w3 → rM w3 N K T Z := fun w3 f3 => (eX.keep (w' := qPutI w' 80 0 (nI c)) (A := fun c => c = 80) (fr_pI rfl) (fun c h1 h2 => by omega)).keep f3 (fun c h1 h2 => by omega)
        have erS : rul T S = rul T N := by unfold rul; rw [a4]
        induction l with
        | zero =>
          intro k is w3 hl hk2 f3 ei
          have ek : k = (if N 4 0 = 0 then 0 else (rul T N).1) := by omega
          refine A_Mo_bar_92 (m_clauses (by omega) (eR w3 f3) ?_)
          rw [← ek]
          have hz : qZb (tI is) = true := by cases is <;> rfl
          rw [hz]
          refine ⟨fun _ => ⟨?_, ?_⟩, fun g => absurd (Int32.le_refl _) g⟩
          · simp (disch := omega) only [li, ll, nI_add, nI_mul', nI_sub', nI_div', qRem_nI, lN_add, lN_mul, lN_sub, lN_div', qRemL_lN, qIn_I, qIx_nI, nI_ltI, nI_leI, nI_eq, nI_eqn, nI_eqn', nI_len, nI_ltn, nI_nle', nI_nlt', lN_eqn, lg_lt, lg_gt, lg_eq, lg_le, lg_ge, lgn_lt, lgn_gt, lgn_eq, lgn_le, lgn_ge, pk_lLT, pk_lLE, pk_lEQ, nI_l, lN_i, qShl_n, nI_and, nI_or, lN_and, lN_or, nI_andn, lN_andn, pI_e, pI_f, pI_c, pL_e, pL_f, pL_c, pI_L, pL_I, qB_1, qZb_n, true_and, and_true, forall_const, not_true_eq_false, not_false_eq_true, Nat.reduceLT, Nat.reduceLeDiff, Nat.reduceEqDiff, Nat.reduceAdd, Nat.reduceMul, Nat.reduceSub, Nat.reduceMod, Nat.reduceDiv, false_implies, implies_true]
            omega
          · simp (disch := omega) only [li, ll, nI_add, nI_mul', nI_sub', nI_div', qRem_nI, lN_add, lN_mul, lN_sub, lN_div', qRemL_lN, qIn_I, qIx_nI, nI_ltI, nI_leI, nI_eq, nI_eqn, nI_eqn', nI_len, nI_ltn, nI_nle', nI_nlt', lN_eqn, lg_lt, lg_gt, lg_eq, lg_le, lg_ge, lgn_lt, lgn_gt, lgn_eq, lgn_le, lgn_ge, pk_lLT, pk_lLE, pk_lEQ, nI_l, lN_i, qShl_n, nI_and, nI_or, lN_and, lN_or, nI_andn, lN_andn, pI_e, pI_f, pI_c, pL_e, pL_f, pL_c, pI_L, pL_I, qB_1, qZb_n, true_and, and_true, forall_const, not_true_eq_false, not_false_eq_true, Nat.reduceLT, Nat.reduceLeDiff, Nat.reduceEqDiff, Nat.reduceAdd, Nat.reduceMul, Nat.reduceSub, Nat.reduceMod, Nat.reduceDiv, false_implies, implies_true]
            refine fin w3 is f3 ?_
            rw [ei]
            unfold brd
            rw [a4, erS]
            by_cases h0 : N 4 0 = 0
            · rw [if_pos h0] at ek
              subst ek
              rw [h0]
              rfl
            · rw [if_neg h0] at ek
              subst ek
              rw [decide_eq_true (by omega), Bool.true_and]
        | succ l ihl =>
          intro k is w3 hl hk2 f3 ei
          have h0 : ¬ N 4 0 = 0 := fun h0 => by rw [if_pos h0] at hl; omega
          obtain ⟨i, ei4⟩ : ∃ i, N 4 0 = i + 1 := ⟨N 4 0 - 1, by omega⟩
          have er : rul T N = T i := by unfold rul; rw [ei4]; rfl
          have i3 : i < N 3 0 := by have := hX.okn.rul; omega
          have hn24 := (hX.okt i i3).nc
          refine A_Mo_bar_92 (m_clauses (by omega) (eR w3 f3) ?_)
          rw [if_neg h0] at hl hk2 ⊢
          have hz : qZb (tI is) = true := by cases is <;> rfl
          rw [hz]
          rw [er] at hl hk2 ⊢
          rw [nI_leI (by omega) (by omega)]
          refine ⟨fun g => by omega, fun _ => ⟨fun g => ?_, fun g => ?_⟩⟩
          · have ht : is = true := by
              cases is
              · exact absurd rfl g
              · rfl
            refine ⟨?_, ?_⟩
            · simp (disch := omega) only [li, ll, nI_add, nI_mul', nI_sub', nI_div', qRem_nI, lN_add, lN_mul, lN_sub, lN_div', qRemL_lN, qIn_I, qIx_nI, nI_ltI, nI_leI, nI_eq, nI_eqn, nI_eqn', nI_len, nI_ltn, nI_nle', nI_nlt', lN_eqn, lg_lt, lg_gt, lg_eq, lg_le, lg_ge, lgn_lt, lgn_gt, lgn_eq, lgn_le, lgn_ge, pk_lLT, pk_lLE, pk_lEQ, nI_l, lN_i, qShl_n, nI_and, nI_or, lN_and, lN_or, nI_andn, lN_andn, pI_e, pI_f, pI_c, pL_e, pL_f, pL_c, pI_L, pL_I, qB_1, qZb_n, true_and, and_true, forall_const, not_true_eq_false, not_false_eq_true, Nat.reduceLT, Nat.reduceLeDiff, Nat.reduceEqDiff, Nat.reduceAdd, Nat.reduceMul, Nat.reduceSub, Nat.reduceMod, Nat.reduceDiv, false_implies, implies_true]
              omega
            · simp (disch := omega) only [li, ll, nI_add, nI_mul', nI_sub', nI_div', qRem_nI, lN_add, lN_mul, lN_sub, lN_div', qRemL_lN, qIn_I, qIx_nI, nI_ltI, nI_leI, nI_eq, nI_eqn, nI_eqn', nI_len, nI_ltn, nI_nle', nI_nlt', lN_eqn, lg_lt, lg_gt, lg_eq, lg_le, lg_ge, lgn_lt, lgn_gt, lgn_eq, lgn_le, lgn_ge, pk_lLT, pk_lLE, pk_lEQ, nI_l, lN_i, qShl_n, nI_and, nI_or, lN_and, lN_or, nI_andn, lN_andn, pI_e, pI_f, pI_c, pL_e, pL_f, pL_c, pI_L, pL_I, qB_1, qZb_n, true_and, and_true, forall_const, not_true_eq_false, not_false_eq_true, Nat.reduceLT, Nat.reduceLeDiff, Nat.reduceEqDiff, Nat.reduceAdd, Nat.reduceMul, Nat.reduceSub, Nat.reduceMod, Nat.reduceDiv, false_implies, implies_true]
              refine fin w3 is f3 ?_
              rw [ht] at ei ⊢
              unfold brd
              rw [a4, erS, decide_eq_true (by omega), Bool.true_and]
              rw [erS, er] at ei
              rw [er]
              exact (any_le (by omega) ei.symm).symm
          · have ht : is = false := by
              cases is
              · rfl
              · exact absurd g (by decide)
            refine m_sortAt (by omega) (eR w3 f3) ei4 i3 (by omega) ?_
            have hk4 := (hX.okt i i3).kind k (by omega)
            rw [li, nI_eq (by omega) (by omega), nI_add]
            refine ⟨fun gk => ?_, fun gk => ?_⟩
            · refine m_work (b := true) (nm := nmB S p c) (by omega) (eR w3 f3) ei4 i3 (by omega) gk ?_ ?_
              · intro k2 hk2 hb
                have hk4 : k2 < 4 := of_decide_eq_true hb.symm
                have e80 : ∀ k, w3.1 80 k = (qPutI w' 80 0 (nI c)).1 80 k := fun k => by rw [(f3 80 (by decide)).1]
                rw [e80]
                have hc60 : c < 60 := by omega
                have hk5 : k2 = 0 ∨ k2 = 1 ∨ k2 = 2 ∨ k2 = 3 := by omega
                rcases hk5 with rfl | rfl | rfl | rfl
                · rw [pI_e]; exact ⟨nI_Z c, by show mil (c : Int); unfold mil; omega⟩
                · rw [pI_f (by decide), m1]; exact ⟨nI_Z _, by show mil (S 10 p : Int); unfold mil; omega⟩
                · rw [pI_f (by decide), m2]; exact ⟨nI_Z _, by show mil (S 11 p : Int); unfold mil; omega⟩
                · rw [pI_f (by decide), m3]; exact ⟨nI_Z _, by show mil (p : Int); unfold mil; omega⟩
              · intro w5 f5 hr _
                rw [qIx_0, hr rfl]
                refine ⟨qIn_0 (by decide) (by decide), ihl (k + 1) _ w5 (by rw [if_neg h0, er]; omega) (by rw [if_neg h0, er]; omega) (fr_tr f3 f5) ?_⟩
                rw [any_succ, ← ei, ht, Bool.false_or]
                unfold shut
                rw [erS, er, gk]
                rfl
            · refine ihl (k + 1) is w3 (by rw [if_neg h0, er]; omega) (by rw [if_neg h0, er]; omega) f3 ?_
              rw [any_succ, ← ei]
              unfold shut
              rw [erS, er, decide_eq_false gk, Bool.false_and, Bool.or_false]
      exact inner _ 0 false (qPutI w' 80 0 (nI c)) rfl (by omega) (fr_rf _ _) rfl
  exact loop2 _ 0 w2 rfl (by omega) (fr_rf _ _) n1 n2 n3 (fun j hj => by omega) (fun q c hq hc => by rw [(f2 85 (by decide)).1])
end Bar
