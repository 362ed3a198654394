/-! work of the reference: a row of steps done. -/
section Work
variable {s : Nat × (Nat → Int32)} {d : Nat} {w : qW} {Q : Int32 → qW → Prop} {QL : Int64 → qW → Prop} {R : qW → Prop}
theorem lZ_00 : lN 0 = lZ 0 := rfl
theorem m_clip {z : Int} (hd : 1 ≤ d) (h1 : -9223372036854775808 ≤ z) (h2 : z < 9223372036854775808) (h : QL (lZ (clp z)) w) : qCall (some s) d 260 [.long (lZ z)] w (qQl QL) := by
  obtain ⟨d, rfl, -⟩ := dS hd
  refine A_Mo_clip ?_
  unfold clp at h
  have e1 : (1000000 : Int64) = lZ 1000000 := rfl
  rw [lg_le, lg_ge, e1, lZ_neg, lZ_le (by omega) (by omega), lZ_le (by omega) (by omega)]
  refine ⟨fun g => ⟨fun g2 => ?_, fun g2 => ?_⟩, fun g => ?_⟩
  · rw [if_neg (by omega), if_neg (by omega)] at h; exact h
  · rw [if_neg (by omega), if_pos (by omega)] at h; exact h
  · rw [if_pos (by omega)] at h; exact h
theorem clp_id {z : Int} (h : mil z) : clp z = z := by
  unfold mil at h
  unfold clp
  rw [if_neg (by omega), if_neg (by omega)]
theorem m_two {o : Nat} {x y : Int} (hd : 2 ≤ d) (h3 : 3 ≤ o) (h7 : o ≤ 7) (hx : mil x) (hy : mil y) (h : QL (lZ (op2 o x y)) w) : qCall (some s) d 259 [.int (nI o), .long (lZ x), .long (lZ y)] w (qQl QL) := by
  obtain ⟨d, rfl, hd1⟩ := dS hd
  have hm := mil_mul hx hy
  have hmx := hx
  unfold mil at hx hy
  have ho : o = 3 ∨ o = 4 ∨ o = 5 ∨ o = 6 ∨ o = 7 := by omega
  rcases ho with rfl | rfl | rfl | rfl | rfl
  · refine A_Mo_two ?_
    simp (disch := omega) only [li, ll, nI_add, nI_mul', nI_sub', nI_div', qRem_nI, lN_add, lN_mul, lN_sub, lN_div', qRemL_lN, qIn_I, qIx_nI, nI_ltI, nI_leI, nI_eq, nI_eqn, nI_eqn', nI_len, nI_ltn, nI_nle', nI_nlt', lN_eqn, lg_lt, lg_gt, lg_eq, lg_le, lg_ge, lgn_lt, lgn_gt, lgn_eq, lgn_le, lgn_ge, pk_lLT, pk_lLE, pk_lEQ, nI_l, lN_i, qShl_n, nI_and, nI_or, lN_and, lN_or, nI_andn, lN_andn, pI_e, pI_f, pI_c, pL_e, pL_f, pL_c, pI_L, pL_I, qB_1, qZb_n, true_and, and_true, forall_const, not_true_eq_false, not_false_eq_true, Nat.reduceLT, Nat.reduceLeDiff, Nat.reduceEqDiff, Nat.reduceAdd, Nat.reduceMul, Nat.reduceSub, Nat.reduceMod, Nat.reduceDiv, false_implies, implies_true, lZ_add]
    have e : op2 3 x y = clp (x + y) := by simp [op2]
    rw [e] at h
    exact m_clip hd1 (by omega) (by omega) h
  · refine A_Mo_two ?_
    simp (disch := omega) only [li, ll, nI_add, nI_mul', nI_sub', nI_div', qRem_nI, lN_add, lN_mul, lN_sub, lN_div', qRemL_lN, qIn_I, qIx_nI, nI_ltI, nI_leI, nI_eq, nI_eqn, nI_eqn', nI_len, nI_ltn, nI_nle', nI_nlt', lN_eqn, lg_lt, lg_gt, lg_eq, lg_le, lg_ge, lgn_lt, lgn_gt, lgn_eq, lgn_le, lgn_ge, pk_lLT, pk_lLE, pk_lEQ, nI_l, lN_i, qShl_n, nI_and, nI_or, lN_and, lN_or, nI_andn, lN_andn, pI_e, pI_f, pI_c, pL_e, pL_f, pL_c, pI_L, pL_I, qB_1, qZb_n, true_and, and_true, forall_const, not_true_eq_false, not_false_eq_true, Nat.reduceLT, Nat.reduceLeDiff, Nat.reduceEqDiff, Nat.reduceAdd, Nat.reduceMul, Nat.reduceSub, Nat.reduceMod, Nat.reduceDiv, false_implies, implies_true, lZ_sub]
    have e : op2 4 x y = clp (x - y) := by simp [op2]
    rw [e] at h
    exact m_clip hd1 (by omega) (by omega) h
  · refine A_Mo_two ?_
    simp (disch := omega) only [li, ll, nI_add, nI_mul', nI_sub', nI_div', qRem_nI, lN_add, lN_mul, lN_sub, lN_div', qRemL_lN, qIn_I, qIx_nI, nI_ltI, nI_leI, nI_eq, nI_eqn, nI_eqn', nI_len, nI_ltn, nI_nle', nI_nlt', lN_eqn, lg_lt, lg_gt, lg_eq, lg_le, lg_ge, lgn_lt, lgn_gt, lgn_eq, lgn_le, lgn_ge, pk_lLT, pk_lLE, pk_lEQ, nI_l, lN_i, qShl_n, nI_and, nI_or, lN_and, lN_or, nI_andn, lN_andn, pI_e, pI_f, pI_c, pL_e, pL_f, pL_c, pI_L, pL_I, qB_1, qZb_n, true_and, and_true, forall_const, not_true_eq_false, not_false_eq_true, Nat.reduceLT, Nat.reduceLeDiff, Nat.reduceEqDiff, Nat.reduceAdd, Nat.reduceMul, Nat.reduceSub, Nat.reduceMod, Nat.reduceDiv, false_implies, implies_true, lZ_mul]
    have e : op2 5 x y = clp (x * y) := by simp [op2]
    rw [e] at h
    exact m_clip hd1 (by omega) (by omega) h
  · refine A_Mo_two ?_
    simp (disch := omega) only [li, ll, nI_add, nI_mul', nI_sub', nI_div', qRem_nI, lN_add, lN_mul, lN_sub, lN_div', qRemL_lN, qIn_I, qIx_nI, nI_ltI, nI_leI, nI_eq, nI_eqn, nI_eqn', nI_len, nI_ltn, nI_nle', nI_nlt', lN_eqn, lg_lt, lg_gt, lg_eq, lg_le, lg_ge, lgn_lt, lgn_gt, lgn_eq, lgn_le, lgn_ge, pk_lLT, pk_lLE, pk_lEQ, nI_l, lN_i, qShl_n, nI_and, nI_or, lN_and, lN_or, nI_andn, lN_andn, pI_e, pI_f, pI_c, pL_e, pL_f, pL_c, pI_L, pL_I, qB_1, qZb_n, true_and, and_true, forall_const, not_true_eq_false, not_false_eq_true, Nat.reduceLT, Nat.reduceLeDiff, Nat.reduceEqDiff, Nat.reduceAdd, Nat.reduceMul, Nat.reduceSub, Nat.reduceMod, Nat.reduceDiv, false_implies, implies_true]
    rw [lZ_div (by omega) (by omega), lZ_00, lZ_eq (by omega) (by omega)]
    have e : op2 6 x y = if y = 0 then 0 else x.tdiv y := by simp [op2]
    have hb := mil_op2 6 (y := y) hmx
    rw [e] at h hb
    refine ⟨fun g => ⟨g, ?_⟩, fun g => ?_⟩
    · rw [if_neg g] at h hb
      refine m_clip hd1 ?_ ?_ ?_
      · unfold mil at hb; omega
      · unfold mil at hb; omega
      · rw [clp_id hb]; exact h
    · rw [if_pos g] at h; exact h
  · refine A_Mo_two ?_
    simp (disch := omega) only [li, ll, nI_add, nI_mul', nI_sub', nI_div', qRem_nI, lN_add, lN_mul, lN_sub, lN_div', qRemL_lN, qIn_I, qIx_nI, nI_ltI, nI_leI, nI_eq, nI_eqn, nI_eqn', nI_len, nI_ltn, nI_nle', nI_nlt', lN_eqn, lg_lt, lg_gt, lg_eq, lg_le, lg_ge, lgn_lt, lgn_gt, lgn_eq, lgn_le, lgn_ge, pk_lLT, pk_lLE, pk_lEQ, nI_l, lN_i, qShl_n, nI_and, nI_or, lN_and, lN_or, nI_andn, lN_andn, pI_e, pI_f, pI_c, pL_e, pL_f, pL_c, pI_L, pL_I, qB_1, qZb_n, true_and, and_true, forall_const, not_true_eq_false, not_false_eq_true, Nat.reduceLT, Nat.reduceLeDiff, Nat.reduceEqDiff, Nat.reduceAdd, Nat.reduceMul, Nat.reduceSub, Nat.reduceMod, Nat.reduceDiv, false_implies, implies_true]
    rw [qRemL_Z (by omega) (by omega), lZ_00, lZ_eq (by omega) (by omega)]
    have e : op2 7 x y = if y = 0 then 0 else x.tmod y := by simp [op2]
    rw [e] at h
    refine ⟨fun g => ⟨g, ?_⟩, fun g => ?_⟩
    · rw [if_neg g] at h; exact h
    · rw [if_pos g] at h; exact h
theorem m_isAsked {o : Nat} {x y : Int} (hd : 1 ≤ d) (h3 : 10 ≤ o) (h7 : o ≤ 15) (hx : mil x) (hy : mil y) (h : Q (tI (opc o x y)) w) : qCall (some s) d 261 [.int (nI o), .long (lZ x), .long (lZ y)] w (qQi Q) := by
  obtain ⟨d, rfl, -⟩ := dS hd
  unfold mil at hx hy
  have ho : o = 10 ∨ o = 11 ∨ o = 12 ∨ o = 13 ∨ o = 14 ∨ o = 15 := by omega
  have e1 : ∀ b : Bool, b = true → nI b.toNat = nI 1 := fun b hb => by rw [hb]; rfl
  have e0 : ∀ b : Bool, b = false → nI b.toNat = nI 0 := fun b hb => by rw [hb]; rfl
  rcases ho with rfl | rfl | rfl | rfl | rfl | rfl
  · refine A_Mo_isAsked ?_
    have h : Q (nI (decide (x < y)).toNat) w := h
    rw [lg_ge]
    simp (disch := omega) only [li, ll, nI_add, nI_mul', nI_sub', nI_div', qRem_nI, lN_add, lN_mul, lN_sub, lN_div', qRemL_lN, qIn_I, qIx_nI, nI_ltI, nI_leI, nI_eq, nI_eqn, nI_eqn', nI_len, nI_ltn, nI_nle', nI_nlt', lN_eqn, lg_lt, lg_gt, lg_eq, lg_le, lg_ge, lgn_lt, lgn_gt, lgn_eq, lgn_le, lgn_ge, pk_lLT, pk_lLE, pk_lEQ, nI_l, lN_i, qShl_n, nI_and, nI_or, lN_and, lN_or, nI_andn, lN_andn, pI_e, pI_f, pI_c, pL_e, pL_f, pL_c, pI_L, pL_I, qB_1, qZb_n, true_and, and_true, forall_const, not_true_eq_false, not_false_eq_true, Nat.reduceLT, Nat.reduceLeDiff, Nat.reduceEqDiff, Nat.reduceAdd, Nat.reduceMul, Nat.reduceSub, Nat.reduceMod, Nat.reduceDiv, false_implies, implies_true]
    rw [lZ_le (by omega) (by omega)]
    refine ⟨fun g => ?_, fun g => ?_⟩
    all_goals first | (rw [e1 _ (decide_eq_true (by omega))] at h; exact h) | (rw [e0 _ (decide_eq_false (by omega))] at h; exact h)
  · refine A_Mo_isAsked ?_
    have h : Q (nI (decide (x ≤ y)).toNat) w := h
    rw [lg_gt]
    simp (disch := omega) only [li, ll, nI_add, nI_mul', nI_sub', nI_div', qRem_nI, lN_add, lN_mul, lN_sub, lN_div', qRemL_lN, qIn_I, qIx_nI, nI_ltI, nI_leI, nI_eq, nI_eqn, nI_eqn', nI_len, nI_ltn, nI_nle', nI_nlt', lN_eqn, lg_lt, lg_gt, lg_eq, lg_le, lg_ge, lgn_lt, lgn_gt, lgn_eq, lgn_le, lgn_ge, pk_lLT, pk_lLE, pk_lEQ, nI_l, lN_i, qShl_n, nI_and, nI_or, lN_and, lN_or, nI_andn, lN_andn, pI_e, pI_f, pI_c, pL_e, pL_f, pL_c, pI_L, pL_I, qB_1, qZb_n, true_and, and_true, forall_const, not_true_eq_false, not_false_eq_true, Nat.reduceLT, Nat.reduceLeDiff, Nat.reduceEqDiff, Nat.reduceAdd, Nat.reduceMul, Nat.reduceSub, Nat.reduceMod, Nat.reduceDiv, false_implies, implies_true]
    rw [lZ_lt (by omega) (by omega)]
    refine ⟨fun g => ?_, fun g => ?_⟩
    all_goals first | (rw [e1 _ (decide_eq_true (by omega))] at h; exact h) | (rw [e0 _ (decide_eq_false (by omega))] at h; exact h)
  · refine A_Mo_isAsked ?_
    have h : Q (nI (decide (y < x)).toNat) w := h
    rw [lg_le]
    simp (disch := omega) only [li, ll, nI_add, nI_mul', nI_sub', nI_div', qRem_nI, lN_add, lN_mul, lN_sub, lN_div', qRemL_lN, qIn_I, qIx_nI, nI_ltI, nI_leI, nI_eq, nI_eqn, nI_eqn', nI_len, nI_ltn, nI_nle', nI_nlt', lN_eqn, lg_lt, lg_gt, lg_eq, lg_le, lg_ge, lgn_lt, lgn_gt, lgn_eq, lgn_le, lgn_ge, pk_lLT, pk_lLE, pk_lEQ, nI_l, lN_i, qShl_n, nI_and, nI_or, lN_and, lN_or, nI_andn, lN_andn, pI_e, pI_f, pI_c, pL_e, pL_f, pL_c, pI_L, pL_I, qB_1, qZb_n, true_and, and_true, forall_const, not_true_eq_false, not_false_eq_true, Nat.reduceLT, Nat.reduceLeDiff, Nat.reduceEqDiff, Nat.reduceAdd, Nat.reduceMul, Nat.reduceSub, Nat.reduceMod, Nat.reduceDiv, false_implies, implies_true]
    rw [lZ_le (by omega) (by omega)]
    refine ⟨fun g => ?_, fun g => ?_⟩
    all_goals first | (rw [e1 _ (decide_eq_true (by omega))] at h; exact h) | (rw [e0 _ (decide_eq_false (by omega))] at h; exact h)
  · refine A_Mo_isAsked ?_
    have h : Q (nI (decide (y ≤ x)).toNat) w := h
    rw [lg_lt]
    simp (disch := omega) only [li, ll, nI_add, nI_mul', nI_sub', nI_div', qRem_nI, lN_add, lN_mul, lN_sub, lN_div', qRemL_lN, qIn_I, qIx_nI, nI_ltI, nI_leI, nI_eq, nI_eqn, nI_eqn', nI_len, nI_ltn, nI_nle', nI_nlt', lN_eqn, lg_lt, lg_gt, lg_eq, lg_le, lg_ge, lgn_lt, lgn_gt, lgn_eq, lgn_le, lgn_ge, pk_lLT, pk_lLE, pk_lEQ, nI_l, lN_i, qShl_n, nI_and, nI_or, lN_and, lN_or, nI_andn, lN_andn, pI_e, pI_f, pI_c, pL_e, pL_f, pL_c, pI_L, pL_I, qB_1, qZb_n, true_and, and_true, forall_const, not_true_eq_false, not_false_eq_true, Nat.reduceLT, Nat.reduceLeDiff, Nat.reduceEqDiff, Nat.reduceAdd, Nat.reduceMul, Nat.reduceSub, Nat.reduceMod, Nat.reduceDiv, false_implies, implies_true]
    rw [lZ_lt (by omega) (by omega)]
    refine ⟨fun g => ?_, fun g => ?_⟩
    all_goals first | (rw [e1 _ (decide_eq_true (by omega))] at h; exact h) | (rw [e0 _ (decide_eq_false (by omega))] at h; exact h)
  · refine A_Mo_isAsked ?_
    have h : Q (nI (decide (x = y)).toNat) w := h
    rw [lg_eq]
    simp (disch := omega) only [li, ll, nI_add, nI_mul', nI_sub', nI_div', qRem_nI, lN_add, lN_mul, lN_sub, lN_div', qRemL_lN, qIn_I, qIx_nI, nI_ltI, nI_leI, nI_eq, nI_eqn, nI_eqn', nI_len, nI_ltn, nI_nle', nI_nlt', lN_eqn, lg_lt, lg_gt, lg_eq, lg_le, lg_ge, lgn_lt, lgn_gt, lgn_eq, lgn_le, lgn_ge, pk_lLT, pk_lLE, pk_lEQ, nI_l, lN_i, qShl_n, nI_and, nI_or, lN_and, lN_or, nI_andn, lN_andn, pI_e, pI_f, pI_c, pL_e, pL_f, pL_c, pI_L, pL_I, qB_1, qZb_n, true_and, and_true, forall_const, not_true_eq_false, not_false_eq_true, Nat.reduceLT, Nat.reduceLeDiff, Nat.reduceEqDiff, Nat.reduceAdd, Nat.reduceMul, Nat.reduceSub, Nat.reduceMod, Nat.reduceDiv, false_implies, implies_true]
    rw [lZ_eq (by omega) (by omega)]
    refine ⟨fun g => ?_, fun g => ?_⟩
    all_goals first | (rw [e1 _ (decide_eq_true (by omega))] at h; exact h) | (rw [e0 _ (decide_eq_false (by omega))] at h; exact h)
  · refine A_Mo_isAsked ?_
    have h : Q (nI (decide (¬ x = y)).toNat) w := h
    rw [lg_eq]
    simp (disch := omega) only [li, ll, nI_add, nI_mul', nI_sub', nI_div', qRem_nI, lN_add, lN_mul, lN_sub, lN_div', qRemL_lN, qIn_I, qIx_nI, nI_ltI, nI_leI, nI_eq, nI_eqn, nI_eqn', nI_len, nI_ltn, nI_nle', nI_nlt', lN_eqn, lg_lt, lg_gt, lg_eq, lg_le, lg_ge, lgn_lt, lgn_gt, lgn_eq, lgn_le, lgn_ge, pk_lLT, pk_lLE, pk_lEQ, nI_l, lN_i, qShl_n, nI_and, nI_or, lN_and, lN_or, nI_andn, lN_andn, pI_e, pI_f, pI_c, pL_e, pL_f, pL_c, pI_L, pL_I, qB_1, qZb_n, true_and, and_true, forall_const, not_true_eq_false, not_false_eq_true, Nat.reduceLT, Nat.reduceLeDiff, Nat.reduceEqDiff, Nat.reduceAdd, Nat.reduceMul, Nat.reduceSub, Nat.reduceMod, Nat.reduceDiv, false_implies, implies_true]
    rw [lZ_eq (by omega) (by omega)]
    refine ⟨fun g => ?_, fun g => ?_⟩
    all_goals first | (rw [e1 _ (decide_eq_true (by omega))] at h; exact h) | (rw [e0 _ (decide_eq_false (by omega))] at h; exact h)
def stL (w : qW) (c : Nat) : List Int64 → Prop
  | [] => True
  | a :: L => w.2.1 c L.length = a ∧ stL w c L
theorem stL_put {w : qW} {c k : Nat} {v : Int64} : ∀ {L : List Int64}, L.length ≤ k → stL w c L → stL (qPutL w c k v) c L
  | [], _, _ => trivial
  | a :: L, hk, h => by
    have hk' : L.length + 1 ≤ k := hk
    exact ⟨by rw [pL_f (by omega)]; exact h.1, stL_put (by omega) h.2⟩
theorem stL_push {w : qW} {c : Nat} {v : Int64} {L : List Int64} (h : stL w c L) : stL (qPutL w c L.length v) c (v :: L) := ⟨pL_e _ _ _ _, stL_put (Nat.le_refl _) h⟩
theorem stL_I {w : qW} {c e k : Nat} {v : Int32} : ∀ {L : List Int64}, stL w c L → stL (qPutI w e k v) c L
  | [], _ => trivial
  | _ :: _, h => ⟨h.1, stL_I h.2⟩
theorem stI_L {w : qW} {c e k : Nat} {v : Int64} : ∀ {L : List Int32}, stI w c L → stI (qPutL w e k v) c L
  | [], _ => trivial
  | _ :: _, h => ⟨h.1, stI_L h.2⟩
theorem pk_m2 (n : Nat) : nI (n + 2) + (-(nI 2)) = nI n := by
  rw [nI_Z, nI_Z 2, iZ_neg, iZ_add, nI_Z]
  congr 1
  omega
theorem work_loop {i k : Nat} (hd : 2 ≤ d) (hi : i < 4) (hk : k < 24) {b : Bool} {nm : Nat → Int} (hnm : ∀ k, k < 7 → b = decide (k < 4) → w.1 80 k = iZ (nm k) ∧ mil (nm k)) {e : Nat} (he : e ≤ 300) (hend : w.1 77 (700 * i + 1 + 3 * k + 2) = nI e) :
    ∀ (r : List (Nat × Nat)) (j : Nat) (ns : List Int) (ts : List Bool) (w' : qW), tyc b r ns.length ts.length → (∀ x, x ∈ ns → mil x) → stL w' 81 (ns.map lZ) → stI w' 82 (ts.map tI) → fr (fun c => c = 81 ∨ c = 82) w w' → (∀ l, l < r.length → w.1 77 (700 * i + 80 + 2 * (j + l)) = nI (r.getD l (0, 0)).1 ∧ w.1 77 (700 * i + 80 + 2 * (j + l) + 1) = nI (r.getD l (0, 0)).2) → j + r.length = e → (∀ w'', fr (fun c => c = 81 ∨ c = 82) w w'' → (b = true → w''.1 82 0 = resB b (evc nm r ns ts)) → (b = false → w''.2.1 81 0 = lZ ((evc nm r ns ts).1.headD 0)) → R w'') →
      qAt s d c_Mo_work (qQv R) 47 [some (.ref 72), none, some (.int (nI (700 * i + 1 + 3 * k))), some (.int (nI (700 * i + 80))), some (.int (nI ns.length)), some (.int (nI ts.length)), some (.int (nI j)), none, none] [] w' := by
  intro r
  induction r with
  | nil =>
    intro j ns ts w' ht hm hs hs2 hf hcd hie hQ
    have hie' : j = e := hie
    subst hie'
    refine A_Mo_work_47 ?_
    have e77 : w'.1 77 = w.1 77 := (hf 77 (by decide)).1
    simp (disch := omega) only [li, ll, nI_add, nI_mul', nI_sub', nI_div', qRem_nI, lN_add, lN_mul, lN_sub, lN_div', qRemL_lN, qIn_I, qIx_nI, nI_ltI, nI_leI, nI_eq, nI_eqn, nI_eqn', nI_len, nI_ltn, nI_nle', nI_nlt', lN_eqn, lg_lt, lg_gt, lg_eq, lg_le, lg_ge, lgn_lt, lgn_gt, lgn_eq, lgn_le, lgn_ge, pk_lLT, pk_lLE, pk_lEQ, nI_l, lN_i, qShl_n, nI_and, nI_or, lN_and, lN_or, nI_andn, lN_andn, pI_e, pI_f, pI_c, pL_e, pL_f, pL_c, pI_L, pL_I, qB_1, qZb_n, true_and, and_true, forall_const, not_true_eq_false, not_false_eq_true, Nat.reduceLT, Nat.reduceLeDiff, Nat.reduceEqDiff, Nat.reduceAdd, Nat.reduceMul, Nat.reduceSub, Nat.reduceMod, Nat.reduceDiv, false_implies, implies_true, e77, hend]
    refine ⟨by omega, fun _ => hQ w' hf ?_ ?_, fun g => absurd (Nat.le_refl _) g⟩
    · rintro rfl
      unfold tyc at ht
      obtain ⟨h1, h2⟩ := ht
      match ns, ts, h1, h2 with
      | [], [t], _, _ => exact hs2.1
    · rintro rfl
      unfold tyc at ht
      obtain ⟨h1, h2⟩ := ht
      match ns, ts, h1, h2 with
      | [x], [], _, _ => exact hs.1
  | cons ov r ih =>
    obtain ⟨o, v⟩ := ov
    intro j ns ts w' ht hm hs hs2 hf hcd hie hQ
    have hie' : j + (r.length + 1) = e := hie
    have e77 : w'.1 77 = w.1 77 := (hf 77 (by decide)).1
    have e80 : w'.1 80 = w.1 80 := (hf 80 (by decide)).1
    have eo : w.1 77 (700 * i + 80 + 2 * j) = nI o := (hcd 0 (Nat.succ_pos _)).1
    have ev : w.1 77 (700 * i + 80 + 2 * j + 1) = nI v := (hcd 0 (Nat.succ_pos _)).2
    have hcd' : ∀ l, l < r.length → w.1 77 (700 * i + 80 + 2 * (j + 1 + l)) = nI (r.getD l (0, 0)).1 ∧ w.1 77 (700 * i + 80 + 2 * (j + 1 + l) + 1) = nI (r.getD l (0, 0)).2 := fun l hl => by
      have := hcd (l + 1) (Nat.succ_lt_succ hl)
      rw [show j + 1 + l = j + (l + 1) by omega]
      exact this
    have nx := fun ns' ts' w2 h1 h2 h3 h4 h5 h6 => ih (j + 1) ns' ts' w2 h1 h2 h3 h4 h5 hcd' (by omega) h6
    refine A_Mo_work_47 ?_
    have hlm : (ns.map lZ).length = ns.length := by simp
    have hlt : (ts.map tI).length = ts.length := by simp
    unfold tyc at ht
    obtain ⟨h50, ht⟩ := ht
    rcases ht with ⟨rfl, hv, ht⟩ | ⟨rfl, hv, hb, ht⟩ | ⟨rfl, h1, ht⟩ | ⟨h1, h2, h3, ht⟩ | ⟨h1, h2, h3, ht⟩ | ⟨rfl, h2, h3, ht⟩ | ⟨h1, h2, h3, ht⟩
    · simp (disch := omega) only [li, ll, nI_add, nI_mul', nI_sub', nI_div', qRem_nI, lN_add, lN_mul, lN_sub, lN_div', qRemL_lN, qIn_I, qIx_nI, nI_ltI, nI_leI, nI_eq, nI_eqn, nI_eqn', nI_len, nI_ltn, nI_nle', nI_nlt', lN_eqn, lg_lt, lg_gt, lg_eq, lg_le, lg_ge, lgn_lt, lgn_gt, lgn_eq, lgn_le, lgn_ge, pk_lLT, pk_lLE, pk_lEQ, nI_l, lN_i, qShl_n, nI_and, nI_or, lN_and, lN_or, nI_andn, lN_andn, pI_e, pI_f, pI_c, pL_e, pL_f, pL_c, pI_L, pL_I, qB_1, qZb_n, true_and, and_true, forall_const, not_true_eq_false, not_false_eq_true, Nat.reduceLT, Nat.reduceLeDiff, Nat.reduceEqDiff, Nat.reduceAdd, Nat.reduceMul, Nat.reduceSub, Nat.reduceMod, Nat.reduceDiv, false_implies, implies_true, e77, hend, eo, ev]
      refine ⟨by omega, fun g => by omega, fun _ => ⟨by omega, by omega, by omega, ?_⟩⟩
      exact nx ((v : Int) :: ns) ts _ ht (fun x hx => by
        rcases List.mem_cons.mp hx with rfl | hx
        · unfold mil; omega
        · exact hm x hx) (by rw [lN_Z v, ← hlm]; exact stL_push hs) (stI_L hs2) (fr_L hf (Or.inl rfl)) hQ
    · obtain ⟨hn1, hn2⟩ := hnm v hv hb
      simp (disch := omega) only [li, ll, nI_add, nI_mul', nI_sub', nI_div', qRem_nI, lN_add, lN_mul, lN_sub, lN_div', qRemL_lN, qIn_I, qIx_nI, nI_ltI, nI_leI, nI_eq, nI_eqn, nI_eqn', nI_len, nI_ltn, nI_nle', nI_nlt', lN_eqn, lg_lt, lg_gt, lg_eq, lg_le, lg_ge, lgn_lt, lgn_gt, lgn_eq, lgn_le, lgn_ge, pk_lLT, pk_lLE, pk_lEQ, nI_l, lN_i, qShl_n, nI_and, nI_or, lN_and, lN_or, nI_andn, lN_andn, pI_e, pI_f, pI_c, pL_e, pL_f, pL_c, pI_L, pL_I, qB_1, qZb_n, true_and, and_true, forall_const, not_true_eq_false, not_false_eq_true, Nat.reduceLT, Nat.reduceLeDiff, Nat.reduceEqDiff, Nat.reduceAdd, Nat.reduceMul, Nat.reduceSub, Nat.reduceMod, Nat.reduceDiv, false_implies, implies_true, e77, e80, hend, eo, ev, hn1]
      refine ⟨by omega, fun g => by omega, fun _ => ⟨by omega, by omega, by omega, by omega, ?_⟩⟩
      unfold mil at hn2
      rw [iZ_l (by omega) (by omega)]
      exact nx (nm v :: ns) ts _ ht (fun x hx => by
        rcases List.mem_cons.mp hx with rfl | hx
        · exact hn2
        · exact hm x hx) (by rw [← hlm]; exact stL_push hs) (stI_L hs2) (fr_L hf (Or.inl rfl)) hQ
    · match ns, h1 with
      | x :: ns, _ =>
        have hl2 : (ns.map lZ).length = ns.length := by simp
        have hx : w'.2.1 81 ns.length = lZ x := by rw [← hl2]; exact hs.1
        rw [List.length_cons] at h50 ⊢
        simp (disch := omega) only [li, ll, nI_add, nI_mul', nI_sub', nI_div', qRem_nI, lN_add, lN_mul, lN_sub, lN_div', qRemL_lN, qIn_I, qIx_nI, nI_ltI, nI_leI, nI_eq, nI_eqn, nI_eqn', nI_len, nI_ltn, nI_nle', nI_nlt', lN_eqn, lg_lt, lg_gt, lg_eq, lg_le, lg_ge, lgn_lt, lgn_gt, lgn_eq, lgn_le, lgn_ge, pk_lLT, pk_lLE, pk_lEQ, nI_l, lN_i, qShl_n, nI_and, nI_or, lN_and, lN_or, nI_andn, lN_andn, pI_e, pI_f, pI_c, pL_e, pL_f, pL_c, pI_L, pL_I, qB_1, qZb_n, true_and, and_true, forall_const, not_true_eq_false, not_false_eq_true, Nat.reduceLT, Nat.reduceLeDiff, Nat.reduceEqDiff, Nat.reduceAdd, Nat.reduceMul, Nat.reduceSub, Nat.reduceMod, Nat.reduceDiv, false_implies, implies_true, e77, hend, eo, ev]
        rw [show ns.length + 1 - 1 = ns.length by omega, hx, lZ_neg]
        refine ⟨by omega, fun g => by omega, fun _ => ⟨by omega, by omega, by omega, by omega, ?_⟩⟩
        exact nx (-x :: ns) ts _ ht (fun y hy => by
          rcases List.mem_cons.mp hy with rfl | hy
          · have := hm x (List.mem_cons_self)
            unfold mil at *
            omega
          · exact hm y (List.mem_cons_of_mem _ hy)) (by rw [← hl2]; exact stL_push hs.2) (stI_L hs2) (fr_L hf (Or.inl rfl)) hQ
    · match ns, h3 with
      | y :: x :: ns, _ =>
        have hl2 : (ns.map lZ).length = ns.length := by simp
        have hl3 : ((x :: ns).map lZ).length = ns.length + 1 := by simp
        have hy : w'.2.1 81 (ns.length + 1) = lZ y := by rw [← hl3]; exact hs.1
        have hx : w'.2.1 81 ns.length = lZ x := by rw [← hl2]; exact hs.2.1
        have hmy := hm y List.mem_cons_self
        have hmx := hm x (List.mem_cons_of_mem _ List.mem_cons_self)
        rw [List.length_cons, List.length_cons] at h50 ⊢
        have m1 : nI (ns.length + 1 + 1) + (-(nI 1)) = nI (ns.length + 1) := pk_m1 _
        simp (disch := omega) only [li, ll, nI_add, nI_mul', nI_sub', nI_div', qRem_nI, lN_add, lN_mul, lN_sub, lN_div', qRemL_lN, qIn_I, qIx_nI, nI_ltI, nI_leI, nI_eq, nI_eqn, nI_eqn', nI_len, nI_ltn, nI_nle', nI_nlt', lN_eqn, lg_lt, lg_gt, lg_eq, lg_le, lg_ge, lgn_lt, lgn_gt, lgn_eq, lgn_le, lgn_ge, pk_lLT, pk_lLE, pk_lEQ, nI_l, lN_i, qShl_n, nI_and, nI_or, lN_and, lN_or, nI_andn, lN_andn, pI_e, pI_f, pI_c, pL_e, pL_f, pL_c, pI_L, pL_I, qB_1, qZb_n, true_and, and_true, forall_const, not_true_eq_false, not_false_eq_true, Nat.reduceLT, Nat.reduceLeDiff, Nat.reduceEqDiff, Nat.reduceAdd, Nat.reduceMul, Nat.reduceSub, Nat.reduceMod, Nat.reduceDiv, false_implies, implies_true, e77, hend, eo, ev, m1]
        rw [show ns.length + 1 - 1 = ns.length by omega, hy, hx]
        refine ⟨by omega, fun g => by omega, fun _ => ⟨by omega, by omega, fun _ => ⟨fun _ => ⟨fun g => by omega, fun _ => ⟨by omega, by omega, ?_⟩⟩, fun g => by omega⟩, fun g => by omega⟩⟩
        refine m_two hd h1 h2 hmx hmy ⟨by omega, ?_⟩
        exact nx (op2 o x y :: ns) ts _ ht (fun z hz => by
          rcases List.mem_cons.mp hz with rfl | hz
          · exact mil_op2 o hmx
          · exact hm z (List.mem_cons_of_mem _ (List.mem_cons_of_mem _ hz))) (by rw [← hl2]; exact stL_push hs.2.2) (stI_L hs2) (fr_L hf (Or.inl rfl)) (by
            intro w'' hw g1 g2
            have := hQ w'' hw
            unfold evc at this
            rw [if_neg (by omega), if_neg (by omega), if_neg (by omega), if_pos (by omega)] at this
            exact this g1 g2)
    · match ns, h3 with
      | [y, x], _ =>
        have hy : w'.2.1 81 1 = lZ y := hs.1
        have hx : w'.2.1 81 0 = lZ x := hs.2.1
        have hmy := hm y List.mem_cons_self
        have hmx := hm x (List.mem_cons_of_mem _ List.mem_cons_self)
        have e2 : [y, x].length = 2 := rfl
        rw [e2] at h50 ⊢
        have m1 : nI 2 + (-(nI 2)) = nI 0 := by decide
        simp (disch := omega) only [li, ll, nI_add, nI_mul', nI_sub', nI_div', qRem_nI, lN_add, lN_mul, lN_sub, lN_div', qRemL_lN, qIn_I, qIx_nI, nI_ltI, nI_leI, nI_eq, nI_eqn, nI_eqn', nI_len, nI_ltn, nI_nle', nI_nlt', lN_eqn, lg_lt, lg_gt, lg_eq, lg_le, lg_ge, lgn_lt, lgn_gt, lgn_eq, lgn_le, lgn_ge, pk_lLT, pk_lLE, pk_lEQ, nI_l, lN_i, qShl_n, nI_and, nI_or, lN_and, lN_or, nI_andn, lN_andn, pI_e, pI_f, pI_c, pL_e, pL_f, pL_c, pI_L, pL_I, qB_1, qZb_n, true_and, and_true, forall_const, not_true_eq_false, not_false_eq_true, Nat.reduceLT, Nat.reduceLeDiff, Nat.reduceEqDiff, Nat.reduceAdd, Nat.reduceMul, Nat.reduceSub, Nat.reduceMod, Nat.reduceDiv, false_implies, implies_true, e77, hend, eo, ev, m1, hx, hy]
        refine ⟨by omega, fun g => by omega, fun _ => ⟨by omega, by omega, fun _ => ⟨fun _ => ⟨fun _ => ⟨fun g => by omega, fun _ => ?_⟩, fun g => by omega⟩, fun g => by omega⟩, fun g => by omega⟩⟩
        refine m_isAsked (by omega) h1 h2 hmx hmy ?_
        have hz : qZb (tI (opc o x y)) = true := by cases opc o x y <;> rfl
        rw [hz]
        refine ⟨by omega, ?_⟩
        exact nx [] (opc o x y :: ts) _ ht (fun z hz => by cases hz) trivial (by
            have : stI (qPutI w' 82 (List.map tI ts).length (tI (opc o x y))) 82 (tI (opc o x y) :: List.map tI ts) := stI_push hs2
            rw [hlt] at this
            exact this) (fr_I hf (Or.inr rfl)) (by
            intro w'' hw g1 g2
            have := hQ w'' hw
            unfold evc at this
            rw [if_neg (by omega), if_neg (by omega), if_neg (by omega), if_neg (by omega), if_pos (by omega)] at this
            exact this g1 g2)
    · match ns, ts, h2, h3 with
      | [], t :: ts, _, _ =>
        have hl2 : (List.map tI ts).length = ts.length := by simp
        have hx : w'.1 82 ts.length = tI t := by rw [← hl2]; exact hs2.1
        rw [List.length_nil, List.length_cons] at h50 ⊢
        simp (disch := omega) only [li, ll, nI_add, nI_mul', nI_sub', nI_div', qRem_nI, lN_add, lN_mul, lN_sub, lN_div', qRemL_lN, qIn_I, qIx_nI, nI_ltI, nI_leI, nI_eq, nI_eqn, nI_eqn', nI_len, nI_ltn, nI_nle', nI_nlt', lN_eqn, lg_lt, lg_gt, lg_eq, lg_le, lg_ge, lgn_lt, lgn_gt, lgn_eq, lgn_le, lgn_ge, pk_lLT, pk_lLE, pk_lEQ, nI_l, lN_i, qShl_n, nI_and, nI_or, lN_and, lN_or, nI_andn, lN_andn, pI_e, pI_f, pI_c, pL_e, pL_f, pL_c, pI_L, pL_I, qB_1, qZb_n, true_and, and_true, forall_const, not_true_eq_false, not_false_eq_true, Nat.reduceLT, Nat.reduceLeDiff, Nat.reduceEqDiff, Nat.reduceAdd, Nat.reduceMul, Nat.reduceSub, Nat.reduceMod, Nat.reduceDiv, false_implies, implies_true, e77, hend, eo, ev]
        rw [show ts.length + 1 - 1 = ts.length by omega, hx]
        have p := nx [] ((!t) :: ts) (qPutI w' 82 ts.length (tI (!t))) ht (fun z hz => by cases hz) trivial (by
            have : stI (qPutI w' 82 (List.map tI ts).length (tI (!t))) 82 (tI (!t) :: List.map tI ts) := stI_push hs2.2
            rw [hl2] at this
            exact this) (fr_I hf (Or.inr rfl)) hQ
        refine ⟨by omega, fun g => by omega, fun _ => ⟨by omega, by omega, by omega, fun g => ⟨by omega, ?_⟩, fun g => ⟨by omega, ?_⟩⟩⟩
        · cases t
          · exact absurd rfl g
          · exact p
        · cases t
          · exact p
          · exact absurd g (by decide)
    · match ns, ts, h2, h3 with
      | [], u :: t :: ts, _, _ =>
        have hl2 : (List.map tI ts).length = ts.length := by simp
        have hl3 : (List.map tI (t :: ts)).length = ts.length + 1 := by simp
        have hu : w'.1 82 (ts.length + 1) = tI u := by rw [← hl3]; exact hs2.1
        have hx : w'.1 82 ts.length = tI t := by rw [← hl2]; exact hs2.2.1
        rw [List.length_nil, List.length_cons, List.length_cons] at h50 ⊢
        have m1 : nI (ts.length + 1 + 1) + (-(nI 1)) = nI (ts.length + 1) := pk_m1 _
        have st : ∀ q : Bool, stI (qPutI w' 82 ts.length (tI q)) 82 (tI q :: List.map tI ts) := fun q => by
          have : stI (qPutI w' 82 (List.map tI ts).length (tI q)) 82 (tI q :: List.map tI ts) := stI_push hs2.2.2
          rw [hl2] at this
          exact this
        rcases h1 with rfl | rfl
        · simp (disch := omega) only [li, ll, nI_add, nI_mul', nI_sub', nI_div', qRem_nI, lN_add, lN_mul, lN_sub, lN_div', qRemL_lN, qIn_I, qIx_nI, nI_ltI, nI_leI, nI_eq, nI_eqn, nI_eqn', nI_len, nI_ltn, nI_nle', nI_nlt', lN_eqn, lg_lt, lg_gt, lg_eq, lg_le, lg_ge, lgn_lt, lgn_gt, lgn_eq, lgn_le, lgn_ge, pk_lLT, pk_lLE, pk_lEQ, nI_l, lN_i, qShl_n, nI_and, nI_or, lN_and, lN_or, nI_andn, lN_andn, pI_e, pI_f, pI_c, pL_e, pL_f, pL_c, pI_L, pL_I, qB_1, qZb_n, true_and, and_true, forall_const, not_true_eq_false, not_false_eq_true, Nat.reduceLT, Nat.reduceLeDiff, Nat.reduceEqDiff, Nat.reduceAdd, Nat.reduceMul, Nat.reduceSub, Nat.reduceMod, Nat.reduceDiv, false_implies, implies_true, e77, hend, eo, ev, m1]
          rw [show ts.length + 1 - 1 = ts.length by omega, hu, hx]
          have p := nx [] ((t && u) :: ts) (qPutI w' 82 ts.length (tI (t && u))) ht (fun z hz => by cases hz) trivial (st _) (fr_I hf (Or.inr rfl)) hQ
          refine ⟨by omega, fun g => by omega, fun _ => ⟨by omega, by omega, by omega, fun g => ⟨by omega, ?_⟩, fun g => ⟨by omega, fun g2 => ⟨by omega, ?_⟩, fun g2 => ⟨by omega, ?_⟩⟩⟩⟩
          · cases t
            · exact p
            · exact absurd g (by decide)
          · cases u
            · rw [Bool.and_false] at p; exact p
            · exact absurd g2 (by decide)
          · cases u
            · exact absurd rfl g2
            · cases t
              · exact absurd rfl g
              · exact p
        · simp (disch := omega) only [li, ll, nI_add, nI_mul', nI_sub', nI_div', qRem_nI, lN_add, lN_mul, lN_sub, lN_div', qRemL_lN, qIn_I, qIx_nI, nI_ltI, nI_leI, nI_eq, nI_eqn, nI_eqn', nI_len, nI_ltn, nI_nle', nI_nlt', lN_eqn, lg_lt, lg_gt, lg_eq, lg_le, lg_ge, lgn_lt, lgn_gt, lgn_eq, lgn_le, lgn_ge, pk_lLT, pk_lLE, pk_lEQ, nI_l, lN_i, qShl_n, nI_and, nI_or, lN_and, lN_or, nI_andn, lN_andn, pI_e, pI_f, pI_c, pL_e, pL_f, pL_c, pI_L, pL_I, qB_1, qZb_n, true_and, and_true, forall_const, not_true_eq_false, not_false_eq_true, Nat.reduceLT, Nat.reduceLeDiff, Nat.reduceEqDiff, Nat.reduceAdd, Nat.reduceMul, Nat.reduceSub, Nat.reduceMod, Nat.reduceDiv, false_implies, implies_true, e77, hend, eo, ev, m1]
          rw [show ts.length + 1 - 1 = ts.length by omega, hu, hx]
          have p := nx [] ((t || u) :: ts) (qPutI w' 82 ts.length (tI (t || u))) ht (fun z hz => by cases hz) trivial (st _) (fr_I hf (Or.inr rfl)) hQ
          refine ⟨by omega, fun g => by omega, fun _ => ⟨by omega, by omega, by omega, fun g => ⟨by omega, ?_⟩, fun g => ⟨by omega, fun g2 => ⟨by omega, ?_⟩, fun g2 => ⟨by omega, ?_⟩⟩⟩⟩
          · cases t
            · exact absurd rfl g
            · exact p
          · cases u
            · cases t
              · exact p
              · exact absurd g (by decide)
            · exact absurd g2 (by decide)
          · cases u
            · exact absurd rfl g2
            · rw [Bool.or_true] at p; exact p
end Work
