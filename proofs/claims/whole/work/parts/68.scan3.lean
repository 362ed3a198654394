/-! judge, overheard, who, bits, other, hush: both sides. -/
section Scan3
variable {s : Nat × (Nat → Int32)} {d : Nat} {w : qW} {Q : Int32 → qW → Prop} {QL : Int64 → qW → Prop} {R : qW → Prop} {N S K : vS} {T : Nat → vT} {Z : vZ}
theorem spkM_bit {h p : Nat} (hp : p < N 0 0) : (spkM T N h).testBit p = spk T N p h := by
  unfold spkM
  rw [bitsOf_bit, decide_eq_true hp, Bool.true_and]
theorem pair_and {x y m : Nat} : ((2 ^ x ||| 2 ^ y) &&& m = 2 ^ x ||| 2 ^ y) ↔ (m.testBit x = true ∧ m.testBit y = true) := by
  constructor
  · intro h
    have h1 := congrArg (fun n => n.testBit x) h
    have h2 := congrArg (fun n => n.testBit y) h
    simp only [Nat.testBit_and, pair_bit, decide_true, Bool.true_or, Bool.or_true, Bool.true_and] at h1 h2
    exact ⟨h1, h2⟩
  · rintro ⟨h1, h2⟩
    apply bits_ext
    intro q
    rw [Nat.testBit_and, pair_bit]
    by_cases e1 : x = q
    · subst e1; rw [h1, Bool.and_true]
    · by_cases e2 : y = q
      · subst e2; rw [h2, Bool.and_true]
      · rw [decide_eq_false e1, decide_eq_false e2]; rfl
def jdP (T : Nat → vT) (N : vS) (k : Nat) : Bool := !(spk T N (N 21 k) (N 20 k) && spk T N (N 22 k) (N 20 k))
def fJdg (T : Nat → vT) (N : vS) : Int32 := match (List.range (N 5 0)).find? (jdP T N) with
  | some k => nI k
  | none => -1
theorem c_judge (hd : 4 ≤ d) (hX : rX w N K T Z) (hy : Q (fJdg T N) w) : qCall (some s) d 138 [.ref 1] w (qQi Q) := by
  obtain ⟨d, rfl, hd1⟩ := dS hd
  have o := hX.okn
  have o0 := o.p12
  have o5 := o.tks
  have r := hX.n
  refine A_X_judge ?_
  unfold fJdg at hy
  refine lpN (i := 0) (n := N 5 0) (P := fun i => (∀ j, j < i → jdP T N j = false) → qAt s d c_X_judge (qQi Q) 2 [some (.ref 1), some (.int (nI i))] [] w) ?_ ?_ (Nat.zero_le _) (fun j hj => by omega)
  · intro no
    rw [find_none no] at hy
    refine A_X_judge_2 ?_
    rw [r.tks]
    exact ⟨fun _ => hy, fun g => absurd (Int32.le_refl _) g⟩
  · intro i hi ih no
    have ot := o.tlk i hi
    have hp := pair_lt (x := N 21 i) (y := N 22 i) (by omega) (by omega)
    have hi30 : i < 30 := by omega
    refine A_X_judge_2 ?_
    rw [r.tks, nI_leI (by omega) (by omega), qIx_nI (by omega), r.tkp i hi, r.tkh i hi, nI_1]
    refine ⟨fun g => absurd g (by omega), fun _ => ⟨qIn_nI hi30 (by decide), qIn_nI hi30 (by decide), c_heardOf hd1 hX hp (by omega) ⟨qIn_nI hi30 (by decide), ?_⟩⟩⟩
    have a1 : (2 ^ N 21 i ||| 2 ^ N 22 i) &&& spkM T N (N 20 i) < 4096 := Nat.lt_of_le_of_lt Nat.and_le_left hp
    have e7 : w.1 7 i = nI (2 ^ N 21 i ||| 2 ^ N 22 i) := r.tkp i hi
    rw [e7, nI_eq (by omega) (by omega), pair_and, spkM_bit ot.2.1, spkM_bit ot.2.2.1]
    refine ⟨fun q => ih (fun j hj => ?_), fun q => ?_⟩
    · by_cases ej : j = i
      · subst ej; unfold jdP; rw [q.1, q.2]; rfl
      · exact no j (by omega)
    · have yes : jdP T N i = true := by
        unfold jdP
        cases h1 : spk T N (N 21 i) (N 20 i) with
        | false => rfl
        | true =>
          cases h2 : spk T N (N 22 i) (N 20 i) with
          | false => rfl
          | true => exact absurd ⟨h1, h2⟩ q
      rw [find_some hi yes no] at hy
      exact hy
theorem m_judge (hd : 6 ≤ d) (hX : rM w N K T Z) (hy : ∀ w', fr (fun c => 79 ≤ c) w w' → Q (fJdg T N) w') : qCall (some s) d 291 [.ref 72] w (qQi Q) := by
  obtain ⟨d, rfl, hd1⟩ := dS hd
  have o := hX.okn
  have o0 := o.p12
  have o5 := o.tks
  refine A_Mo_judge (m_take' hd1 hX ?_)
  intro w2 f2 hX2 t2
  have hy := hy w2 f2
  have r := hX2.n
  unfold fJdg at hy
  refine lpN (i := 0) (n := N 5 0) (P := fun i => (∀ j, j < i → jdP T N j = false) → qAt s d c_Mo_judge (qQi Q) 6 [some (.ref 72), some (.int (nI i))] [] w2) ?_ ?_ (Nat.zero_le _) (fun j hj => by omega)
  · intro no
    rw [find_none no] at hy
    refine A_Mo_judge_6 ?_
    simp (disch := omega) only [li, ll, nI_add, nI_mul', nI_sub', nI_div', qRem_nI, lN_add, lN_mul, lN_sub, lN_div', qRemL_lN, qIn_I, qIx_nI, nI_ltI, nI_leI, nI_eq, nI_eqn, nI_eqn', nI_len, nI_ltn, nI_nle', nI_nlt', lN_eqn, lg_lt, lg_gt, lg_eq, lg_le, lg_ge, lgn_lt, lgn_gt, lgn_eq, lgn_le, lgn_ge, pk_lLT, pk_lLE, pk_lEQ, nI_l, lN_i, qShl_n, nI_and, nI_or, lN_and, lN_or, nI_andn, lN_andn, pI_e, pI_f, pI_c, pL_e, pL_f, pL_c, pI_L, pL_I, qB_1, qZb_n, true_and, and_true, forall_const, not_true_eq_false, not_false_eq_true, Nat.reduceLT, Nat.reduceLeDiff, Nat.reduceEqDiff, Nat.reduceAdd, Nat.reduceMul, Nat.reduceSub, Nat.reduceMod, Nat.reduceDiv, false_implies, implies_true, r.tks]
    exact ⟨fun _ => hy, fun g => absurd (Nat.le_refl _) g⟩
  · intro i hi ih no
    have ot := o.tlk i hi
    refine A_Mo_judge_6 ?_
    simp (disch := omega) only [li, ll, nI_add, nI_mul', nI_sub', nI_div', qRem_nI, lN_add, lN_mul, lN_sub, lN_div', qRemL_lN, qIn_I, qIx_nI, nI_ltI, nI_leI, nI_eq, nI_eqn, nI_eqn', nI_len, nI_ltn, nI_nle', nI_nlt', lN_eqn, lg_lt, lg_gt, lg_eq, lg_le, lg_ge, lgn_lt, lgn_gt, lgn_eq, lgn_le, lgn_ge, pk_lLT, pk_lLE, pk_lEQ, nI_l, lN_i, qShl_n, nI_and, nI_or, lN_and, lN_or, nI_andn, lN_andn, pI_e, pI_f, pI_c, pL_e, pL_f, pL_c, pI_L, pL_I, qB_1, qZb_n, true_and, and_true, forall_const, not_true_eq_false, not_false_eq_true, Nat.reduceLT, Nat.reduceLeDiff, Nat.reduceEqDiff, Nat.reduceAdd, Nat.reduceMul, Nat.reduceSub, Nat.reduceMod, Nat.reduceDiv, false_implies, implies_true, r.tks, r.tkA i hi, r.tkB i hi, r.tkh i hi]
    refine ⟨fun g => absurd g (by omega), fun _ => ⟨by omega, by omega, m_spk (by omega) hX2 (alike_rf N) o t2 ot.2.1 (by omega) (tI_b (fun g => ?_) (fun g => ?_))⟩⟩
    · simp (disch := omega) only [li, ll, nI_add, nI_mul', nI_sub', nI_div', qRem_nI, lN_add, lN_mul, lN_sub, lN_div', qRemL_lN, qIn_I, qIx_nI, nI_ltI, nI_leI, nI_eq, nI_eqn, nI_eqn', nI_len, nI_ltn, nI_nle', nI_nlt', lN_eqn, lg_lt, lg_gt, lg_eq, lg_le, lg_ge, lgn_lt, lgn_gt, lgn_eq, lgn_le, lgn_ge, pk_lLT, pk_lLE, pk_lEQ, nI_l, lN_i, qShl_n, nI_and, nI_or, lN_and, lN_or, nI_andn, lN_andn, pI_e, pI_f, pI_c, pL_e, pL_f, pL_c, pI_L, pL_I, qB_1, qZb_n, true_and, and_true, forall_const, not_true_eq_false, not_false_eq_true, Nat.reduceLT, Nat.reduceLeDiff, Nat.reduceEqDiff, Nat.reduceAdd, Nat.reduceMul, Nat.reduceSub, Nat.reduceMod, Nat.reduceDiv, false_implies, implies_true, r.tkB i hi, r.tkh i hi]
      refine ⟨by omega, by omega, m_spk (by omega) hX2 (alike_rf N) o t2 ot.2.2.1 (by omega) (tI_n (fun g2 => ih (fun j hj => ?_)) (fun g2 => ?_))⟩
      · by_cases ej : j = i
        · subst ej; unfold jdP; rw [g, g2]; rfl
        · exact no j (by omega)
      · rw [find_some hi (by unfold jdP; rw [g, g2]; rfl) no] at hy
        exact hy
    · rw [find_some hi (by unfold jdP; rw [g]; rfl) no] at hy
      exact hy
def vOvh (N : vS) (k : Int32) : Prop := 0 ≤ k ∧ k < nI (N 5 0)
def fOvh (T : Nat → vT) (N : vS) (k : Nat) : Int32 := nI (lisN N (N 21 k) (N 22 k) &&& spkM T N (N 20 k))
theorem vOvh_x {k : Int32} (o : okS N) (g : vOvh N k) : ∃ i, i < N 5 0 ∧ k = nI i ∧ qIx k = i := by
  have o5 := o.tks
  obtain ⟨j, hj, rfl⟩ := nI_of (Int32.not_lt.mpr g.1)
  exact ⟨j, (nI_ltI hj (by omega)).mp g.2, rfl, qIx_nI hj⟩
theorem c_overheard {k : Int32} (hd : 4 ≤ d) (hX : rX w N K T Z) (hy : vOvh N k → Q (fOvh T N (qIx k)) w) (hn : ¬ vOvh N k → Q (-1) w) : qCall (some s) d 140 [.ref 1, .int k] w (qQi Q) := by
  obtain ⟨d, rfl, hd1⟩ := dS hd
  have o := hX.okn
  have o0 := o.p12
  have o5 := o.tks
  have r := hX.n
  refine A_X_overheard ⟨fun g => hn (fun q => absurd g (Int32.not_lt.mpr q.1)), fun g1 => ?_⟩
  rw [r.tks]
  refine ⟨fun g2 => ?_, fun g => hn (fun q => g q.2)⟩
  have g : vOvh N k := ⟨Int32.not_lt.mp g1, g2⟩
  have hz := hy g
  obtain ⟨i, hi, ek, ek2⟩ := vOvh_x o g
  rw [ek2] at hz
  subst ek
  have ot := o.tlk i hi
  have e6 : w.2.1 6 i = lN (N 20 i) := r.tkh i hi
  have e7 : w.1 7 i = nI (2 ^ N 21 i ||| 2 ^ N 22 i) := r.tkp i hi
  rw [qIx_nI (by omega), e7]
  refine ⟨qIn_nI (by omega) (by decide), c_listenersOf (by omega) hX ot.2.1 ot.2.2.1 ⟨qIn_nI (by omega) (by decide), ?_⟩⟩
  rw [e6]
  exact c_heardOf hd1 hX (lis_lt o ot.2.1 ot.2.2.1) (by omega) hz
theorem m_overheard {k : Int32} (hd : 6 ≤ d) (hX : rM w N K T Z) (hy : ∀ w', vOvh N k → fr (fun c => 79 ≤ c) w w' → Q (fOvh T N (qIx k)) w') (hn : ¬ vOvh N k → Q (-1) w) : qCall (some s) d 292 [.ref 72, .int k] w (qQi Q) := by
  obtain ⟨d, rfl, hd1⟩ := dS hd
  have o := hX.okn
  have o0 := o.p12
  have o5 := o.tks
  have key : (0 ≤ k ∧ k ≤ nI (N 5 0) - 1) ↔ vOvh N k := by
    unfold vOvh
    rw [show (nI (N 5 0) - 1 : Int32) = nI (N 5 0) - nI 1 from rfl, le_pred (by omega)]
  refine A_Mo_overheard ⟨qIn_nI (j := 5) (by decide) (by decide), ?_⟩
  rw [show qIx (5 : Int32) = 5 from rfl, hX.n.tks]
  refine m_isInB (by omega) (fun g => n1 ?_) (fun g => n0 (hn (fun q => g (key.mpr q))))
  refine m_take' hd1 hX ?_
  intro w2 f2 hX2 t2
  have g := key.mp g
  have hz := hy w2 g f2
  have r := hX2.n
  obtain ⟨i, hi, ek, ek2⟩ := vOvh_x o g
  rw [ek2] at hz
  subst ek
  have ot := o.tlk i hi
  simp (disch := omega) only [li, ll, nI_add, nI_mul', nI_sub', nI_div', qRem_nI, lN_add, lN_mul, lN_sub, lN_div', qRemL_lN, qIn_I, qIx_nI, nI_ltI, nI_leI, nI_eq, nI_eqn, nI_eqn', nI_len, nI_ltn, nI_nle', nI_nlt', lN_eqn, lg_lt, lg_gt, lg_eq, lg_le, lg_ge, lgn_lt, lgn_gt, lgn_eq, lgn_le, lgn_ge, pk_lLT, pk_lLE, pk_lEQ, nI_l, lN_i, qShl_n, nI_and, nI_or, lN_and, lN_or, nI_andn, lN_andn, pI_e, pI_f, pI_c, pL_e, pL_f, pL_c, pI_L, pL_I, qB_1, qZb_n, true_and, and_true, forall_const, not_true_eq_false, not_false_eq_true, Nat.reduceLT, Nat.reduceLeDiff, Nat.reduceEqDiff, Nat.reduceAdd, Nat.reduceMul, Nat.reduceSub, Nat.reduceMod, Nat.reduceDiv, false_implies, implies_true, r.tkA i hi, r.tkB i hi, r.tkh i hi]
  refine ⟨by omega, by omega, by omega, m_speakers (by omega) hX2 (alike_rf N) o t2 (by omega) ?_⟩
  rw [r.nr _ ot.2.1, r.nr _ ot.2.2.1]
  simp (disch := omega) only [li, ll, nI_add, nI_mul', nI_sub', nI_div', qRem_nI, lN_add, lN_mul, lN_sub, lN_div', qRemL_lN, qIn_I, qIx_nI, nI_ltI, nI_leI, nI_eq, nI_eqn, nI_eqn', nI_len, nI_ltn, nI_nle', nI_nlt', lN_eqn, lg_lt, lg_gt, lg_eq, lg_le, lg_ge, lgn_lt, lgn_gt, lgn_eq, lgn_le, lgn_ge, pk_lLT, pk_lLE, pk_lEQ, nI_l, lN_i, qShl_n, nI_and, nI_or, lN_and, lN_or, nI_andn, lN_andn, pI_e, pI_f, pI_c, pL_e, pL_f, pL_c, pI_L, pL_I, qB_1, qZb_n, true_and, and_true, forall_const, not_true_eq_false, not_false_eq_true, Nat.reduceLT, Nat.reduceLeDiff, Nat.reduceEqDiff, Nat.reduceAdd, Nat.reduceMul, Nat.reduceSub, Nat.reduceMod, Nat.reduceDiv, false_implies, implies_true]
  refine ⟨by omega, by omega, ?_⟩
  unfold fOvh at hz
  have e : andn (spkM T N (N 20 i) &&& (N 12 (N 21 i) ||| N 12 (N 22 i))) (2 ^ N 21 i ||| 2 ^ N 22 i) = lisN N (N 21 i) (N 22 i) &&& spkM T N (N 20 i) := by
    apply bits_ext
    intro q
    unfold lisN
    rw [andn_bit, Nat.testBit_and, Nat.testBit_and, andn_bit]
    cases (spkM T N (N 20 i)).testBit q <;> cases (2 ^ N 21 i ||| 2 ^ N 22 i).testBit q <;> simp
  rw [e]
  exact hz
theorem c_wasHeard {k : Nat} (hd : 1 ≤ d) (hX : rX w N K T Z) (hk : k < N 8 0) (hy : Q (tI (decide (N 19 k = 1))) w) : qCall (some s) d 182 [.ref 2, .int (nI k)] w (qQi Q) := by
  obtain ⟨d, rfl, hd1⟩ := dS hd
  have o8 := hX.okn.hds
  obtain ⟨n, e, h1, h2⟩ := hX.n.hIs
  have := p20 o8
  refine A_State_wasHeard ?_
  rw [e]
  rw [← h2 k hk] at hy
  refine ⟨fun g => ?_, fun g => ?_⟩
  · rw [(qBit_0 (by omega) (by omega)).mp g] at hy; exact hy
  · have : n.testBit k = true := by
      cases hb : n.testBit k with
      | true => rfl
      | false => exact absurd ((qBit_0 (by omega) (by omega)).mpr hb) g
    rw [this] at hy; exact hy
def whF (T : Nat → vT) (N : vS) : Nat → Nat
  | 0 => 2 ^ N 0 0 - 1
  | k + 1 => if N 19 k = 1 then whF T N k &&& spkM T N (N 18 k) else andn (whF T N k) (spkM T N (N 18 k))
theorem whF_lt (o : okS N) : ∀ k, whF T N k < 4096
  | 0 => by
    have := p12 o.p12
    unfold whF
    omega
  | k + 1 => by
    unfold whF
    by_cases q : N 19 k = 1
    · rw [if_pos q]; exact Nat.lt_of_le_of_lt Nat.and_le_left (whF_lt o k)
    · rw [if_neg q]; exact andn_lt12 (whF_lt o k)
theorem c_who (hd : 4 ≤ d) (hX : rX w N K T Z) (hy : Q (nI (whF T N (N 8 0))) w) : qCall (some s) d 183 [.ref 1] w (qQi Q) := by
  obtain ⟨d, rfl, hd1⟩ := dS hd
  have o := hX.okn
  have o0 := o.p12
  have o8 := o.hds
  have r := hX.n
  have hp := p12 o0
  refine A_X_who ?_
  rw [r.ppl, qShl_P o0, li, nI_sub' hp.1]
  refine lpN (i := 0) (n := N 8 0) (P := fun i => qAt s d c_X_who (qQi Q) 14 [some (.ref 1), some (.int (nI (whF T N i))), some (.int (nI i)), none] [] w) ?_ ?_ (Nat.zero_le _)
  · refine A_X_who_14 ?_
    rw [r.hds]
    exact ⟨fun _ => hy, fun g => absurd (Int32.le_refl _) g⟩
  · intro i hi ih
    have oh := o.hrd i hi
    have hw := whF_lt (T := T) o i
    refine A_X_who_14 ?_
    rw [r.hds, nI_leI (by omega) (by omega), qIx_nI (by omega), r.hrd i hi, nI_l (by omega), nI_1]
    refine ⟨fun g => absurd g (by omega), fun _ => ⟨qIn_nI (by omega) (by decide), c_heardOf hd1 hX hw (by omega) (c_wasHeard (by omega) hX hi (tI_b (fun g => ?_) (fun g => ?_)))⟩⟩
    · unfold whF at ih
      rw [if_pos (of_decide_eq_true g)] at ih
      exact ih
    · unfold whF at ih
      rw [if_neg (of_decide_eq_false g)] at ih
      rw [show (-1 : Int32) = -(nI 1) from rfl, nI_andn]
      have e : andn (whF T N i) (whF T N i &&& spkM T N (N 18 i)) = andn (whF T N i) (spkM T N (N 18 i)) := by
        apply bits_ext
        intro q
        rw [andn_bit, andn_bit, Nat.testBit_and]
        cases (whF T N i).testBit q <;> rfl
      rw [e]
      exact ih
theorem m_who (hd : 6 ≤ d) (hX : rM w N K T Z) (hy : ∀ w', fr (fun c => 79 ≤ c) w w' → Q (nI (whF T N (N 8 0))) w') : qCall (some s) d 315 [.ref 72] w (qQi Q) := by
  obtain ⟨d, rfl, hd1⟩ := dS hd
  have o := hX.okn
  have o0 := o.p12
  have o8 := o.hds
  have hp := p12 o0
  refine A_Mo_who (m_take' hd1 hX ?_)
  intro w2 f2 hX2 t2
  have hy := hy w2 f2
  have r := hX2.n
  rw [qIx_0, r.ppl, qShl_P o0, show nI (2 ^ N 0 0) - (1 : Int32) = nI (2 ^ N 0 0 - 1) from nI_sub' hp.1]
  refine ⟨qIn_0 (by decide) (by decide), ?_⟩
  refine lpN (i := 0) (n := N 8 0) (P := fun i => qAt s d c_Mo_who (qQi Q) 17 [some (.ref 72), some (.int (nI (whF T N i))), some (.int (nI i)), none] [] w2) ?_ ?_ (Nat.zero_le _)
  · refine A_Mo_who_17 ?_
    simp (disch := omega) only [li, ll, nI_add, nI_mul', nI_sub', nI_div', qRem_nI, lN_add, lN_mul, lN_sub, lN_div', qRemL_lN, qIn_I, qIx_nI, nI_ltI, nI_leI, nI_eq, nI_eqn, nI_eqn', nI_len, nI_ltn, nI_nle', nI_nlt', lN_eqn, lg_lt, lg_gt, lg_eq, lg_le, lg_ge, lgn_lt, lgn_gt, lgn_eq, lgn_le, lgn_ge, pk_lLT, pk_lLE, pk_lEQ, nI_l, lN_i, qShl_n, nI_and, nI_or, lN_and, lN_or, nI_andn, lN_andn, pI_e, pI_f, pI_c, pL_e, pL_f, pL_c, pI_L, pL_I, qB_1, qZb_n, true_and, and_true, forall_const, not_true_eq_false, not_false_eq_true, Nat.reduceLT, Nat.reduceLeDiff, Nat.reduceEqDiff, Nat.reduceAdd, Nat.reduceMul, Nat.reduceSub, Nat.reduceMod, Nat.reduceDiv, false_implies, implies_true, r.hds]
    exact ⟨fun _ => hy, fun g => absurd (Nat.le_refl _) g⟩
  · intro i hi ih
    have oh := o.hrd i hi
    have hw := whF_lt (T := T) o i
    refine A_Mo_who_17 ?_
    simp (disch := omega) only [li, ll, nI_add, nI_mul', nI_sub', nI_div', qRem_nI, lN_add, lN_mul, lN_sub, lN_div', qRemL_lN, qIn_I, qIx_nI, nI_ltI, nI_leI, nI_eq, nI_eqn, nI_eqn', nI_len, nI_ltn, nI_nle', nI_nlt', lN_eqn, lg_lt, lg_gt, lg_eq, lg_le, lg_ge, lgn_lt, lgn_gt, lgn_eq, lgn_le, lgn_ge, pk_lLT, pk_lLE, pk_lEQ, nI_l, lN_i, qShl_n, nI_and, nI_or, lN_and, lN_or, nI_andn, lN_andn, pI_e, pI_f, pI_c, pL_e, pL_f, pL_c, pI_L, pL_I, qB_1, qZb_n, true_and, and_true, forall_const, not_true_eq_false, not_false_eq_true, Nat.reduceLT, Nat.reduceLeDiff, Nat.reduceEqDiff, Nat.reduceAdd, Nat.reduceMul, Nat.reduceSub, Nat.reduceMod, Nat.reduceDiv, false_implies, implies_true, r.hds, r.hrd i hi, r.hri i hi]
    refine ⟨fun g => absurd g (by omega), fun _ => ⟨by omega, m_speakers (by omega) hX2 (alike_rf N) o t2 (by omega) ?_⟩⟩
    unfold whF at ih
    rw [r.hri i hi, nI_eq (by omega) (by omega)]
    refine ⟨by omega, fun g => ?_, fun g => ?_⟩
    · rw [if_neg g] at ih
      rw [nI_andn]
      exact ih
    · rw [if_pos g] at ih
      rw [nI_and]
      exact ih
/-! bits -/
theorem qLshl_1 : ∀ i : Fin 63, qLshl (lN 1) (nI i.val) = lN (2 ^ i.val) := by decide +kernel
theorem qLshl_0 : ∀ i : Fin 64, qLshl (lN 0) (nI i.val) = lN 0 := by decide +kernel
def vBit (N : vS) (p : Int32) (h : Int64) : Prop := vTold (N 0 0) p ∧ vStart h
def fBit (T : Nat → vT) (N : vS) (x e : Nat) : Int64 := lN (bitsOf (fun i => spk T N x (e + i)) 60)
theorem vBit_x {p : Int32} {h : Int64} (o : okS N) (g : vBit N p h) : ∃ x e, x < N 0 0 ∧ e ≤ 100000000000000 ∧ p = nI x ∧ h = lN e ∧ qIx p = x ∧ h.toNatClampNeg = e := by
  obtain ⟨x, hx, ea, ea2⟩ := vTold_x o.p12 g.1
  have h1 := Int64.le_iff_toInt_le.mp g.2.1
  have h2 := Int64.le_iff_toInt_le.mp g.2.2
  rw [show (0 : Int64).toInt = 0 by decide] at h1
  rw [show (100000000000000 : Int64).toInt = 100000000000000 by decide] at h2
  refine ⟨x, h.toInt.toNat, hx, by omega, ea, ?_, ea2, rfl⟩
  apply Int64.toInt_inj.mp
  rw [lN_tI (by omega)]; omega
theorem bit_n {n i : Nat} (hn : n < 4096) (hi : i < 12) : qUshr (nI n) (nI i) &&& (1 : Int32) = nI (n.testBit i).toNat := by
  rw [qUshr_nI (by omega) (by omega), nI_and1 (Nat.lt_of_le_of_lt (Nat.div_le_self _ _) (by omega))]
  have e : n.testBit i = decide (n / 2 ^ i % 2 = 1) := by rw [Nat.testBit_eq_decide_div_mod_eq]
  rw [e]
  have h2 : n / 2 ^ i % 2 < 2 := Nat.mod_lt _ (by decide)
  by_cases q : n / 2 ^ i % 2 = 1
  · rw [decide_eq_true q, q]; rfl
  · rw [decide_eq_false q, show n / 2 ^ i % 2 = 0 by omega]; rfl
theorem c_bits {p : Int32} {h : Int64} (hd : 5 ≤ d) (hX : rX w N K T Z) (hy : ∀ w', vBit N p h → rX w' N K T Z → fr (fun c => c < 72) w w' → QL (fBit T N (qIx p) h.toNatClampNeg) w') (hn : ¬ vBit N p h → QL (-1) w) : qCall (some s) d 184 [.ref 1, .int p, .long h] w (qQl QL) := by
  obtain ⟨d, rfl, hd1⟩ := dS hd
  have o := hX.okn
  have o0 := o.p12
  refine A_X_bits (c_isTold (by omega) hX.n.ppl o0 (fun g1 => b1 (c_isStart (by omega) (fun g2 => n1 ?_) (fun g => n0 (hn (fun q => g q.2))))) (fun g => b0 (hn (fun q => g q.1))))
  have g : vBit N p h := ⟨g1, g2⟩
  obtain ⟨x, e, hx, he, ep, eh, ep2, eh2⟩ := vBit_x o g
  rw [ep2, eh2] at hy
  subst ep eh
  refine c_begin (n := 60) hd1 hX (by omega) (by omega) (by omega) ?_
  intro w1 f1 c1
  refine lpU (i := 0) (n := 60) (I := fun i w2 => fr (fun c => c = 50 ∨ c = 52) w w2 ∧ vC w2 N (e + i)) (P := fun i w2 => qAt s d c_X_bits (qQl QL) 38 [some (.ref 1), some (.int (nI x)), none, none, some (.long (lN (bitsOf (fun i => spk T N x (e + i)) i))), none, some (.int (nI i))] [] w2) ?_ ?_ (Nat.zero_le _) ⟨f1, c1⟩
  · intro w2 ⟨f2, c2⟩
    exact A_X_bits_38 ⟨fun _ => hy w2 g (hX.rw f2) (fr_wk f2 (fun c hc => by omega)), fun g => absurd (Int32.le_refl _) g⟩
  · intro i w2 hi ⟨f2, c2⟩ ih
    refine A_X_bits_38 ⟨fun g => absurd g (nI_ge (b := 60) hi (by omega)), fun _ => c_nextMask hd1 (hX.rw f2) c2 (by omega) ?_⟩
    intro w3 f3 c3
    have ih := ih w3 ⟨fr_tr f2 f3, c3⟩
    rw [bit_n (spkM_lt T o _) (by omega), spkM_bit hx, nI_1]
    unfold bitsOf at ih
    cases hs : spk T N x (e + i) with
    | false =>
      rw [hs, if_neg (by decide), ← lN_or] at ih
      rw [show (nI false.toNat).toInt64 = lN 0 from rfl, qLshl_0 ⟨i, by omega⟩]
      exact ih
    | true =>
      rw [hs, if_pos rfl, ← lN_or] at ih
      rw [show (nI true.toNat).toInt64 = lN 1 from rfl, qLshl_1 ⟨i, by omega⟩]
      exact ih
theorem m_bits {p : Int32} {h : Int64} (hd : 6 ≤ d) (hX : rM w N K T Z) (hy : ∀ w', vBit N p h → fr (fun c => 79 ≤ c) w w' → QL (fBit T N (qIx p) h.toNatClampNeg) w') (hn : ¬ vBit N p h → QL (-1) w) : qCall (some s) d 316 [.ref 72, .int p, .long h] w (qQl QL) := by
  obtain ⟨d, rfl, hd1⟩ := dS hd
  have o := hX.okn
  have o0 := o.p12
  refine A_Mo_bits (m_isPerson (by omega) hX.n.ppl o0 (fun g1 => b1 ?_) (fun g => b0 (hn (fun q => g q.1))))
  rw [lg_lt, lg_le]
  refine ⟨fun g => hn (fun q => absurd g (Int64.not_lt.mpr q.2.1)), fun g2 => ⟨fun g3 => ?_, fun g => hn (fun q => g q.2.2)⟩⟩
  have g : vBit N p h := ⟨g1, Int64.not_lt.mp g2, g3⟩
  refine m_take' hd1 hX ?_
  intro w2 f2 hX2 t2
  have hz := hy w2 g f2
  obtain ⟨x, e, hx, he, ep, eh, ep2, eh2⟩ := vBit_x o g
  rw [ep2, eh2] at hz
  subst ep eh
  refine lpN (i := 0) (n := 60) (P := fun i => qAt s d c_Mo_bits (qQl QL) 36 [some (.ref 72), some (.int (nI x)), some (.long (lN e)), none, some (.long (lN (bitsOf (fun i => spk T N x (e + i)) i))), none, some (.int (nI i))] [] w2) ?_ ?_ (Nat.zero_le _)
  · exact A_Mo_bits_36 ⟨fun _ => hz, fun g => absurd (Int32.le_refl _) g⟩
  · intro i hi ih
    refine A_Mo_bits_36 ⟨fun g => absurd g (nI_ge (b := 60) hi (by omega)), fun _ => ?_⟩
    rw [nI_l (by omega), lN_add, nI_1, show (1 : Int64) = lN 1 from rfl, qLshl_1 ⟨i, by omega⟩]
    refine m_spk (by omega) hX2 (alike_rf N) o t2 hx (by omega) ?_
    unfold bitsOf at ih
    refine tI_b (fun g => ?_) (fun g => ?_)
    · rw [g, if_pos rfl, ← lN_or] at ih; exact ih
    · rw [g, if_neg (by decide), ← lN_or] at ih; exact ih
/-! other -/
def vOth (N : vS) (p y n q : Int32) : Prop := vTold (N 0 0) p ∧ vDay y ∧ (1 ≤ n ∧ n ≤ 100000) ∧ 0 ≤ q ∧ q ≤ 1
def dueD (N : vS) (x dy h : Nat) : Bool := due N x (if dy = 0 then h else h % dy)
def othP (T : Nat → vT) (N : vS) (x d1 d2 i : Nat) : Bool := (dueD N x d1 i && !dueD N x d2 i) && !brd T N x (i % N 2 0)
def fOth (T : Nat → vT) (N : vS) (x y m : Nat) (q : Int32) : Int32 := nI (cnt (if q = 0 then othP T N x y (N 1 0) else othP T N x (N 1 0) y) m)
theorem vOth_x {p y n q : Int32} (o : okS N) (g : vOth N p y n q) : ∃ x e m, x < N 0 0 ∧ e ≤ 999 ∧ 1 ≤ m ∧ m ≤ 100000 ∧ p = nI x ∧ y = nI e ∧ n = nI m ∧ qIx p = x ∧ qIx y = e ∧ qIx n = m := by
  obtain ⟨x, hx, ep, ep2⟩ := vTold_x o.p12 g.1
  obtain ⟨e, ey, ey2, he⟩ := vDay_nI g.2.1
  obtain ⟨m, h1, h2, em, em2⟩ := nI_rng 1 100000 g.2.2.1.1 g.2.2.1.2
  exact ⟨x, e, m, hx, by omega, h1, h2, ep, ey, em, ep2, ey2, em2⟩
theorem c_countAlone {x d1 d2 m : Nat} (hd : 2 ≤ d) (hX : rX w N K T Z) (hx : x < N 0 0) (h1 : d1 ≤ 999) (h2 : d2 ≤ 999) (hm : m ≤ 100000) (hy : Q (nI (cnt (othP T N x d1 d2) m)) w) : qCall (some s) d 186 [.ref 50, .int (nI x), .int (nI d1), .int (nI d2), .int (nI m)] w (qQi Q) := by
  obtain ⟨d, rfl, hd1⟩ := dS hd
  refine A_Voices_countAlone ?_
  refine lpN (i := 0) (n := m) (P := fun i => qAt s d c_Voices_countAlone (qQi Q) 6 [some (.ref 50), some (.int (nI x)), some (.int (nI d1)), some (.int (nI d2)), some (.int (nI m)), some (.int (nI (cnt (othP T N x d1 d2) i))), some (.int (nI i))] [] w) ?_ ?_ (Nat.zero_le _)
  · exact A_Voices_countAlone_6 ⟨fun _ => hy, fun g => absurd (Int32.le_refl _) g⟩
  · intro i hi ih
    refine A_Voices_countAlone_6 ⟨fun g => absurd g (nI_ge hi (by omega)), fun _ => ?_⟩
    rw [nI_l (by omega), nI_1, nI_1]
    refine c_isDueD hd1 hX hx (by omega) h1 (tI_b (fun g1 => c_isDueD hd1 hX hx (by omega) h2 (tI_n (fun g2 => ?_) (fun g2 => c_isOpen hd1 hX hx (by omega) (tI_b (fun g3 => ?_) (fun g3 => ?_))))) (fun g1 => ?_))
    · rw [cnt_0 (by unfold othP dueD; rw [g2]; simp)] at ih; exact ih
    · rw [cnt_1 (by unfold othP dueD; rw [g1, g2, g3]; rfl)] at ih; exact ih
    · rw [cnt_0 (by unfold othP dueD; rw [g3]; simp)] at ih; exact ih
    · rw [cnt_0 (by unfold othP dueD; rw [g1]; rfl)] at ih; exact ih
theorem c_other {p y n q : Int32} (hd : 3 ≤ d) (hX : rX w N K T Z) (hy : vOth N p y n q → Q (fOth T N (qIx p) (qIx y) (qIx n) q) w) (hn : ¬ vOth N p y n q → Q (-1) w) : qCall (some s) d 185 [.ref 1, .int p, .int y, .int n, .int q] w (qQi Q) := by
  obtain ⟨d, rfl, hd1⟩ := dS hd
  have o := hX.okn
  have o0 := o.p12
  have od := o.day
  have main : ∀ b : Bool, b = decide (q = 0 ∨ q = 1) → qAt s d c_X_other (qQi Q) 16 [some (.ref 1), some (.int p), some (.int y), some (.int n), some (.int q), none] [.int (tI b)] w := by
    intro b hb
    refine A_X_other_16 (c_isTold (by omega) hX.n.ppl o0 (fun g1 => b1 (c_isDay (by omega) (fun g2 => b1 ⟨fun g => hn (fun q => absurd g (Int32.not_lt.mpr q.2.2.1.1)), fun g3 => ⟨fun g => hn (fun q => absurd g (Int32.not_lt.mpr q.2.2.1.2)), fun g4 => tI_n (fun gb => ?_) (fun gb => hn (fun q2 => ?_))⟩⟩) (fun g => b0 (hn (fun q => g q.2.1))))) (fun g => b0 (hn (fun q => g q.1))))
    · have hq : q = 0 ∨ q = 1 := by rw [gb] at hb; exact of_decide_eq_true hb.symm
      have g : vOth N p y n q := ⟨g1, g2, ⟨Int32.not_lt.mp g3, Int32.not_lt.mp g4⟩, by rcases hq with e | e <;> rw [e] <;> exact ⟨by decide, by decide⟩⟩
      have hz := hy g
      obtain ⟨x, e, m, hx, he, hm1, hm2, ep, ey, em, ep2, ey2, em2⟩ := vOth_x o g
      rw [ep2, ey2, em2] at hz
      subst ep ey em
      unfold fOth at hz
      rw [hX.n.day]
      refine ⟨fun q0 => ?_, fun q0 => ?_⟩
      · rw [if_neg q0] at hz; exact c_countAlone hd1 hX hx (by omega) he hm2 hz
      · rw [if_pos q0] at hz; exact c_countAlone hd1 hX hx he (by omega) hm2 hz
    · rw [gb] at hb
      have := of_decide_eq_false hb.symm
      obtain ⟨j, hj1, hj2, ej, ej2⟩ := nI_rng 0 1 q2.2.2.2.1 q2.2.2.2.2
      have : j = 0 ∨ j = 1 := by omega
      rcases this with e | e
      · exact (of_decide_eq_false hb.symm) (Or.inl (by rw [ej, e]; rfl))
      · exact (of_decide_eq_false hb.symm) (Or.inr (by rw [ej, e]; rfl))
  exact A_X_other ⟨fun e => main true (by simp [e]), fun e => ⟨fun e2 => main false (by simp [e, e2]), fun e2 => main true (by simp [e2])⟩⟩
theorem m_other {p y n q : Int32} (hd : 6 ≤ d) (hX : rM w N K T Z) (hy : ∀ w', vOth N p y n q → fr (fun c => 79 ≤ c) w w' → Q (fOth T N (qIx p) (qIx y) (qIx n) q) w') (hn : ¬ vOth N p y n q → Q (-1) w) : qCall (some s) d 317 [.ref 72, .int p, .int y, .int n, .int q] w (qQi Q) := by
  obtain ⟨d, rfl, hd1⟩ := dS hd
  have o := hX.okn
  have o0 := o.p12
  have od := o.day
  refine A_Mo_other (m_isPerson (by omega) hX.n.ppl o0 (fun g1 => b1 (m_isDay (by omega) (fun g2 => b1 (m_isInB (by omega) (fun g3 => b1 (m_isInB (by omega) (fun g4 => n1 ?_) (fun g => n0 (hn (fun q => g q.2.2.2))))) (fun g => b0 (hn (fun q => g q.2.2.1))))) (fun g => b0 (hn (fun q => g q.2.1))))) (fun g => b0 (hn (fun q => g q.1))))
  have g : vOth N p y n q := ⟨g1, g2, g3, g4⟩
  refine m_take' hd1 hX ?_
  intro w2 f2 hX2 t2
  have hz := hy w2 g f2
  obtain ⟨x, e, m, hx, he, hm1, hm2, ep, ey, em, ep2, ey2, em2⟩ := vOth_x o g
  rw [ep2, ey2, em2] at hz
  subst ep ey em
  unfold fOth at hz
  refine lpN (i := 0) (n := m) (P := fun i => qAt s d c_Mo_other (qQi Q) 47 [some (.ref 72), some (.int (nI x)), some (.int (nI e)), some (.int (nI m)), some (.int q), some (.int (nI (cnt (if q = 0 then othP T N x e (N 1 0) else othP T N x (N 1 0) e) i))), some (.int (nI i)), none, none] [] w2) ?_ ?_ (Nat.zero_le _)
  · exact A_Mo_other_47 ⟨fun _ => hz, fun g => absurd (Int32.le_refl _) g⟩
  · intro i hi ih
    refine A_Mo_other_47 ⟨fun g => absurd g (nI_ge hi (by omega)), fun _ => ?_⟩
    rw [nI_l (by omega), nI_1, nI_1]
    refine m_spkBy (by omega) hX2 (alike_rf N) o t2 hx (by omega) he (m_spk (by omega) hX2 (alike_rf N) o t2 hx (by omega) ?_)
    have ea : ∀ z : Int32, z + (0 : Int32) = z := Int32.add_zero
    rw [ea]
    have e1 : spkD T N e x i = (dueD N x e i && !brd T N x (i % N 2 0)) := rfl
    have e2 : spk T N x i = (dueD N x (N 1 0) i && !brd T N x (i % N 2 0)) := rfl
    refine ⟨fun q0 => ?_, fun q0 => ?_⟩
    · rw [if_neg q0] at ih ⊢
      refine tI_b (fun k1 => tI_n (fun k2 => ?_) (fun k2 => ?_)) (fun k1 => ?_)
      · rw [cnt_0 (by unfold othP; rw [e2] at k1; rw [e1] at k2; revert k1 k2; cases dueD N x e i <;> cases dueD N x (N 1 0) i <;> cases brd T N x (i % N 2 0) <;> simp)] at ih; exact ih
      · rw [cnt_1 (by unfold othP; rw [e2] at k1; rw [e1] at k2; revert k1 k2; cases dueD N x e i <;> cases dueD N x (N 1 0) i <;> cases brd T N x (i % N 2 0) <;> simp)] at ih; exact ih
      · rw [cnt_0 (by unfold othP; rw [e2] at k1; revert k1; cases dueD N x e i <;> cases dueD N x (N 1 0) i <;> cases brd T N x (i % N 2 0) <;> simp)] at ih; exact ih
    · rw [if_pos q0] at ih ⊢
      refine tI_b (fun k1 => tI_n (fun k2 => ?_) (fun k2 => ?_)) (fun k1 => ?_)
      · rw [cnt_0 (by unfold othP; rw [e1] at k1; rw [e2] at k2; revert k1 k2; cases dueD N x e i <;> cases dueD N x (N 1 0) i <;> cases brd T N x (i % N 2 0) <;> simp)] at ih; exact ih
      · rw [cnt_1 (by unfold othP; rw [e1] at k1; rw [e2] at k2; revert k1 k2; cases dueD N x e i <;> cases dueD N x (N 1 0) i <;> cases brd T N x (i % N 2 0) <;> simp)] at ih; exact ih
      · rw [cnt_0 (by unfold othP; rw [e1] at k1; revert k1; cases dueD N x e i <;> cases dueD N x (N 1 0) i <;> cases brd T N x (i % N 2 0) <;> simp)] at ih; exact ih
/-! hush -/
def vHus (h : Int64) (n q : Int32) : Prop := n ≤ 100000 ∧ vHours h n.toInt64 ∧ 0 ≤ q ∧ q ≤ 3
/-- so long nobody has spoken, ahead of the i-th hour -/
def qtF (M : Nat → Nat) : Nat → Nat
  | 0 => 0
  | i + 1 => if M i = 0 then qtF M i + 1 else 0
def lgF (M : Nat → Nat) : Nat → Nat
  | 0 => 0
  | i + 1 => if qtF M (i + 1) ≤ lgF M i then lgF M i else qtF M (i + 1)
def bgF (M : Nat → Nat) (a : Nat) : Nat → Int64
  | 0 => -1
  | i + 1 => if qtF M (i + 1) ≤ lgF M i then bgF M a i else lN (a + i + 1 - qtF M (i + 1))
def moF (M : Nat → Nat) : Nat → Int32
  | 0 => -1
  | i + 1 => if nI (cntB (M i)) ≤ moF M i then moF M i else nI (cntB (M i))
def wnF (M : Nat → Nat) (a : Nat) (v : Int64) : Nat → Int64
  | 0 => v
  | i + 1 => if nI (cntB (M i)) ≤ moF M i then wnF M a v i else lN (a + i)
theorem qtF_le (M : Nat → Nat) : ∀ i, qtF M i ≤ i
  | 0 => Nat.le_refl _
  | i + 1 => by
    have := qtF_le M i
    unfold qtF
    split
    · omega
    · omega
theorem lgF_le (M : Nat → Nat) : ∀ i, lgF M i ≤ i
  | 0 => Nat.le_refl _
  | i + 1 => by
    have := lgF_le M i
    have h2 := qtF_le M (i + 1)
    unfold lgF
    split
    · omega
    · omega
theorem wnF_eq (M : Nat → Nat) (a : Nat) (u v : Int64) : ∀ i, wnF M a u (i + 1) = wnF M a v (i + 1)
  | 0 => by
    have h : ¬ (nI (cntB (M 0)) ≤ (-1 : Int32)) := by
      have hc12 : cntB (M 0) ≤ 12 := by unfold cntB; exact Nat.le_trans (List.length_filter_le _ _) (by rw [List.length_range]; exact Nat.le_refl _)
      rw [show (-1 : Int32) = -(nI 1) from rfl, nI_len (by omega) (by omega) (by omega)]
      exact id
    show (if nI (cntB (M 0)) ≤ (-1 : Int32) then u else lN (a + 0)) = (if nI (cntB (M 0)) ≤ (-1 : Int32) then v else lN (a + 0))
    rw [if_neg h, if_neg h]
  | i + 1 => by
    have := wnF_eq M a u v i
    show (if nI (cntB (M (i + 1))) ≤ moF M (i + 1) then wnF M a u (i + 1) else lN (a + (i + 1))) = (if nI (cntB (M (i + 1))) ≤ moF M (i + 1) then wnF M a v (i + 1) else lN (a + (i + 1)))
    rw [this]
def fHus (T : Nat → vT) (N : vS) (a m : Nat) (q : Int32) : Int64 := if q = 0 then lN (lgF (fun i => spkM T N (a + i)) m) else if q = 1 then bgF (fun i => spkM T N (a + i)) a m else if q = 2 then wnF (fun i => spkM T N (a + i)) a (-1) m else (moF (fun i => spkM T N (a + i)) m).toInt64
theorem bg_val {a i q : Nat} (hq : q ≤ i + 1) : (lN (a + i) - lN q) + (1 : Int64) = lN (a + i + 1 - q) := by
  rw [ll, lN_Z, lN_Z, lN_Z 1, lZ_sub, lZ_add, lN_Z]
  congr 1
  omega
theorem c_silence {a m : Nat} {q : Int32} (hd : 5 ≤ d) (hX : rX w N K T Z) (h1 : 1 ≤ m) (h2 : m ≤ 100000) (h3 : a + m ≤ 1000000000000001) (hq : ¬ 2 ≤ q) (hq0 : ¬ q < 0) (hy : ∀ w', rX w' N K T Z → fr (fun c => c < 72) w w' → QL (fHus T N a m q) w') : qCall (some s) d 188 [.ref 1, .long (lN a), .int (nI m), .int q] w (qQl QL) := by
  obtain ⟨d, rfl, hd1⟩ := dS hd
  refine A_X_silence (c_begin hd1 hX (by omega) h1 (by omega) ?_)
  intro w1 f1 c1
  have hq1 : q = 0 ∨ q = 1 := by
    obtain ⟨j, hj, rfl⟩ := nI_of hq0
    have : ¬ 2 ≤ j := fun e => hq (nI_le (a := 2) e hj)
    have : j = 0 ∨ j = 1 := by omega
    rcases this with e | e <;> subst e
    · exact Or.inl rfl
    · exact Or.inr rfl
  refine lpU (i := 0) (n := m) (I := fun i w2 => fr (fun c => c = 50 ∨ c = 52) w w2 ∧ vC w2 N (a + i)) (P := fun i w2 => qAt s d c_X_silence (qQl QL) 23 [some (.ref 1), some (.long (lN a)), none, some (.int (nI m)), some (.int q), some (.int (nI (lgF (fun i => spkM T N (a + i)) i))), some (.long (bgF (fun i => spkM T N (a + i)) a i)), none, some (.int (nI (qtF (fun i => spkM T N (a + i)) i))), some (.int (nI i))] [] w2) ?_ ?_ (Nat.zero_le _) ⟨f1, c1⟩
  · intro w2 ⟨f2, c2⟩
    have hz := hy w2 (hX.rw f2) (fr_wk f2 (fun c hc => by omega))
    unfold fHus at hz
    have lb := lgF_le (fun i => spkM T N (a + i)) m
    refine A_X_silence_23 ⟨fun _ => ⟨fun e => ?_, fun e => ?_⟩, fun g => absurd (Int32.le_refl _) g⟩
    · rw [if_neg e, if_pos (hq1.resolve_left e)] at hz; exact hz
    · rw [if_pos e] at hz; rw [nI_l (by omega)]; exact hz
  · intro i w2 hi ⟨f2, c2⟩ ih
    refine A_X_silence_23 ⟨fun g => absurd g (nI_ge hi (by omega)), fun _ => c_nextMask hd1 (hX.rw f2) c2 (by omega) ?_⟩
    intro w3 f3 c3
    have ih := ih w3 ⟨fr_tr f2 f3, c3⟩
    have lb := lgF_le (fun i => spkM T N (a + i)) i
    have qb := qtF_le (fun i => spkM T N (a + i)) i
    have qb1 := qtF_le (fun i => spkM T N (a + i)) (i + 1)
    have hM := spkM_lt T hX.okn (a + i)
    have at47 : qAt s d c_X_silence (qQl QL) 47 [some (.ref 1), some (.long (lN a)), none, some (.int (nI m)), some (.int q), some (.int (nI (lgF (fun i => spkM T N (a + i)) i))), some (.long (bgF (fun i => spkM T N (a + i)) a i)), none, none, some (.int (nI i))] [.int (nI (qtF (fun i => spkM T N (a + i)) (i + 1)))] w3 := by
      refine A_X_silence_47 ?_
      rw [nI_leI (by omega) (by omega), nI_1, nI_l (by omega), nI_l (by omega), lN_add, bg_val qb1]
      unfold lgF bgF at ih
      refine ⟨fun g => ?_, fun g => ?_⟩
      · rw [if_pos g, if_pos g] at ih; exact ih
      · rw [if_neg g, if_neg g] at ih; exact ih
    unfold qtF at at47
    rw [eq0 (by omega), nI_1]
    refine ⟨fun g => ?_, fun g => ?_⟩
    · rw [if_neg g] at at47; exact at47
    · rw [if_pos g] at at47; exact at47
theorem c_crowd {a m : Nat} {q : Int32} (hd : 5 ≤ d) (hX : rX w N K T Z) (h1 : 1 ≤ m) (h2 : m ≤ 100000) (h3 : a + m ≤ 1000000000000001) (hq : 2 ≤ q) (hy : ∀ w', rX w' N K T Z → fr (fun c => c < 72) w w' → QL (fHus T N a m q) w') : qCall (some s) d 189 [.ref 1, .long (lN a), .int (nI m), .int q] w (qQl QL) := by
  obtain ⟨d, rfl, hd1⟩ := dS hd
  refine A_X_crowd (c_begin hd1 hX (by omega) h1 (by omega) ?_)
  intro w1 f1 c1
  have hq0 : ¬ q = 0 := fun e => by rw [e] at hq; exact absurd hq (by decide)
  have hq1 : ¬ q = 1 := fun e => by rw [e] at hq; exact absurd hq (by decide)
  refine lpU (i := 0) (n := m) (I := fun i w2 => fr (fun c => c = 50 ∨ c = 52) w w2 ∧ vC w2 N (a + i)) (P := fun i w2 => qAt s d c_X_crowd (qQl QL) 20 [some (.ref 1), some (.long (lN a)), none, some (.int (nI m)), some (.int q), some (.int (moF (fun i => spkM T N (a + i)) i)), some (.long (wnF (fun i => spkM T N (a + i)) a (-1) i)), none, some (.int (nI i)), none] [] w2) ?_ ?_ (Nat.zero_le _) ⟨f1, c1⟩
  · intro w2 ⟨f2, c2⟩
    have hz := hy w2 (hX.rw f2) (fr_wk f2 (fun c hc => by omega))
    unfold fHus at hz
    rw [if_neg hq0, if_neg hq1] at hz
    refine A_X_crowd_20 ⟨fun _ => ⟨fun e => ?_, fun e => ?_⟩, fun g => absurd (Int32.le_refl _) g⟩
    · rw [if_neg e] at hz; exact hz
    · rw [if_pos e] at hz; exact hz
  · intro i w2 hi ⟨f2, c2⟩ ih
    refine A_X_crowd_20 ⟨fun g => absurd g (nI_ge hi (by omega)), fun _ => c_nextMask hd1 (hX.rw f2) c2 (by omega) ?_⟩
    intro w3 f3 c3
    have ih := ih w3 ⟨fr_tr f2 f3, c3⟩
    have hM := spkM_lt T hX.okn (a + i)
    refine c_bitCount (by omega) hM ?_
    rw [nI_1, nI_l (by omega), lN_add]
    unfold moF wnF at ih
    refine ⟨fun g => ?_, fun g => ?_⟩
    · rw [if_pos g, if_pos g] at ih; exact ih
    · rw [if_neg g, if_neg g] at ih; exact ih
theorem c_hush {h : Int64} {n q : Int32} (hd : 6 ≤ d) (hX : rX w N K T Z) (hy : ∀ w', vHus h n q → rX w' N K T Z → fr (fun c => c < 72) w w' → QL (fHus T N h.toNatClampNeg (qIx n) q) w') (hn : ¬ vHus h n q → QL (-1) w) : qCall (some s) d 187 [.ref 1, .long h, .int n, .int q] w (qQl QL) := by
  obtain ⟨d, rfl, hd1⟩ := dS hd
  refine A_X_hush ⟨fun g => hn (fun q => absurd g (Int32.not_lt.mpr q.1)), fun g1 => c_areHours (by omega) (fun g2 => b1 ⟨fun g => hn (fun q => absurd g (Int32.not_lt.mpr q.2.2.1)), fun g3 => ⟨fun g4 => ?_, fun g => hn (fun q => g q.2.2.2)⟩⟩) (fun g => b0 (hn (fun q => g q.2.1)))⟩
  have g : vHus h n q := ⟨Int32.not_lt.mp g1, g2, Int32.not_lt.mp g3, g4⟩
  obtain ⟨a, m, e1, e2, e3, e4, h1, h2, h3⟩ := vHours_i g.1 g2
  rw [e3, e4] at hy
  subst e1 e2
  exact ⟨fun q2 => c_crowd hd1 hX h1 h2 h3 q2 (fun w' x f => hy w' g x f), fun q2 => c_silence hd1 hX h1 h2 h3 q2 g3 (fun w' x f => hy w' g x f)⟩
def zeOk (n : Nat) : Bool := decide (cntB n = 0 ↔ n = 0)
theorem ze_all : (List.range 64).all (fun a => (List.range 64).all (fun b => zeOk (64 * a + b))) = true := by decide +kernel
theorem m_hush {h : Int64} {n q : Int32} (hd : 6 ≤ d) (hX : rM w N K T Z) (hy : ∀ w', vHus h n q → fr (fun c => 79 ≤ c) w w' → QL (fHus T N h.toNatClampNeg (qIx n) q) w') (hn : ¬ vHus h n q → QL (-1) w) : qCall (some s) d 318 [.ref 72, .long h, .int n, .int q] w (qQl QL) := by
  obtain ⟨d, rfl, hd1⟩ := dS hd
  refine A_Mo_hush ⟨fun g => hn (fun q => absurd g (Int32.not_lt.mpr q.1)), fun g1 => m_areHours (by omega) (fun g2 => b1 (m_isInB (by omega) (fun g3 => n1 ?_) (fun g => n0 (hn (fun q => g q.2.2))))) (fun g => b0 (hn (fun q => g q.2.1)))⟩
  have g : vHus h n q := ⟨Int32.not_lt.mp g1, g2, g3⟩
  refine m_take' hd1 hX ?_
  intro w2 f2 hX2 t2
  have hz := hy w2 g f2
  obtain ⟨a, m, e1, e2, e3, e4, h1, h2, h3⟩ := vHours_i g.1 g2
  rw [e3, e4] at hz
  subst e1 e2
  unfold fHus at hz
  refine lpN (i := 0) (n := m) (P := fun i => qAt s d c_Mo_hush (qQl QL) 53 [some (.ref 72), some (.long (lN a)), none, some (.int (nI m)), some (.int q), some (.int (nI (lgF (fun i => spkM T N (a + i)) i))), some (.long (bgF (fun i => spkM T N (a + i)) a i)), none, some (.int (nI (qtF (fun i => spkM T N (a + i)) i))), some (.int (moF (fun i => spkM T N (a + i)) i)), some (.long (wnF (fun i => spkM T N (a + i)) a (lN a) i)), none, some (.long (lN (a + i))), none, none] [] w2) ?_ ?_ (Nat.zero_le _)
  · refine A_Mo_hush_53 ?_
    have lb := lgF_le (fun i => spkM T N (a + i)) m
    rw [nI_l (by omega), lN_add, lg_ge]
    refine ⟨fun _ => ⟨fun e0 => ⟨fun e1 => ⟨fun e2 => ?_, fun e2 => ?_⟩, fun e1 => ?_⟩, fun e0 => ?_⟩, fun g => absurd (Int64.le_refl _) g⟩
    · rw [if_neg e0, if_neg e1, if_neg e2] at hz; exact hz
    · rw [if_neg e0, if_neg e1, if_pos e2] at hz
      obtain ⟨m', rfl⟩ : ∃ m', m = m' + 1 := ⟨m - 1, by omega⟩
      rw [wnF_eq _ _ (lN a) (-1)]
      exact hz
    · rw [if_neg e0, if_pos e1] at hz; exact hz
    · rw [if_pos e0] at hz; rw [nI_l (by omega)]; exact hz
  · intro i hi ih
    refine A_Mo_hush_53 ?_
    have lb := lgF_le (fun i => spkM T N (a + i)) i
    have qb := qtF_le (fun i => spkM T N (a + i)) i
    have qb1 := qtF_le (fun i => spkM T N (a + i)) (i + 1)
    have hM := spkM_lt T hX.okn (a + i)
    have hc12 : cntB (spkM T N (a + i)) ≤ 12 := by unfold cntB; exact Nat.le_trans (List.length_filter_le _ _) (by rw [List.length_range]; exact Nat.le_refl _)
    have ze : cntB (spkM T N (a + i)) = 0 ↔ spkM T N (a + i) = 0 := of_decide_eq_true (all4096 ze_all hM)
    rw [nI_l (by omega), lN_add, lg_ge, pk_lLE (by omega) (by omega)]
    refine ⟨fun g => absurd g (by omega), fun _ => m_speakers (by omega) hX2 (alike_rf N) hX.okn t2 (by omega) (m_size (by omega) hM ?_)⟩
    have at110 : ∀ (L : Int32) (B : Int64), L = nI (lgF (fun i => spkM T N (a + i)) (i + 1)) → B = bgF (fun i => spkM T N (a + i)) a (i + 1) → qAt s d c_Mo_hush (qQl QL) 110 [some (.ref 72), some (.long (lN a)), none, some (.int (nI m)), some (.int q), some (.int L), some (.long B), none, some (.int (nI (qtF (fun i => spkM T N (a + i)) (i + 1)))), some (.int (moF (fun i => spkM T N (a + i)) i)), some (.long (wnF (fun i => spkM T N (a + i)) a (lN a) i)), none, some (.long (lN (a + i))), none, some (.int (nI (cntB (spkM T N (a + i)))))] [] w2 := by
      intro L B eL eB
      refine A_Mo_hush_110 ?_
      rw [ll, lN_add, eL, eB]
      have im : moF (fun i => spkM T N (a + i)) (i + 1) = if nI (cntB (spkM T N (a + i))) ≤ moF (fun i => spkM T N (a + i)) i then moF (fun i => spkM T N (a + i)) i else nI (cntB (spkM T N (a + i))) := rfl
      have iw : wnF (fun i => spkM T N (a + i)) a (lN a) (i + 1) = if nI (cntB (spkM T N (a + i))) ≤ moF (fun i => spkM T N (a + i)) i then wnF (fun i => spkM T N (a + i)) a (lN a) i else lN (a + i) := rfl
      rw [im, iw] at ih
      refine ⟨fun g => ?_, fun g => ?_⟩
      · rw [if_neg (Int32.not_le.mpr g), if_neg (Int32.not_le.mpr g)] at ih; exact ih
      · rw [if_pos (Int32.not_lt.mp g), if_pos (Int32.not_lt.mp g)] at ih; exact ih
    have at87 : qAt s d c_Mo_hush (qQl QL) 87 [some (.ref 72), some (.long (lN a)), none, some (.int (nI m)), some (.int q), some (.int (nI (lgF (fun i => spkM T N (a + i)) i))), some (.long (bgF (fun i => spkM T N (a + i)) a i)), none, none, some (.int (moF (fun i => spkM T N (a + i)) i)), some (.long (wnF (fun i => spkM T N (a + i)) a (lN a) i)), none, some (.long (lN (a + i))), none, some (.int (nI (cntB (spkM T N (a + i)))))] [.int (nI (qtF (fun i => spkM T N (a + i)) (i + 1)))] w2 := by
      refine A_Mo_hush_87 ?_
      rw [nI_leI (by omega) (by omega), nI_l (by omega), bg_val qb1]
      have il : lgF (fun i => spkM T N (a + i)) (i + 1) = if qtF (fun i => spkM T N (a + i)) (i + 1) ≤ lgF (fun i => spkM T N (a + i)) i then lgF (fun i => spkM T N (a + i)) i else qtF (fun i => spkM T N (a + i)) (i + 1) := rfl
      have ib : bgF (fun i => spkM T N (a + i)) a (i + 1) = if qtF (fun i => spkM T N (a + i)) (i + 1) ≤ lgF (fun i => spkM T N (a + i)) i then bgF (fun i => spkM T N (a + i)) a i else lN (a + i + 1 - qtF (fun i => spkM T N (a + i)) (i + 1)) := rfl
      refine ⟨fun g => at110 _ _ ?_ ?_, fun g => at110 _ _ ?_ ?_⟩
      · rw [il, if_pos g]
      · rw [ib, if_pos g]
      · rw [il, if_neg g]
      · rw [ib, if_neg g]
    have iq : qtF (fun i => spkM T N (a + i)) (i + 1) = if spkM T N (a + i) = 0 then qtF (fun i => spkM T N (a + i)) i + 1 else 0 := rfl
    rw [iq] at at87
    rw [eq0 (by omega), ze, nI_1]
    refine ⟨fun g => ?_, fun g => ?_⟩
    · rw [if_neg g] at at87; exact at87
    · rw [if_pos g] at at87; exact at87
end Scan3
