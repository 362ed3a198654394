/-! Who can meet, which clocks are open, and when all of a set are due: both sides. -/
section Meet
variable {s : Nat × (Nat → Int32)} {d : Nat} {w : qW} {Q : Int32 → qW → Prop} {QL : Int64 → qW → Prop} {R : qW → Prop} {N S K : vS} {T : Nat → vT} {Z : vZ}
theorem rem0 {a b g : Nat} (ha : a ≤ 99999) (hb : b ≤ 99999) (hg : 1 ≤ g) (hg2 : g ≤ 99999) : (lg_cmp (qRemL (Int32.toInt64 (nI a - nI b)) (lN g)) (0 : Int64) = 0) ↔ (g : Int) ∣ (a : Int) - (b : Int) := by
  have hb2 : (((a : Int) - (b : Int)).tmod (g : Int)).natAbs < g := by
    rw [Int.natAbs_tmod]
    exact Nat.mod_lt _ (by omega)
  rw [lg_eq, nI_Z, nI_Z b, iZ_sub, iZ_l (by omega) (by omega), lN_Z, qRemL_Z (by omega) (by omega), show (0 : Int64) = lZ 0 from rfl, lZ_eq (by omega) (by omega)]
  exact ⟨fun q => Int.dvd_of_tmod_eq_zero q, fun q => Int.tmod_eq_zero_of_dvd q⟩
/-- do two ever meet? -/
def cgN (S : vS) (i j : Nat) : Bool := decide (((Nat.gcd (S 10 i) (S 10 j) : Nat) : Int) ∣ (S 11 i : Int) - (S 11 j : Int))
theorem cgN_comm (S : vS) (i j : Nat) : cgN S i j = cgN S j i := by
  unfold cgN
  rw [Nat.gcd_comm]
  congr 1
  have e : (S 11 j : Int) - (S 11 i : Int) = -((S 11 i : Int) - (S 11 j : Int)) := by omega
  rw [e, Int.dvd_neg]
theorem gcd_b {a b : Nat} (ha : 1 ≤ a) (hb : 1 ≤ b) (hb2 : b ≤ 9999) : 1 ≤ Nat.gcd a b ∧ Nat.gcd a b ≤ 9999 := ⟨Nat.gcd_pos_of_pos_left _ ha, Nat.le_trans (Nat.gcd_le_right _ hb) hb2⟩
theorem c_isMeeting {i j : Nat} (hd : 2 ≤ d) (hX : rX w N K T Z) (hi : i < N 0 0) (hj : j < N 0 0) (hQ : Q (tI (cgN N i j)) w) : qCall (some s) d 110 [.ref 53, .int (nI i), .int (nI j)] w (qQi Q) := by
  obtain ⟨d, rfl, hd1⟩ := dS hd
  have r := hX.n
  have o := hX.okn
  have o0 := o.p12
  have oi := o.num i hi
  have oj := o.num j hj
  have fi := o.fst i hi
  have fj := o.fst j hj
  have gb := gcd_b oi.1 oj.1 oj.2
  refine A_Meetings_isMeeting ⟨qIn_nI (by omega) (by decide), qIn_nI (by omega) (by decide), qIn_nI (by omega) (by decide), qIn_nI (by omega) (by decide), ?_⟩
  rw [qIx_nI (by omega), qIx_nI (by omega), r.num i hi, r.num j hj, nI_l (by omega), nI_l (by omega)]
  refine c_gcd hd1 (by omega) (by omega) ?_
  rw [r.fst i hi, r.fst j hj, rem0 (by omega) (by omega) gb.1 (by omega), eqL0 (by omega)]
  unfold cgN at hQ
  refine ⟨by omega, fun g => ?_, fun g => ?_⟩
  · rw [decide_eq_false g] at hQ; exact hQ
  · rw [decide_eq_true g] at hQ; exact hQ
theorem m_canMeet {i j : Nat} (hd : 2 ≤ d) (hT : tkA w T S) (oS : okS S) (hi : i < S 0 0) (hj : j < S 0 0) (hQ : Q (tI (cgN S i j)) w) : qCall (some s) d 272 [.ref 72, .int (nI i), .int (nI j)] w (qQi Q) := by
  obtain ⟨d, rfl, hd1⟩ := dS hd
  have o0 := oS.p12
  have oi := oS.num i hi
  have oj := oS.num j hj
  have fi := oS.fst i hi
  have fj := oS.fst j hj
  have gb := gcd_b oi.1 oj.1 oj.2
  refine A_Mo_canMeet ⟨qIn_nI (by omega) (by decide), qIn_nI (by omega) (by decide), qIn_nI (by omega) (by decide), qIn_nI (by omega) (by decide), ?_⟩
  rw [qIx_nI (by omega), qIx_nI (by omega), (hT i hi).num, (hT j hj).num, nI_l (by omega), nI_l (by omega)]
  refine m_common hd1 (by omega) (by omega) ?_
  rw [(hT i hi).fst, (hT j hj).fst, rem0 (by omega) (by omega) gb.1 (by omega), eqL0 (by omega)]
  unfold cgN at hQ
  refine ⟨by omega, fun g => ?_, fun g => ?_⟩
  · rw [decide_eq_false g] at hQ; exact hQ
  · rw [decide_eq_true g] at hQ; exact hQ
/-- the first two of a set who never meet, as 12 i + j -/
def paP (S : vS) (set k : Nat) : Bool := decide (k / 12 < k % 12 ∧ k % 12 < S 0 0) && (set.testBit (k / 12) && set.testBit (k % 12) && !cgN S (k / 12) (k % 12))
def paF (S : vS) (set : Nat) : Option Nat := (List.range 144).find? (paP S set)
theorem paP_f {S : vS} {set i j : Nat} (hj : j < 12) (h : ¬ (i < j ∧ j < S 0 0)) : paP S set (12 * i + j) = false := by
  unfold paP
  have e1 : (12 * i + j) / 12 = i := by omega
  have e2 : (12 * i + j) % 12 = j := by omega
  rw [e1, e2, decide_eq_false h]; rfl
theorem paP_t {S : vS} {set i j : Nat} (hj : j < 12) (h : i < j ∧ j < S 0 0) : paP S set (12 * i + j) = (set.testBit i && set.testBit j && !cgN S i j) := by
  unfold paP
  have e1 : (12 * i + j) / 12 = i := by omega
  have e2 : (12 * i + j) % 12 = j := by omega
  rw [e1, e2, decide_eq_true h]; rfl
/-- nothing found ahead of (i, j) -/
def paN (S : vS) (set i j : Nat) : Prop := ∀ k, k < 12 * i + j → paP S set k = false
theorem paN_row {S : vS} {set i j : Nat} (oS : okS S) (hi : i < S 0 0) (hj : S 0 0 ≤ j) (hj2 : j ≤ 12) (h : paN S set i j) : paN S set (i + 1) 0 := by
  intro k hk
  rcases Nat.lt_or_ge k (12 * i + j) with g | g
  · exact h k g
  · have e : k = 12 * i + (k - 12 * i) := by omega
    rw [e]
    exact paP_f (by omega) (by omega)
theorem paN_up {S : vS} {set i : Nat} (hi : i < 12) (h : paN S set i 0) : paN S set i (i + 1) := by
  intro k hk
  rcases Nat.lt_or_ge k (12 * i + 0) with g | g
  · exact h k g
  · have e : k = 12 * i + (k - 12 * i) := by omega
    rw [e]
    exact paP_f (by omega) (by omega)
theorem paN_s {S : vS} {set i j : Nat} (h : paN S set i j) (hp : paP S set (12 * i + j) = false) : paN S set i (j + 1) := by
  intro k hk
  by_cases e : k = 12 * i + j
  · rw [e]; exact hp
  · exact h k (by omega)
theorem paN_none {S : vS} {set : Nat} (oS : okS S) (h : paN S set (S 0 0) 0) : paF S set = none := by
  refine find_none (fun k hk => ?_)
  rcases Nat.lt_or_ge k (12 * S 0 0 + 0) with g | g
  · exact h k g
  · have e : k = 12 * (k / 12) + k % 12 := by omega
    rw [e]
    exact paP_f (by omega) (by omega)
def oNI : Option Nat → Int32
  | some k => nI k
  | none => -1
theorem c_pairApart {set : Nat} (hd : 3 ≤ d) (hX : rX w N K T Z) (hs : set < 4096) (hQ : Q (oNI (paF N set)) w) : qCall (some s) d 109 [.ref 53, .int (nI set)] w (qQi Q) := by
  obtain ⟨d, rfl, hd1⟩ := dS hd
  have r := hX.n
  have o := hX.okn
  have o0 := o.p12
  refine A_Meetings_pairApart ?_
  refine lpN (i := 0) (n := N 0 0) (P := fun i => paN N set i 0 → qAt s d c_Meetings_pairApart (qQi Q) 2 [some (.ref 53), some (.int (nI set)), some (.int (nI i)), none] [] w) ?_ ?_ (Nat.zero_le _) (fun k hk => absurd hk (Nat.not_lt_zero _))
  · intro no
    rw [paN_none o no] at hQ
    refine A_Meetings_pairApart_2 ?_
    rw [r.ppl]
    exact ⟨fun _ => hQ, fun g => absurd (Int32.le_refl _) g⟩
  · intro i hi ih no
    refine A_Meetings_pairApart_2 ?_
    rw [r.ppl, nI_leI (by omega) (by omega), nI_1]
    refine ⟨fun g => absurd g (by omega), fun _ => ?_⟩
    refine lpN (i := i + 1) (n := N 0 0) (P := fun j => i < j → paN N set i j → qAt s d c_Meetings_pairApart (qQi Q) 17 [some (.ref 53), some (.int (nI set)), some (.int (nI i)), some (.int (nI j))] [] w) ?_ ?_ (by omega) (by omega) (paN_up (by omega) no)
    · intro _ no2
      refine A_Meetings_pairApart_17 ?_
      rw [r.ppl, nI_1]
      exact ⟨fun _ => ih (paN_row o hi (Nat.le_refl _) o0 no2), fun g => absurd (Int32.le_refl _) g⟩
    · intro j hj ihj hij no2
      have nx : paP N set (12 * i + j) = false → qAt s d c_Meetings_pairApart (qQi Q) 17 [some (.ref 53), some (.int (nI set)), some (.int (nI i)), some (.int (nI (j + 1)))] [] w := fun q => ihj (by omega) (paN_s no2 q)
      rw [paP_t (by omega) ⟨hij, hj⟩] at nx
      refine A_Meetings_pairApart_17 ?_
      rw [r.ppl, nI_leI (by omega) (by omega), nI_1 i, nI_1 j]
      refine ⟨fun g => absurd g (by omega), fun _ => c_isOfB (by omega) (by omega) (fun g1 => b1 (c_isOfB (by omega) (by omega) (fun g2 => b1 (c_isMeeting (by omega) hX hi hj (tI_n (fun g3 => ?_) (fun g3 => ?_)))) (fun g2 => b0 ?_))) (fun g1 => b0 ?_)⟩
      · exact nx (by rw [g3]; simp)
      · rw [mem12_nI (by omega)] at g1 g2
        have yes : paP N set (12 * i + j) = true := by rw [paP_t (by omega) ⟨hij, hj⟩, g1, g2, g3]; rfl
        unfold paF at hQ
        rw [find_some (i := 12 * i + j) (by omega) yes no2] at hQ
        rw [li, nI_mul', nI_add]
        exact hQ
      · rw [mem12_nI (by omega)] at g2
        exact nx (by rw [g2]; simp)
      · rw [mem12_nI (by omega)] at g1
        exact nx (by rw [g1]; rfl)
def vBar (N : vS) (set q : Int32) : Prop := vSet (N 0 0) set ∧ N 1 0 = 0 ∧ 0 ≤ q ∧ q ≤ 1
def fBar (N : vS) (set : Nat) (q : Int32) : Int32 := match paF N set with
  | none => -1
  | some k => if q = 0 then nI (k / 12) else nI (k % 12)
theorem vSet_x {P : Nat} {set : Int32} (hP : P ≤ 12) (h : vSet P set) : ∃ n, 0 < n ∧ n < 2 ^ P ∧ n < 4096 ∧ set = nI n ∧ qIx set = n := by
  obtain ⟨n, h1, h2, h3, e⟩ := vSet_nI hP h
  exact ⟨n, h1, h2, h3, e, by rw [e]; exact qIx_nI (by omega)⟩
theorem paF_lt {S : vS} {set k : Nat} (h : paF S set = some k) : k < 144 ∧ paP S set k = true := by
  unfold paF at h
  rw [List.find?_range_eq_some] at h
  exact ⟨List.mem_range.mp h.2.1, h.1⟩
theorem c_barred {set q : Int32} (hd : 4 ≤ d) (hX : rX w N K T Z) (hy : vBar N set q → Q (fBar N (qIx set) q) w) (hn : ¬ vBar N set q → Q (-1) w) : qCall (some s) d 118 [.ref 1, .int set, .int q] w (qQi Q) := by
  obtain ⟨d, rfl, hd1⟩ := dS hd
  have r := hX.n
  have o := hX.okn
  have o0 := o.p12
  have od := o.day
  refine A_X_barred (c_isSet (by omega) r.ppl o0 (fun g1 => b1 ?_) (fun g => b0 (hn (fun q => g q.1))))
  rw [r.day, show (0 : Int32) < nI (N 1 0) ↔ 0 < N 1 0 from nI_ltI (a := 0) (by omega) (by omega)]
  refine ⟨fun g => hn (fun q => by have := q.2.1; omega), fun g2 => ⟨fun g => hn (fun q => absurd g (Int32.not_lt.mpr q.2.2.1)), fun g3 => ⟨fun g4 => ?_, fun g => hn (fun q => g q.2.2.2)⟩⟩⟩
  have g : vBar N set q := ⟨g1, by omega, Int32.not_lt.mp g3, g4⟩
  have hz := hy g
  obtain ⟨n, h1, h2, h3, e, e2⟩ := vSet_x o0 g1
  rw [e2] at hz
  subst e
  refine c_pairApart hd1 hX h3 ?_
  unfold fBar at hz
  cases hp : paF N n with
  | none =>
    rw [hp] at hz
    exact ⟨fun q => absurd rfl q, fun _ => hz⟩
  | some k =>
    rw [hp] at hz
    have hk := (paF_lt hp).1
    have hz : Q (if q = 0 then nI (k / 12) else nI (k % 12)) w := hz
    refine ⟨fun _ => ⟨fun q0 => ⟨by decide, ?_⟩, fun q0 => ⟨by decide, ?_⟩⟩, fun q => ?_⟩
    · rw [if_neg q0] at hz
      show Q (qRem (nI k) 12) w
      rw [show (12 : Int32) = nI 12 from rfl, qRem_nI (by omega) (by omega) (by omega)]; exact hz
    · rw [if_pos q0] at hz
      show Q (nI k / 12) w
      rw [show (12 : Int32) = nI 12 from rfl, nI_div' (by omega) (by omega) (by omega)]; exact hz
    · have q : nI k = -(nI 1) := q
      rw [nI_eqn (by omega) (by omega) (by omega)] at q
      exact q.elim
theorem m_barred {set q : Int32} (hd : 6 ≤ d) (hX : rM w N K T Z) (hy : ∀ w', vBar N set q → fr (fun c => 79 ≤ c) w w' → Q (fBar N (qIx set) q) w') (hn : ¬ vBar N set q → Q (-1) w) : qCall (some s) d 279 [.ref 72, .int set, .int q] w (qQi Q) := by
  obtain ⟨d, rfl, hd1⟩ := dS hd
  have o := hX.okn
  have o0 := o.p12
  have od := o.day
  refine A_Mo_barred (m_isSet (by omega) hX.n.ppl o0 (fun g1 => b1 (m_isInB (by omega) (fun g2 => b1 ⟨qIn_nI (j := 1) (by decide) (by decide), ?_⟩) (fun g => b0 (hn (fun q => g q.2.2))))) (fun g => b0 (hn (fun q => g q.1))))
  rw [show qIx (1 : Int32) = 1 from rfl, hX.n.day, show (nI (N 1 0) ≤ (0 : Int32)) ↔ N 1 0 ≤ 0 from nI_leI (b := 0) (by omega) (by omega)]
  refine ⟨fun g3 => ?_, fun g => hn (fun q => by have := q.2.1; omega)⟩
  have g : vBar N set q := ⟨g1, by omega, g2⟩
  refine m_take' hd1 hX ?_
  intro w2 f2 hX2 t2
  have hz := hy w2 g f2
  have r := hX2.n
  obtain ⟨n, h1, h2, h3, e, e2⟩ := vSet_x o0 g1
  rw [e2] at hz
  subst e
  unfold fBar at hz
  refine lpN (i := 0) (n := N 0 0) (P := fun i => paN N n i 0 → qAt s d c_Mo_barred (qQi Q) 34 [some (.ref 72), some (.int (nI n)), some (.int q), some (.int (nI i)), none] [] w2) ?_ ?_ (Nat.zero_le _) (fun k hk => absurd hk (Nat.not_lt_zero _))
  · intro no
    rw [paN_none o no] at hz
    refine A_Mo_barred_34 ?_
    simp (disch := omega) only [li, ll, nI_add, nI_mul', nI_sub', nI_div', qRem_nI, lN_add, lN_mul, lN_sub, lN_div', qRemL_lN, qIn_I, qIx_nI, nI_ltI, nI_leI, nI_eq, nI_eqn, nI_eqn', nI_len, nI_ltn, nI_nle', nI_nlt', lN_eqn, lg_lt, lg_gt, lg_eq, lg_le, lg_ge, lgn_lt, lgn_gt, lgn_eq, lgn_le, lgn_ge, pk_lLT, pk_lLE, pk_lEQ, nI_l, lN_i, qShl_n, nI_and, nI_or, lN_and, lN_or, nI_andn, lN_andn, pI_e, pI_f, pI_c, pL_e, pL_f, pL_c, pI_L, pL_I, qB_1, qZb_n, true_and, and_true, forall_const, not_true_eq_false, not_false_eq_true, Nat.reduceLT, Nat.reduceLeDiff, Nat.reduceEqDiff, Nat.reduceAdd, Nat.reduceMul, Nat.reduceSub, Nat.reduceMod, Nat.reduceDiv, false_implies, implies_true, r.ppl]
    exact ⟨fun _ => hz, fun g => absurd (Nat.le_refl _) g⟩
  · intro i hi ih no
    refine A_Mo_barred_34 ?_
    simp (disch := omega) only [li, ll, nI_add, nI_mul', nI_sub', nI_div', qRem_nI, lN_add, lN_mul, lN_sub, lN_div', qRemL_lN, qIn_I, qIx_nI, nI_ltI, nI_leI, nI_eq, nI_eqn, nI_eqn', nI_len, nI_ltn, nI_nle', nI_nlt', lN_eqn, lg_lt, lg_gt, lg_eq, lg_le, lg_ge, lgn_lt, lgn_gt, lgn_eq, lgn_le, lgn_ge, pk_lLT, pk_lLE, pk_lEQ, nI_l, lN_i, qShl_n, nI_and, nI_or, lN_and, lN_or, nI_andn, lN_andn, pI_e, pI_f, pI_c, pL_e, pL_f, pL_c, pI_L, pL_I, qB_1, qZb_n, true_and, and_true, forall_const, not_true_eq_false, not_false_eq_true, Nat.reduceLT, Nat.reduceLeDiff, Nat.reduceEqDiff, Nat.reduceAdd, Nat.reduceMul, Nat.reduceSub, Nat.reduceMod, Nat.reduceDiv, false_implies, implies_true, r.ppl]
    refine ⟨fun g => absurd g (by omega), fun _ => ?_⟩
    refine lpN (i := i + 1) (n := N 0 0) (P := fun j => i < j → paN N n i j → qAt s d c_Mo_barred (qQi Q) 49 [some (.ref 72), some (.int (nI n)), some (.int q), some (.int (nI i)), some (.int (nI j))] [] w2) ?_ ?_ (by omega) (by omega) (paN_up (by omega) no)
    · intro _ no2
      refine A_Mo_barred_49 ?_
      simp (disch := omega) only [li, ll, nI_add, nI_mul', nI_sub', nI_div', qRem_nI, lN_add, lN_mul, lN_sub, lN_div', qRemL_lN, qIn_I, qIx_nI, nI_ltI, nI_leI, nI_eq, nI_eqn, nI_eqn', nI_len, nI_ltn, nI_nle', nI_nlt', lN_eqn, lg_lt, lg_gt, lg_eq, lg_le, lg_ge, lgn_lt, lgn_gt, lgn_eq, lgn_le, lgn_ge, pk_lLT, pk_lLE, pk_lEQ, nI_l, lN_i, qShl_n, nI_and, nI_or, lN_and, lN_or, nI_andn, lN_andn, pI_e, pI_f, pI_c, pL_e, pL_f, pL_c, pI_L, pL_I, qB_1, qZb_n, true_and, and_true, forall_const, not_true_eq_false, not_false_eq_true, Nat.reduceLT, Nat.reduceLeDiff, Nat.reduceEqDiff, Nat.reduceAdd, Nat.reduceMul, Nat.reduceSub, Nat.reduceMod, Nat.reduceDiv, false_implies, implies_true, r.ppl]
      exact ⟨fun _ => ih (paN_row o hi (Nat.le_refl _) o0 no2), fun g => absurd (Nat.le_refl _) g⟩
    · intro j hj ihj hij no2
      have nx : paP N n (12 * i + j) = false → qAt s d c_Mo_barred (qQi Q) 49 [some (.ref 72), some (.int (nI n)), some (.int q), some (.int (nI i)), some (.int (nI (j + 1)))] [] w2 := fun q => ihj (by omega) (paN_s no2 q)
      rw [paP_t (by omega) ⟨hij, hj⟩] at nx
      refine A_Mo_barred_49 ?_
      simp (disch := omega) only [li, ll, nI_add, nI_mul', nI_sub', nI_div', qRem_nI, lN_add, lN_mul, lN_sub, lN_div', qRemL_lN, qIn_I, qIx_nI, nI_ltI, nI_leI, nI_eq, nI_eqn, nI_eqn', nI_len, nI_ltn, nI_nle', nI_nlt', lN_eqn, lg_lt, lg_gt, lg_eq, lg_le, lg_ge, lgn_lt, lgn_gt, lgn_eq, lgn_le, lgn_ge, pk_lLT, pk_lLE, pk_lEQ, nI_l, lN_i, qShl_n, nI_and, nI_or, lN_and, lN_or, nI_andn, lN_andn, pI_e, pI_f, pI_c, pL_e, pL_f, pL_c, pI_L, pL_I, qB_1, qZb_n, true_and, and_true, forall_const, not_true_eq_false, not_false_eq_true, Nat.reduceLT, Nat.reduceLeDiff, Nat.reduceEqDiff, Nat.reduceAdd, Nat.reduceMul, Nat.reduceSub, Nat.reduceMod, Nat.reduceDiv, false_implies, implies_true, r.ppl]
      refine ⟨fun g => absurd g (by omega), fun _ => m_has (by omega) (by omega) (by omega) (fun g1 => b1 (m_has (by omega) (by omega) (by omega) (fun g2 => b1 (m_canMeet (by omega) t2 o hi hj (tI_n (fun g3 => ?_) (fun g3 => ?_)))) (fun g2 => b0 ?_))) (fun g1 => b0 ?_)⟩
      · exact nx (by rw [g3]; simp)
      · have yes : paP N n (12 * i + j) = true := by rw [paP_t (by omega) ⟨hij, hj⟩, g1, g2, g3]; rfl
        unfold paF at hz
        rw [find_some (i := 12 * i + j) (by omega) yes no2] at hz
        have e1 : (12 * i + j) / 12 = i := by omega
        have e2 : (12 * i + j) % 12 = j := by omega
        have hz : Q (if q = 0 then nI ((12 * i + j) / 12) else nI ((12 * i + j) % 12)) w2 := hz
        rw [e1, e2] at hz
        refine ⟨fun q0 => ?_, fun q0 => ?_⟩
        · rw [if_neg (show ¬ q = 0 from q0)] at hz; exact hz
        · rw [if_pos (show q = 0 from q0)] at hz; exact hz
      · exact nx (by rw [g2]; simp)
      · exact nx (by rw [g1]; rfl)
/-- areJoined: no two are apart -/
theorem m_areJoined {set : Nat} (hd : 3 ≤ d) (hX : rM w N K T Z) (al : alike S N) (hT : tkA w T S) (oS : okS S) (hs : set < 4096) (hQ : Q (tI (decide (paF S set = none))) w) : qCall (some s) d 271 [.ref 72, .int (nI set)] w (qQi Q) := by
  obtain ⟨d, rfl, hd1⟩ := dS hd
  have o0 := oS.p12
  have ep : w.1 73 0 = nI (S 0 0) := by rw [hX.n.ppl, al.1]
  refine A_Mo_areJoined ?_
  refine lpN (i := 0) (n := S 0 0) (P := fun i => (∀ p q, p < i → q < p → (set.testBit p && set.testBit q && !cgN S p q) = false) → qAt s d c_Mo_areJoined (qQi Q) 2 [some (.ref 72), some (.int (nI set)), some (.int (nI i)), none] [] w) ?_ ?_ (Nat.zero_le _) (fun p q hp => absurd hp (Nat.not_lt_zero _))
  · intro no
    have hN : paF S set = none := by
      refine find_none (fun k hk => ?_)
      unfold paP
      by_cases g : k / 12 < k % 12 ∧ k % 12 < S 0 0
      · have := no (k % 12) (k / 12) g.2 g.1
        rw [cgN_comm] at this
        revert this
        cases set.testBit (k / 12) <;> cases set.testBit (k % 12) <;> cases cgN S (k / 12) (k % 12) <;> simp
      · rw [decide_eq_false g]; rfl
    rw [decide_eq_true hN] at hQ
    refine A_Mo_areJoined_2 ?_
    simp (disch := omega) only [li, ll, nI_add, nI_mul', nI_sub', nI_div', qRem_nI, lN_add, lN_mul, lN_sub, lN_div', qRemL_lN, qIn_I, qIx_nI, nI_ltI, nI_leI, nI_eq, nI_eqn, nI_eqn', nI_len, nI_ltn, nI_nle', nI_nlt', lN_eqn, lg_lt, lg_gt, lg_eq, lg_le, lg_ge, lgn_lt, lgn_gt, lgn_eq, lgn_le, lgn_ge, pk_lLT, pk_lLE, pk_lEQ, nI_l, lN_i, qShl_n, nI_and, nI_or, lN_and, lN_or, nI_andn, lN_andn, pI_e, pI_f, pI_c, pL_e, pL_f, pL_c, pI_L, pL_I, qB_1, qZb_n, true_and, and_true, forall_const, not_true_eq_false, not_false_eq_true, Nat.reduceLT, Nat.reduceLeDiff, Nat.reduceEqDiff, Nat.reduceAdd, Nat.reduceMul, Nat.reduceSub, Nat.reduceMod, Nat.reduceDiv, false_implies, implies_true, ep]
    exact ⟨fun _ => hQ, fun g => absurd (Nat.le_refl _) g⟩
  · intro i hi ih no
    refine A_Mo_areJoined_2 ?_
    simp (disch := omega) only [li, ll, nI_add, nI_mul', nI_sub', nI_div', qRem_nI, lN_add, lN_mul, lN_sub, lN_div', qRemL_lN, qIn_I, qIx_nI, nI_ltI, nI_leI, nI_eq, nI_eqn, nI_eqn', nI_len, nI_ltn, nI_nle', nI_nlt', lN_eqn, lg_lt, lg_gt, lg_eq, lg_le, lg_ge, lgn_lt, lgn_gt, lgn_eq, lgn_le, lgn_ge, pk_lLT, pk_lLE, pk_lEQ, nI_l, lN_i, qShl_n, nI_and, nI_or, lN_and, lN_or, nI_andn, lN_andn, pI_e, pI_f, pI_c, pL_e, pL_f, pL_c, pI_L, pL_I, qB_1, qZb_n, true_and, and_true, forall_const, not_true_eq_false, not_false_eq_true, Nat.reduceLT, Nat.reduceLeDiff, Nat.reduceEqDiff, Nat.reduceAdd, Nat.reduceMul, Nat.reduceSub, Nat.reduceMod, Nat.reduceDiv, false_implies, implies_true, ep]
    refine ⟨fun g => absurd g (by omega), fun _ => ?_⟩
    refine lpN (i := 0) (n := i) (P := fun j => (∀ q, q < j → (set.testBit i && set.testBit q && !cgN S i q) = false) → qAt s d c_Mo_areJoined (qQi Q) 14 [some (.ref 72), some (.int (nI set)), some (.int (nI i)), some (.int (nI j))] [] w) ?_ ?_ (Nat.zero_le _) (fun q hq => absurd hq (Nat.not_lt_zero _))
    · intro no2
      refine A_Mo_areJoined_14 ?_
      rw [nI_1]
      refine ⟨fun _ => ih (fun p q hp hq => ?_), fun g => absurd (Int32.le_refl _) g⟩
      by_cases e : p = i
      · subst e; exact no2 q hq
      · exact no p q (by omega) hq
    · intro j hj ihj no2
      have nx : (set.testBit i && set.testBit j && !cgN S i j) = false → qAt s d c_Mo_areJoined (qQi Q) 14 [some (.ref 72), some (.int (nI set)), some (.int (nI i)), some (.int (nI (j + 1)))] [] w := fun q => ihj (fun k hk => by
        by_cases e : k = j
        · subst e; exact q
        · exact no2 k (by omega))
      refine A_Mo_areJoined_14 ?_
      rw [nI_leI (by omega) (by omega), nI_1 i, nI_1 j]
      refine ⟨fun g => absurd g (by omega), fun _ => m_has (by omega) (by omega) (by omega) (fun g1 => b1 (m_has (by omega) (by omega) (by omega) (fun g2 => b1 (m_canMeet (by omega) hT oS hi (by omega) (tI_n (fun g3 => ?_) (fun g3 => ?_)))) (fun g2 => b0 ?_))) (fun g1 => b0 ?_)⟩
      · exact nx (by rw [g3]; simp)
      · have yes : paP S set (12 * j + i) = true := by rw [paP_t (by omega) ⟨hj, hi⟩, g1, g2, cgN_comm, g3]; rfl
        have ne : ¬ paF S set = none := by
          intro q
          unfold paF at q
          rw [List.find?_eq_none] at q
          exact q (12 * j + i) (List.mem_range.mpr (by omega)) yes
        rw [decide_eq_false ne] at hQ
        exact hQ
      · exact nx (by rw [g2]; simp)
      · exact nx (by rw [g1]; rfl)
end Meet
