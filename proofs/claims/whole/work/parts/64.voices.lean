/-! Who speaks when, on both sides. -/
section Voices
variable {s : Nat × (Nat → Int32)} {d : Nat} {w : qW} {Q : Int32 → qW → Prop} {R : qW → Prop} {N S K : vS} {T : Nat → vT} {Z : vZ}
/-- those below P of whom f is true, as bits -/
def bitsOf (f : Nat → Bool) : Nat → Nat
  | 0 => 0
  | P + 1 => bitsOf f P ||| (if f P then 2 ^ P else 0)
theorem bitsOf_bit (f : Nat → Bool) : ∀ P q, (bitsOf f P).testBit q = (decide (q < P) && f q)
  | 0, q => by simp [bitsOf]
  | P + 1, q => by
    unfold bitsOf
    rw [Nat.testBit_or, bitsOf_bit f P q]
    by_cases e : q = P
    · subst e
      cases hf : f q <;> simp
    · have e2 : (if f P then 2 ^ P else 0).testBit q = false := by
        cases f P
        · simp
        · rw [if_pos rfl, Nat.testBit_two_pow, decide_eq_false (fun h => e h.symm)]
      rw [e2, Bool.or_false]
      have : decide (q < P + 1) = decide (q < P) := by
        by_cases h : q < P
        · rw [decide_eq_true h, decide_eq_true (by omega)]
        · rw [decide_eq_false h, decide_eq_false (by omega)]
      rw [this]
theorem bitsOf_lt (f : Nat → Bool) : ∀ P, bitsOf f P < 2 ^ P
  | 0 => Nat.lt_succ_self 0
  | P + 1 => by
    unfold bitsOf
    have h1 := bitsOf_lt f P
    have h2 : 2 ^ P < 2 ^ (P + 1) := Nat.pow_lt_pow_right (by decide) (by omega)
    refine Nat.or_lt_two_pow (Nat.lt_trans h1 h2) ?_
    cases f P
    · simp; exact Nat.two_pow_pos _
    · rw [if_pos rfl]; exact h2
theorem bitsOf_12 (f : Nat → Bool) {P : Nat} (h : P ≤ 12) : bitsOf f P < 4096 := Nat.lt_of_lt_of_le (bitsOf_lt f P) (Nat.pow_le_pow_right (n := 2) (i := P) (j := 12) (by decide) h)
theorem bits_ext {a b : Nat} (h : ∀ q, a.testBit q = b.testBit q) : a = b := Nat.eq_of_testBit_eq h
theorem bitsOf_congr {f g : Nat → Bool} {P : Nat} (h : ∀ q, q < P → f q = g q) : bitsOf f P = bitsOf g P := by
  apply bits_ext
  intro q
  rw [bitsOf_bit, bitsOf_bit]
  by_cases e : q < P
  · rw [h q e]
  · rw [decide_eq_false e]; rfl
/-- who speaks in an hour, as bits -/
def spkM (T : Nat → vT) (S : vS) (h : Nat) : Nat := bitsOf (fun p => spk T S p h) (S 0 0)
def takeA (c : Nat) : Prop := barA c ∨ c = 83 ∨ c = 84
def tkA (w : qW) (T : Nat → vT) (S : vS) : Prop := ∀ p, p < S 0 0 → tk1 w T S p
theorem tkA_fr {w w' : qW} {A : Nat → Prop} (h : tkA w T S) (f : fr A w w') (hA : ∀ c, takeA c → ¬ A c) : tkA w' T S := by
  intro p hp
  have k := h p hp
  refine tk1.mk ?_ ?_ ?_ ?_
  · rw [(f 83 (hA 83 (by unfold takeA; omega))).1]; exact k.num
  · rw [(f 84 (hA 84 (by unfold takeA; omega))).1]; exact k.fst
  · rw [(f 85 (hA 85 (by unfold takeA barA; omega))).1]; exact k.cls
  · rw [(f 86 (hA 86 (by unfold takeA barA; omega))).1]; exact k.dun
theorem m_take (hd : 5 ≤ d) (hX : rM w N K T Z) (hQ : ∀ w', fr takeA w w' → tkA w' T N → R w') : qCall (some s) d 253 [.ref 72] w (qQv R) := by
  obtain ⟨d, rfl, hd1⟩ := dS hd
  have o := hX.okn
  have o0 := o.p12
  refine A_Mo_take ?_
  refine lpU (i := 0) (n := N 0 0) (I := fun i w2 => fr takeA w w2 ∧ ∀ p, p < i → tk1 w2 T N p) (P := fun i w2 => qAt s d c_Mo_take (qQv R) 2 [some (.ref 72), some (.int (nI i))] [] w2) ?_ ?_ (Nat.zero_le _) ?_
  · intro w2 ⟨f, h⟩
    refine A_Mo_take_2 ?_
    have e : w2.1 73 0 = nI (N 0 0) := by rw [(f 73 (by unfold takeA barA; omega)).1]; exact hX.n.ppl
    simp (disch := omega) only [li, ll, nI_add, nI_mul', nI_sub', nI_div', qRem_nI, lN_add, lN_mul, lN_sub, lN_div', qRemL_lN, qIn_I, qIx_nI, nI_ltI, nI_leI, nI_eq, nI_eqn, nI_eqn', nI_len, nI_ltn, nI_nle', nI_nlt', lN_eqn, lg_lt, lg_gt, lg_eq, lg_le, lg_ge, lgn_lt, lgn_gt, lgn_eq, lgn_le, lgn_ge, pk_lLT, pk_lLE, pk_lEQ, nI_l, lN_i, qShl_n, nI_and, nI_or, lN_and, lN_or, nI_andn, lN_andn, pI_e, pI_f, pI_c, pL_e, pL_f, pL_c, pI_L, pL_I, qB_1, qZb_n, true_and, and_true, forall_const, not_true_eq_false, not_false_eq_true, Nat.reduceLT, Nat.reduceLeDiff, Nat.reduceEqDiff, Nat.reduceAdd, Nat.reduceMul, Nat.reduceSub, Nat.reduceMod, Nat.reduceDiv, false_implies, implies_true, e]
    exact ⟨fun _ => hQ w2 f h, fun g => absurd (Nat.le_refl _) g⟩
  · intro i w2 hi ⟨f, h⟩ ih
    refine A_Mo_take_2 ?_
    have hX2 := hX.keep f (fun c h1 h2 => by unfold takeA barA; omega)
    simp (disch := omega) only [li, ll, nI_add, nI_mul', nI_sub', nI_div', qRem_nI, lN_add, lN_mul, lN_sub, lN_div', qRemL_lN, qIn_I, qIx_nI, nI_ltI, nI_leI, nI_eq, nI_eqn, nI_eqn', nI_len, nI_ltn, nI_nle', nI_nlt', lN_eqn, lg_lt, lg_gt, lg_eq, lg_le, lg_ge, lgn_lt, lgn_gt, lgn_eq, lgn_le, lgn_ge, pk_lLT, pk_lLE, pk_lEQ, nI_l, lN_i, qShl_n, nI_and, nI_or, lN_and, lN_or, nI_andn, lN_andn, pI_e, pI_f, pI_c, pL_e, pL_f, pL_c, pI_L, pL_I, qB_1, qZb_n, true_and, and_true, forall_const, not_true_eq_false, not_false_eq_true, Nat.reduceLT, Nat.reduceLeDiff, Nat.reduceEqDiff, Nat.reduceAdd, Nat.reduceMul, Nat.reduceSub, Nat.reduceMod, Nat.reduceDiv, false_implies, implies_true, hX2.n.ppl]
    refine ⟨fun g => absurd g (by omega), fun _ => ⟨by omega, by omega, by omega, by omega, ?_⟩⟩
    rw [hX2.n.num i hi, hX2.n.fst i hi]
    have f3 : fr takeA w2 (qPutI (qPutI w2 83 i (nI (N 10 i))) 84 i (nI (N 11 i))) := fr_I (fr_pI (by unfold takeA; omega)) (by unfold takeA; omega)
    have hX3 := hX2.keep f3 (fun c h1 h2 => by unfold takeA barA; omega)
    refine m_bar (S := N) (by omega) hX3 (alike_rf N) (by omega) (by simp (disch := omega) only [li, ll, nI_add, nI_mul', nI_sub', nI_div', qRem_nI, lN_add, lN_mul, lN_sub, lN_div', qRemL_lN, qIn_I, qIx_nI, nI_ltI, nI_leI, nI_eq, nI_eqn, nI_eqn', nI_len, nI_ltn, nI_nle', nI_nlt', lN_eqn, lg_lt, lg_gt, lg_eq, lg_le, lg_ge, lgn_lt, lgn_gt, lgn_eq, lgn_le, lgn_ge, pk_lLT, pk_lLE, pk_lEQ, nI_l, lN_i, qShl_n, nI_and, nI_or, lN_and, lN_or, nI_andn, lN_andn, pI_e, pI_f, pI_c, pL_e, pL_f, pL_c, pI_L, pL_I, qB_1, qZb_n, true_and, and_true, forall_const, not_true_eq_false, not_false_eq_true, Nat.reduceLT, Nat.reduceLeDiff, Nat.reduceEqDiff, Nat.reduceAdd, Nat.reduceMul, Nat.reduceSub, Nat.reduceMod, Nat.reduceDiv, false_implies, implies_true]) (by simp (disch := omega) only [li, ll, nI_add, nI_mul', nI_sub', nI_div', qRem_nI, lN_add, lN_mul, lN_sub, lN_div', qRemL_lN, qIn_I, qIx_nI, nI_ltI, nI_leI, nI_eq, nI_eqn, nI_eqn', nI_len, nI_ltn, nI_nle', nI_nlt', lN_eqn, lg_lt, lg_gt, lg_eq, lg_le, lg_ge, lgn_lt, lgn_gt, lgn_eq, lgn_le, lgn_ge, pk_lLT, pk_lLE, pk_lEQ, nI_l, lN_i, qShl_n, nI_and, nI_or, lN_and, lN_or, nI_andn, lN_andn, pI_e, pI_f, pI_c, pL_e, pL_f, pL_c, pI_L, pL_I, qB_1, qZb_n, true_and, and_true, forall_const, not_true_eq_false, not_false_eq_true, Nat.reduceLT, Nat.reduceLeDiff, Nat.reduceEqDiff, Nat.reduceAdd, Nat.reduceMul, Nat.reduceSub, Nat.reduceMod, Nat.reduceDiv, false_implies, implies_true]) (o.num i hi) (o.fst i hi) ?_
    intro w4 f4 h4 g1 g2
    refine ih w4 ⟨fr_tr f (fr_tr f3 (fr_wk f4 (fun c hc => Or.inl hc))), fun p hp => ?_⟩
    by_cases e : p = i
    · subst e; exact h4
    · have k := h p (by omega)
      refine tk1.mk ?_ ?_ ?_ ?_
      · rw [(f4 83 (by unfold barA; omega)).1, pI_c (by decide), pI_f (by omega)]; exact k.num
      · rw [(f4 84 (by unfold barA; omega)).1, pI_f (by omega), pI_c (by decide)]; exact k.fst
      · intro c hc
        have := o.clk
        rw [g1 p c e (by omega)]
        exact k.cls c hc
      · intro c hc
        have := o.day
        rw [g2 p c e (by omega)]
        exact k.dun c hc
  · exact ⟨fr_rf _ _, fun p hp => by omega⟩
theorem tI_z (b : Bool) : qZb (tI b) = true := by cases b <;> rfl
theorem tI_n {b : Bool} {A B : Prop} (h1 : b = true → A) (h0 : b = false → B) : (¬ tI b = 0 → A) ∧ (tI b = 0 → B) := by
  cases b
  · exact ⟨fun g => absurd rfl g, fun _ => h0 rfl⟩
  · exact ⟨fun _ => h1 rfl, fun g => absurd g (by decide)⟩
theorem tI_b {b : Bool} {A B : Prop} (h1 : b = true → A) (h0 : b = false → B) : (tI b = 0 → B) ∧ (¬ tI b = 0 → A) := (tI_n h1 h0).symm
/-- what the reference's speaking needs: S is laid out, and is alike to now -/
theorem m_spkBy {p h dy : Nat} (hd : 2 ≤ d) (hX : rM w N K T Z) (al : alike S N) (oS : okS S) (hT : tkA w T S) (hp : p < S 0 0) (hh : h < 2 ^ 62) (hy : dy ≤ 999) (hQ : Q (tI (spkD T S dy p h)) w) : qCall (some s) d 263 [.ref 72, .int (nI p), .long (lN h), .int (nI dy)] w (qQi Q) := by
  obtain ⟨d, rfl, hd1⟩ := dS hd
  have o0 := oS.p12
  have oc := oS.clk
  have k := hT p hp
  have ec : w.1 73 2 = nI (S 2 0) := by rw [hX.n.clk, al.2.2.1]
  have hm : h % S 2 0 < S 2 0 := Nat.mod_lt _ (by omega)
  unfold spkD at hQ
  have main : ∀ h', h' < 2 ^ 62 → (due S p h' && !brd T S p (h % S 2 0)) = (due S p (if dy = 0 then h else h % dy) && !brd T S p (h % S 2 0)) → qAt s d c_Mo_isSpeakingBy (qQi Q) 16 [some (.ref 72), some (.int (nI p)), some (.long (lN h)), none, none] [.long (lN h'), .int (nI p), .ref 72] w := by
    intro h' hh' e
    rw [← e] at hQ
    refine A_Mo_isSpeakingBy_16 (m_isDue (S := S) (by omega) (by omega) k.num k.fst (oS.num p hp) (oS.fst p hp) hh' ?_)
    refine tI_b (fun g => ?_) (fun g => ?_)
    · rw [g, Bool.true_and] at hQ
      simp (disch := omega) only [li, ll, nI_add, nI_mul', nI_sub', nI_div', qRem_nI, lN_add, lN_mul, lN_sub, lN_div', qRemL_lN, qIn_I, qIx_nI, nI_ltI, nI_leI, nI_eq, nI_eqn, nI_eqn', nI_len, nI_ltn, nI_nle', nI_nlt', lN_eqn, lg_lt, lg_gt, lg_eq, lg_le, lg_ge, lgn_lt, lgn_gt, lgn_eq, lgn_le, lgn_ge, pk_lLT, pk_lLE, pk_lEQ, nI_l, lN_i, qShl_n, nI_and, nI_or, lN_and, lN_or, nI_andn, lN_andn, pI_e, pI_f, pI_c, pL_e, pL_f, pL_c, pI_L, pL_I, qB_1, qZb_n, true_and, and_true, forall_const, not_true_eq_false, not_false_eq_true, Nat.reduceLT, Nat.reduceLeDiff, Nat.reduceEqDiff, Nat.reduceAdd, Nat.reduceMul, Nat.reduceSub, Nat.reduceMod, Nat.reduceDiv, false_implies, implies_true, ec]
      rw [k.cls _ hm]
      refine ⟨by omega, by omega, tI_n (fun g2 => ?_) (fun g2 => ?_)⟩
      · rw [g2] at hQ; exact hQ
      · rw [g2] at hQ; exact hQ
    · rw [g, Bool.false_and] at hQ; exact hQ
  refine A_Mo_isSpeakingBy ?_
  by_cases e : dy = 0
  · subst e
    exact ⟨fun g => absurd rfl g, fun _ => main h hh (by rw [if_pos rfl])⟩
  · simp (disch := omega) only [li, ll, nI_add, nI_mul', nI_sub', nI_div', qRem_nI, lN_add, lN_mul, lN_sub, lN_div', qRemL_lN, qIn_I, qIx_nI, nI_ltI, nI_leI, nI_eq, nI_eqn, nI_eqn', nI_len, nI_ltn, nI_nle', nI_nlt', lN_eqn, lg_lt, lg_gt, lg_eq, lg_le, lg_ge, lgn_lt, lgn_gt, lgn_eq, lgn_le, lgn_ge, pk_lLT, pk_lLE, pk_lEQ, nI_l, lN_i, qShl_n, nI_and, nI_or, lN_and, lN_or, nI_andn, lN_andn, pI_e, pI_f, pI_c, pL_e, pL_f, pL_c, pI_L, pL_I, qB_1, qZb_n, true_and, and_true, forall_const, not_true_eq_false, not_false_eq_true, Nat.reduceLT, Nat.reduceLeDiff, Nat.reduceEqDiff, Nat.reduceAdd, Nat.reduceMul, Nat.reduceSub, Nat.reduceMod, Nat.reduceDiv, false_implies, implies_true]
    refine ⟨fun _ => ⟨by omega, main (h % dy) (Nat.lt_of_le_of_lt (Nat.mod_le _ _) hh) (by rw [if_neg e])⟩, fun g => absurd g e⟩
theorem m_spk {p h : Nat} (hd : 3 ≤ d) (hX : rM w N K T Z) (al : alike S N) (oS : okS S) (hT : tkA w T S) (hp : p < S 0 0) (hh : h < 2 ^ 62) (hQ : Q (tI (spk T S p h)) w) : qCall (some s) d 262 [.ref 72, .int (nI p), .long (lN h)] w (qQi Q) := by
  obtain ⟨d, rfl, hd1⟩ := dS hd
  have od := oS.day
  have e : w.1 73 1 = nI (S 1 0) := by rw [hX.n.day, al.2.1]
  refine A_Mo_isSpeaking ⟨qIn_nI (j := 1) (by decide) (by decide), ?_⟩
  rw [show qIx (1 : Int32) = 1 from rfl, e]
  refine m_spkBy hd1 hX al oS hT hp hh (by omega) ?_
  show qB (qZb (tI (spk T S p h))) _
  rw [tI_z]
  exact hQ
theorem m_speakers {h : Nat} (hd : 4 ≤ d) (hX : rM w N K T Z) (al : alike S N) (oS : okS S) (hT : tkA w T S) (hh : h < 2 ^ 62) (hQ : Q (nI (spkM T S h)) w) : qCall (some s) d 285 [.ref 72, .long (lN h)] w (qQi Q) := by
  obtain ⟨d, rfl, hd1⟩ := dS hd
  have o0 := oS.p12
  have e : w.1 73 0 = nI (S 0 0) := by rw [hX.n.ppl, al.1]
  refine A_Mo_speakers ?_
  have loop : ∀ k i, S 0 0 - i = k → i ≤ S 0 0 → qAt s d c_Mo_speakers (qQi Q) 5 [some (.ref 72), some (.long (lN h)), none, some (.int (nI (bitsOf (fun p => spk T S p h) i))), some (.int (nI i))] [] w := by
    intro k
    induction k with
    | zero =>
      intro i hk hi
      have ei : i = S 0 0 := by omega
      subst ei
      refine A_Mo_speakers_5 ?_
      simp (disch := omega) only [li, ll, nI_add, nI_mul', nI_sub', nI_div', qRem_nI, lN_add, lN_mul, lN_sub, lN_div', qRemL_lN, qIn_I, qIx_nI, nI_ltI, nI_leI, nI_eq, nI_eqn, nI_eqn', nI_len, nI_ltn, nI_nle', nI_nlt', lN_eqn, lg_lt, lg_gt, lg_eq, lg_le, lg_ge, lgn_lt, lgn_gt, lgn_eq, lgn_le, lgn_ge, pk_lLT, pk_lLE, pk_lEQ, nI_l, lN_i, qShl_n, nI_and, nI_or, lN_and, lN_or, nI_andn, lN_andn, pI_e, pI_f, pI_c, pL_e, pL_f, pL_c, pI_L, pL_I, qB_1, qZb_n, true_and, and_true, forall_const, not_true_eq_false, not_false_eq_true, Nat.reduceLT, Nat.reduceLeDiff, Nat.reduceEqDiff, Nat.reduceAdd, Nat.reduceMul, Nat.reduceSub, Nat.reduceMod, Nat.reduceDiv, false_implies, implies_true, e]
      exact ⟨fun _ => hQ, fun g => absurd (Nat.le_refl _) g⟩
    | succ k ih =>
      intro i hk hi
      refine A_Mo_speakers_5 ?_
      simp (disch := omega) only [li, ll, nI_add, nI_mul', nI_sub', nI_div', qRem_nI, lN_add, lN_mul, lN_sub, lN_div', qRemL_lN, qIn_I, qIx_nI, nI_ltI, nI_leI, nI_eq, nI_eqn, nI_eqn', nI_len, nI_ltn, nI_nle', nI_nlt', lN_eqn, lg_lt, lg_gt, lg_eq, lg_le, lg_ge, lgn_lt, lgn_gt, lgn_eq, lgn_le, lgn_ge, pk_lLT, pk_lLE, pk_lEQ, nI_l, lN_i, qShl_n, nI_and, nI_or, lN_and, lN_or, nI_andn, lN_andn, pI_e, pI_f, pI_c, pL_e, pL_f, pL_c, pI_L, pL_I, qB_1, qZb_n, true_and, and_true, forall_const, not_true_eq_false, not_false_eq_true, Nat.reduceLT, Nat.reduceLeDiff, Nat.reduceEqDiff, Nat.reduceAdd, Nat.reduceMul, Nat.reduceSub, Nat.reduceMod, Nat.reduceDiv, false_implies, implies_true, e]
      refine ⟨fun g => absurd g (by omega), fun _ => m_spk hd1 hX al oS hT (by omega) hh (tI_b (fun g => ?_) (fun g => ?_))⟩
      · have := ih (i + 1) (by omega) (by omega)
        unfold bitsOf at this
        rw [if_pos g] at this
        exact this
      · have := ih (i + 1) (by omega) (by omega)
        unfold bitsOf at this
        rw [if_neg (by rw [g]; decide)] at this
        exact this
  exact loop _ 0 rfl (Nat.zero_le _)
theorem all_succ (f : Nat → Bool) (k : Nat) : (List.range (k + 1)).all f = ((List.range k).all f && f k) := by
  rw [List.range_succ, List.all_append]
  simp
/-- do all of a set speak? -/
def allSpk (T : Nat → vT) (S : vS) (set h : Nat) : Bool := (List.range (S 0 0)).all (fun p => !set.testBit p || spk T S p h)
theorem m_doAll {h set : Nat} (hd : 4 ≤ d) (hX : rM w N K T Z) (al : alike S N) (oS : okS S) (hT : tkA w T S) (hs : set < 4096) (hh : h < 2 ^ 62) (hQ : Q (tI (allSpk T S set h)) w) : qCall (some s) d 269 [.ref 72, .int (nI set), .long (lN h)] w (qQi Q) := by
  obtain ⟨d, rfl, hd1⟩ := dS hd
  have o0 := oS.p12
  have e : w.1 73 0 = nI (S 0 0) := by rw [hX.n.ppl, al.1]
  refine A_Mo_doAll ?_
  have loop : ∀ k i, S 0 0 - i = k → i ≤ S 0 0 → (List.range i).all (fun p => !set.testBit p || spk T S p h) = true → qAt s d c_Mo_doAll (qQi Q) 3 [some (.ref 72), some (.int (nI set)), some (.long (lN h)), none, some (.int (nI i))] [] w := by
    intro k
    induction k with
    | zero =>
      intro i hk hi ha
      have ei : i = S 0 0 := by omega
      subst ei
      refine A_Mo_doAll_3 ?_
      simp (disch := omega) only [li, ll, nI_add, nI_mul', nI_sub', nI_div', qRem_nI, lN_add, lN_mul, lN_sub, lN_div', qRemL_lN, qIn_I, qIx_nI, nI_ltI, nI_leI, nI_eq, nI_eqn, nI_eqn', nI_len, nI_ltn, nI_nle', nI_nlt', lN_eqn, lg_lt, lg_gt, lg_eq, lg_le, lg_ge, lgn_lt, lgn_gt, lgn_eq, lgn_le, lgn_ge, pk_lLT, pk_lLE, pk_lEQ, nI_l, lN_i, qShl_n, nI_and, nI_or, lN_and, lN_or, nI_andn, lN_andn, pI_e, pI_f, pI_c, pL_e, pL_f, pL_c, pI_L, pL_I, qB_1, qZb_n, true_and, and_true, forall_const, not_true_eq_false, not_false_eq_true, Nat.reduceLT, Nat.reduceLeDiff, Nat.reduceEqDiff, Nat.reduceAdd, Nat.reduceMul, Nat.reduceSub, Nat.reduceMod, Nat.reduceDiv, false_implies, implies_true, e]
      unfold allSpk at hQ
      rw [ha] at hQ
      exact ⟨fun _ => hQ, fun g => absurd (Nat.le_refl _) g⟩
    | succ k ih =>
      intro i hk hi ha
      refine A_Mo_doAll_3 ?_
      simp (disch := omega) only [li, ll, nI_add, nI_mul', nI_sub', nI_div', qRem_nI, lN_add, lN_mul, lN_sub, lN_div', qRemL_lN, qIn_I, qIx_nI, nI_ltI, nI_leI, nI_eq, nI_eqn, nI_eqn', nI_len, nI_ltn, nI_nle', nI_nlt', lN_eqn, lg_lt, lg_gt, lg_eq, lg_le, lg_ge, lgn_lt, lgn_gt, lgn_eq, lgn_le, lgn_ge, pk_lLT, pk_lLE, pk_lEQ, nI_l, lN_i, qShl_n, nI_and, nI_or, lN_and, lN_or, nI_andn, lN_andn, pI_e, pI_f, pI_c, pL_e, pL_f, pL_c, pI_L, pL_I, qB_1, qZb_n, true_and, and_true, forall_const, not_true_eq_false, not_false_eq_true, Nat.reduceLT, Nat.reduceLeDiff, Nat.reduceEqDiff, Nat.reduceAdd, Nat.reduceMul, Nat.reduceSub, Nat.reduceMod, Nat.reduceDiv, false_implies, implies_true, e]
      refine ⟨fun g => absurd g (by omega), fun _ => m_has (by omega) (by omega) (by omega) (fun g => b1 ?_) (fun g => b0 ?_)⟩
      · refine m_spk hd1 hX al oS hT (by omega) hh (tI_n (fun g2 => ?_) (fun g2 => ?_))
        · refine ih (i + 1) (by omega) (by omega) ?_
          rw [all_succ, ha, g2, Bool.or_true]; rfl
        · have : allSpk T S set h = false := by
            unfold allSpk
            rw [List.all_eq_false]
            refine ⟨i, List.mem_range.mpr (by omega), ?_⟩
            rw [g, g2]; decide
          rw [this] at hQ
          exact hQ
      · refine ih (i + 1) (by omega) (by omega) ?_
        rw [all_succ, ha, g]; rfl
  exact loop _ 0 rfl (Nat.zero_le _) rfl
/-! the class -/
theorem c_isDueD {p h dy : Nat} (hd : 1 ≤ d) (hX : rX w N K T Z) (hp : p < N 0 0) (hh : h < 2 ^ 62) (hy : dy ≤ 999) (hQ : Q (tI (due N p (if dy = 0 then h else h % dy))) w) : qCall (some s) d 94 [.ref 50, .int (nI p), .long (lN h), .int (nI dy)] w (qQi Q) := by
  obtain ⟨d, rfl, hd1⟩ := dS hd
  have r := hX.n
  have o := hX.okn
  have o0 := o.p12
  have on := o.num p hp
  have of := o.fst p hp
  have main : ∀ h', h' < 2 ^ 62 → due N p h' = due N p (if dy = 0 then h else h % dy) → qAt s d c_Voices_isDue (qQi Q) 14 [some (.ref 50), some (.int (nI p)), none, none, none, none, none] [.long (lN h')] w := by
    intro h' hh' e
    rw [← e] at hQ
    unfold due at hQ
    refine A_Voices_isDue_14 ?_
    simp (disch := omega) only [li, ll, nI_add, nI_mul', nI_sub', nI_div', qRem_nI, lN_add, lN_mul, lN_sub, lN_div', qRemL_lN, qIn_I, qIx_nI, nI_ltI, nI_leI, nI_eq, nI_eqn, nI_eqn', nI_len, nI_ltn, nI_nle', nI_nlt', lN_eqn, lg_lt, lg_gt, lg_eq, lg_le, lg_ge, lgn_lt, lgn_gt, lgn_eq, lgn_le, lgn_ge, pk_lLT, pk_lLE, pk_lEQ, nI_l, lN_i, qShl_n, nI_and, nI_or, lN_and, lN_or, nI_andn, lN_andn, pI_e, pI_f, pI_c, pL_e, pL_f, pL_c, pI_L, pL_I, qB_1, qZb_n, true_and, and_true, forall_const, not_true_eq_false, not_false_eq_true, Nat.reduceLT, Nat.reduceLeDiff, Nat.reduceEqDiff, Nat.reduceAdd, Nat.reduceMul, Nat.reduceSub, Nat.reduceMod, Nat.reduceDiv, false_implies, implies_true, r.num p hp, r.fst p hp]
    refine ⟨by omega, fun g => ?_, fun g => ?_⟩
    · have : ¬ N 11 p ≤ h' := by
        intro q
        rw [lN_sub (by omega), pk_lLT (by omega) (by omega)] at g
        omega
      rw [decide_eq_false (fun q => this q.1)] at hQ; exact hQ
    · have q : N 11 p ≤ h' := by
        rcases Nat.lt_or_ge h' (N 11 p) with q | q
        · exfalso
          apply g
          rw [lN_Z, lN_Z, lZ_sub, lN_Z, lZ_lt (by omega) (by omega)]
          omega
        · exact q
      rw [lN_sub (by omega), qRemL_lN (by omega) (by omega) (by omega), pk_lEQ (Nat.lt_of_le_of_lt (Nat.mod_le _ _) (by omega)) (by decide)]
      refine ⟨by omega, by omega, fun g2 => ?_, fun g2 => ?_⟩
      · rw [decide_eq_false (fun q => g2 q.2)] at hQ; exact hQ
      · rw [decide_eq_true ⟨q, g2⟩] at hQ; exact hQ
  refine A_Voices_isDue ?_
  by_cases e : dy = 0
  · subst e
    exact ⟨fun _ => main h hh (by rw [if_pos rfl]), fun g => absurd (by decide) g⟩
  · simp (disch := omega) only [li, ll, nI_add, nI_mul', nI_sub', nI_div', qRem_nI, lN_add, lN_mul, lN_sub, lN_div', qRemL_lN, qIn_I, qIx_nI, nI_ltI, nI_leI, nI_eq, nI_eqn, nI_eqn', nI_len, nI_ltn, nI_nle', nI_nlt', lN_eqn, lg_lt, lg_gt, lg_eq, lg_le, lg_ge, lgn_lt, lgn_gt, lgn_eq, lgn_le, lgn_ge, pk_lLT, pk_lLE, pk_lEQ, nI_l, lN_i, qShl_n, nI_and, nI_or, lN_and, lN_or, nI_andn, lN_andn, pI_e, pI_f, pI_c, pL_e, pL_f, pL_c, pI_L, pL_I, qB_1, qZb_n, true_and, and_true, forall_const, not_true_eq_false, not_false_eq_true, Nat.reduceLT, Nat.reduceLeDiff, Nat.reduceEqDiff, Nat.reduceAdd, Nat.reduceMul, Nat.reduceSub, Nat.reduceMod, Nat.reduceDiv, false_implies, implies_true]
    refine ⟨fun g => absurd g (by omega), fun _ => ⟨by omega, main (h % dy) (Nat.lt_of_le_of_lt (Nat.mod_le _ _) hh) (by rw [if_neg e])⟩⟩
theorem c_isOpen {p h : Nat} (hd : 1 ≤ d) (hX : rX w N K T Z) (hp : p < N 0 0) (hh : h < 2 ^ 62) (hQ : Q (tI (!brd T N p (h % N 2 0))) w) : qCall (some s) d 95 [.ref 50, .int (nI p), .long (lN h)] w (qQi Q) := by
  obtain ⟨d, rfl, hd1⟩ := dS hd
  have r := hX.n
  have o := hX.okn
  have o0 := o.p12
  have oc := o.clk
  have hm : h % N 2 0 < N 2 0 := Nat.mod_lt _ (by omega)
  obtain ⟨n, e1, e2, e3⟩ := hX.opn _ hm
  refine A_Voices_isOpen ?_
  simp (disch := omega) only [li, ll, nI_add, nI_mul', nI_sub', nI_div', qRem_nI, lN_add, lN_mul, lN_sub, lN_div', qRemL_lN, qIn_I, qIx_nI, nI_ltI, nI_leI, nI_eq, nI_eqn, nI_eqn', nI_len, nI_ltn, nI_nle', nI_nlt', lN_eqn, lg_lt, lg_gt, lg_eq, lg_le, lg_ge, lgn_lt, lgn_gt, lgn_eq, lgn_le, lgn_ge, pk_lLT, pk_lLE, pk_lEQ, nI_l, lN_i, qShl_n, nI_and, nI_or, lN_and, lN_or, nI_andn, lN_andn, pI_e, pI_f, pI_c, pL_e, pL_f, pL_c, pI_L, pL_I, qB_1, qZb_n, true_and, and_true, forall_const, not_true_eq_false, not_false_eq_true, Nat.reduceLT, Nat.reduceLeDiff, Nat.reduceEqDiff, Nat.reduceAdd, Nat.reduceMul, Nat.reduceSub, Nat.reduceMod, Nat.reduceDiv, false_implies, implies_true, r.clk, e1]
  rw [← e3 p hp] at hQ
  refine ⟨by omega, by omega, fun g => ?_, fun g => ?_⟩
  · rw [(qBit_0 (by omega) (by omega)).mp g] at hQ; exact hQ
  · have : n.testBit p = true := by
      cases hb : n.testBit p with
      | true => rfl
      | false => exact absurd ((qBit_0 (by omega) (by omega)).mpr hb) g
    rw [this] at hQ; exact hQ
theorem c_isHeardAt {p h : Nat} (hd : 2 ≤ d) (hX : rX w N K T Z) (hp : p < N 0 0) (hh : h < 2 ^ 62) (hQ : Q (tI (spk T N p h)) w) : qCall (some s) d 93 [.ref 50, .int (nI p), .long (lN h)] w (qQi Q) := by
  obtain ⟨d, rfl, hd1⟩ := dS hd
  have od := hX.okn.day
  refine A_Voices_isHeardAt ?_
  rw [hX.n.day]
  unfold spk spkD at hQ
  refine c_isDueD hd1 hX hp hh (by omega) (tI_b (fun g => ?_) (fun g => ?_))
  · rw [g, Bool.true_and] at hQ
    refine c_isOpen hd1 hX hp hh (tI_b (fun g2 => ?_) (fun g2 => ?_))
    · rw [g2] at hQ; exact hQ
    · rw [g2] at hQ; exact hQ
  · rw [g, Bool.false_and] at hQ; exact hQ
theorem c_heardOf {some' h : Nat} (hd : 3 ≤ d) (hX : rX w N K T Z) (hs : some' < 4096) (hh : h < 2 ^ 62) (hQ : Q (nI (some' &&& spkM T N h)) w) : qCall (some s) d 139 [.ref 50, .int (nI some'), .long (lN h)] w (qQi Q) := by
  obtain ⟨d, rfl, hd1⟩ := dS hd
  have o0 := hX.okn.p12
  have e : w.1 2 0 = nI (N 0 0) := hX.n.ppl
  have ef : some' &&& spkM T N h = bitsOf (fun p => some'.testBit p && spk T N p h) (N 0 0) := by
    apply bits_ext
    intro q
    unfold spkM
    rw [Nat.testBit_and, bitsOf_bit, bitsOf_bit]
    cases some'.testBit q <;> cases decide (q < N 0 0) <;> rfl
  rw [ef] at hQ
  refine A_Voices_heardOf ?_
  have loop : ∀ k i, N 0 0 - i = k → i ≤ N 0 0 → qAt s d c_Voices_heardOf (qQi Q) 6 [some (.ref 50), some (.int (nI some')), some (.long (lN h)), none, some (.int (nI (bitsOf (fun p => some'.testBit p && spk T N p h) i))), some (.int (nI i))] [] w := by
    intro k
    induction k with
    | zero =>
      intro i hk hi
      have ei : i = N 0 0 := by omega
      subst ei
      refine A_Voices_heardOf_6 ?_
      rw [e]
      exact ⟨fun _ => hQ, fun g => absurd (Int32.le_refl _) g⟩
    | succ k ih =>
      intro i hk hi
      have := ih (i + 1) (by omega) (by omega)
      refine A_Voices_heardOf_6 ?_
      rw [e, nI_leI (by omega) (by omega), nI_1, li, qShl_n (by omega), nI_or]
      refine ⟨fun g => absurd g (by omega), fun _ => ⟨fun g => ?_, fun g => ?_⟩⟩
      · have hb := (qBit_0 (n := some') (by omega) (by omega)).mp g
        unfold bitsOf at this
        rw [hb] at this
        rw [if_neg (by simp), Nat.or_zero] at this
        exact this
      · have hb : some'.testBit i = true := by
          cases hb : some'.testBit i with
          | true => rfl
          | false => exact absurd ((qBit_0 (by omega) (by omega)).mpr hb) g
        unfold bitsOf at this
        rw [hb, Bool.true_and] at this
        refine c_isHeardAt hd1 hX (by omega) hh (tI_b (fun g2 => ?_) (fun g2 => ?_))
        · rw [if_pos g2] at this; exact this
        · rw [if_neg (by rw [g2]; decide), Nat.or_zero] at this; exact this
  exact loop _ 0 rfl (Nat.zero_le _)
end Voices
