/-! The class: open clocks, and hours counted that come to them. -/
section Clocks
variable {s : Nat × (Nat → Int32)} {d : Nat} {w : qW} {Q : Int32 → qW → Prop} {QL : Int64 → qW → Prop} {R : qW → Prop} {N S K : vS} {T : Nat → vT} {Z : vZ}
theorem bits60 (f : Nat → Bool) {c : Nat} (h : c ≤ 60) : bitsOf f c < 2 ^ 60 := Nat.lt_of_lt_of_le (bitsOf_lt f c) (Nat.pow_le_pow_right (by decide) h)
theorem sub_set {n set P : Nat} (hs : set < 2 ^ P) : (n &&& set = set) ↔ ∀ p, p < P → set.testBit p = true → n.testBit p = true := by
  constructor
  · intro h p hp hb
    have := congrArg (fun x => x.testBit p) h
    simp only [Nat.testBit_and, hb, Bool.and_true] at this
    exact this
  · intro h
    apply bits_ext
    intro q
    rw [Nat.testBit_and]
    by_cases g : q < P
    · cases hb : set.testBit q with
      | false => rw [Bool.and_false]
      | true => rw [h q g hb]; rfl
    · rw [bit_hi hs (by omega), Bool.and_false]
theorem c_openClocks {set : Nat} (hd : 1 ≤ d) (hX : rX w N K T Z) (hs : set < 2 ^ N 0 0) (hQ : QL (lN (bitsOf (opB T N set) (N 2 0))) w) : qCall (some s) d 99 [.ref 50, .int (nI set)] w (qQl QL) := by
  obtain ⟨d, rfl, hd1⟩ := dS hd
  have r := hX.n
  have o := hX.okn
  have oc := o.clk
  have o0 := o.p12
  have hs2 : set < 4096 := by have := p12 o0; omega
  refine A_Voices_openClocks ?_
  refine lpN (i := 0) (n := N 2 0) (P := fun i => qAt s d c_Voices_openClocks (qQl QL) 5 [some (.ref 50), some (.int (nI set)), some (.long (lN (bitsOf (opB T N set) i))), none, some (.int (nI i))] [] w) ?_ ?_ (Nat.zero_le _)
  · refine A_Voices_openClocks_5 ?_
    rw [r.clk]
    exact ⟨fun _ => hQ, fun g => absurd (Int32.le_refl _) g⟩
  · intro i hi ih
    obtain ⟨n, e1, e2, e3⟩ := hX.opn i hi
    refine A_Voices_openClocks_5 ?_
    have a1 : n &&& set < 4096 := Nat.lt_of_le_of_lt Nat.and_le_left e2
    rw [r.clk, nI_leI (by omega) (by omega), qIx_nI (by omega), e1, nI_and, nI_eq (by omega) (by omega), nI_1, show (1 : Int64) = lN 1 from rfl, qLshl_1 ⟨i, by omega⟩, lN_or]
    refine ⟨fun g => absurd g (by omega), fun _ => ⟨qIn_nI (by omega) (by decide), ?_⟩⟩
    have key : (n &&& set = set) ↔ opB T N set i = true := by
      rw [sub_set hs, opB_t]
      constructor
      · intro h p hp hb
        have := h p hp hb
        rw [e3 p hp] at this
        simpa using this
      · intro h p hp hb
        rw [e3 p hp, h p hp hb]; rfl
    unfold bitsOf at ih
    refine ⟨fun g => ?_, fun g => ?_⟩
    · rw [if_neg (fun q => g (key.mpr q)), Nat.or_zero] at ih; exact ih
    · rw [if_pos (key.mp g)] at ih; exact ih
/-- clocks within reach of the first ones -/
def rcB (S : vS) (set i c : Nat) : Bool := (List.range i).all (fun p => !set.testBit p || decide (((Nat.gcd (S 10 p) (S 2 0) : Nat) : Int) ∣ (c : Int) - (S 11 p : Int)))
theorem andn_bitsOf (g : Nat → Bool) (n j : Nat) : andn (bitsOf g n) (2 ^ j) = bitsOf (fun c => g c && !decide (c = j)) n := by
  apply bits_ext
  intro q
  rw [bit_andn_pow, bitsOf_bit, bitsOf_bit, Bool.and_assoc]
  congr 2
  have : decide (j = q) = decide (q = j) := by
    by_cases e : j = q
    · subst e; rfl
    · rw [decide_eq_false e, decide_eq_false (fun h => e h.symm)]
  rw [this]
theorem c_clocksInReach {set : Nat} (hd : 2 ≤ d) (hX : rX w N K T Z) (hs : set < 4096) (hQ : QL (lN (bitsOf (fun c => opB T N set c && rcB N set (N 0 0) c) (N 2 0))) w) : qCall (some s) d 112 [.ref 53, .int (nI set), .long (lN (bitsOf (opB T N set) (N 2 0)))] w (qQl QL) := by
  obtain ⟨d, rfl, hd1⟩ := dS hd
  have r := hX.n
  have o := hX.okn
  have oc := o.clk
  have o0 := o.p12
  refine A_Meetings_clocksInReach ?_
  have e0 : bitsOf (opB T N set) (N 2 0) = bitsOf (fun c => opB T N set c && rcB N set 0 c) (N 2 0) := bitsOf_congr (fun q _ => by show _ = (_ && true); rw [Bool.and_true])
  rw [e0]
  refine lpN (i := 0) (n := N 0 0) (P := fun i => qAt s d c_Meetings_clocksInReach (qQl QL) 6 [some (.ref 53), some (.int (nI set)), none, none, some (.long (lN (bitsOf (fun c => opB T N set c && rcB N set i c) (N 2 0)))), none, some (.int (nI i)), none, none, none] [] w) ?_ ?_ (Nat.zero_le _)
  · refine A_Meetings_clocksInReach_6 ?_
    rw [r.ppl]
    exact ⟨fun _ => hQ, fun g => absurd (Int32.le_refl _) g⟩
  · intro i hi ih
    have on := o.num i hi
    have of := o.fst i hi
    have rs : ∀ c, rcB N set (i + 1) c = (rcB N set i c && (!set.testBit i || decide (((Nat.gcd (N 10 i) (N 2 0) : Nat) : Int) ∣ (c : Int) - (N 11 i : Int)))) := fun c => all_succ _ i
    refine A_Meetings_clocksInReach_6 ?_
    rw [r.ppl, nI_leI (by omega) (by omega), nI_1, qIx_nI (by omega)]
    refine ⟨fun g => absurd g (by omega), fun _ => c_isOfB (by omega) (by omega) (fun g1 => b1 ⟨qIn_nI (by omega) (by decide), ?_⟩) (fun g1 => b0 ?_)⟩
    · rw [mem12_nI (by omega)] at g1
      rw [r.num i hi, r.clk, nI_l (by omega), nI_l (by omega)]
      refine c_gcd hd1 (by omega) (by omega) ?_
      have gb : 1 ≤ Nat.gcd (N 10 i) (N 2 0) ∧ Nat.gcd (N 10 i) (N 2 0) ≤ 60 := ⟨Nat.gcd_pos_of_pos_left _ on.1, Nat.le_trans (Nat.gcd_le_right _ oc.1) oc.2⟩
      have inner := lpN (i := 0) (n := N 2 0) (P := fun j => qAt s d c_Meetings_clocksInReach (qQl QL) 54 [some (.ref 53), some (.int (nI set)), none, none, some (.long (lN (bitsOf (fun c => opB T N set c && rcB N set i c && (!decide (c < j) || decide (((Nat.gcd (N 10 i) (N 2 0) : Nat) : Int) ∣ (c : Int) - (N 11 i : Int)))) (N 2 0)))), none, some (.int (nI i)), some (.long (lN (Nat.gcd (N 10 i) (N 2 0)))), none, some (.int (nI j))] [] w) ?_ ?_ (Nat.zero_le _)
      · have e : bitsOf (fun c => opB T N set c && rcB N set i c && (!decide (c < 0) || decide (((Nat.gcd (N 10 i) (N 2 0) : Nat) : Int) ∣ (c : Int) - (N 11 i : Int)))) (N 2 0) = bitsOf (fun c => opB T N set c && rcB N set i c) (N 2 0) := bitsOf_congr (fun q _ => by rw [decide_eq_false (Nat.not_lt_zero q)]; show (_ && true) = _; rw [Bool.and_true])
        rw [e] at inner
        exact inner
      · refine A_Meetings_clocksInReach_54 ?_
        rw [r.clk, nI_1]
        refine ⟨fun _ => ?_, fun g => absurd (Int32.le_refl _) g⟩
        have e : bitsOf (fun c => opB T N set c && rcB N set i c && (!decide (c < N 2 0) || decide (((Nat.gcd (N 10 i) (N 2 0) : Nat) : Int) ∣ (c : Int) - (N 11 i : Int)))) (N 2 0) = bitsOf (fun c => opB T N set c && rcB N set (i + 1) c) (N 2 0) := bitsOf_congr (fun q hq => by rw [decide_eq_true hq, rs, g1, Bool.and_assoc])
        rw [e]
        exact ih
      · intro j hj ihj
        refine A_Meetings_clocksInReach_54 ?_
        rw [r.clk, nI_leI (by omega) (by omega), qIx_nI (by omega), r.fst i hi, rem0 (by omega) (by omega) gb.1 (by omega), nI_1 i, nI_1 j, eqL0 (by omega), show (1 : Int64) = lN 1 from rfl, qLshl_1 ⟨j, by omega⟩, lN_andn, andn_bitsOf]
        refine ⟨fun g => absurd g (by omega), fun _ => ⟨qIn_nI (by omega) (by decide), by omega, fun g => ?_, fun g => ?_⟩⟩
        · have e : bitsOf (fun c => opB T N set c && rcB N set i c && (!decide (c < j + 1) || decide (((Nat.gcd (N 10 i) (N 2 0) : Nat) : Int) ∣ (c : Int) - (N 11 i : Int)))) (N 2 0) = bitsOf (fun c => opB T N set c && rcB N set i c && (!decide (c < j) || decide (((Nat.gcd (N 10 i) (N 2 0) : Nat) : Int) ∣ (c : Int) - (N 11 i : Int)))) (N 2 0) := bitsOf_congr (fun q hq => by
            by_cases e : q = j
            · subst e; rw [decide_eq_true g, Bool.or_true, Bool.or_true]
            · have : decide (q < j + 1) = decide (q < j) := by
                by_cases h : q < j
                · rw [decide_eq_true h, decide_eq_true (by omega)]
                · rw [decide_eq_false h, decide_eq_false (by omega)]
              rw [this])
          rw [e] at ihj
          exact ihj
        · have e : bitsOf (fun c => opB T N set c && rcB N set i c && (!decide (c < j + 1) || decide (((Nat.gcd (N 10 i) (N 2 0) : Nat) : Int) ∣ (c : Int) - (N 11 i : Int)))) (N 2 0) = bitsOf (fun c => opB T N set c && rcB N set i c && (!decide (c < j) || decide (((Nat.gcd (N 10 i) (N 2 0) : Nat) : Int) ∣ (c : Int) - (N 11 i : Int))) && !decide (c = j)) (N 2 0) := bitsOf_congr (fun q hq => by
            by_cases e : q = j
            · subst e; rw [decide_eq_false g, decide_eq_true (Nat.lt_succ_self q), decide_eq_true rfl]; simp
            · have : decide (q < j + 1) = decide (q < j) := by
                by_cases h : q < j
                · rw [decide_eq_true h, decide_eq_true (by omega)]
                · rw [decide_eq_false h, decide_eq_false (by omega)]
              rw [this, decide_eq_false e]; simp)
          rw [e] at ihj
          exact ihj
    · rw [mem12_nI (by omega)] at g1
      have e : bitsOf (fun c => opB T N set c && rcB N set (i + 1) c) (N 2 0) = bitsOf (fun c => opB T N set c && rcB N set i c) (N 2 0) := bitsOf_congr (fun q _ => by rw [rs, g1]; show (_ && (_ && true)) = _; rw [Bool.and_true])
      rw [e] at ih
      exact ih
theorem rX.m53 {w' : qW} (h : rX w N K T Z) (f : fr (fun c => c = 53 ∨ c = 54) w w') : rX w' N K T Z := h.keep f (fun c => ⟨fun _ _ => by omega, by omega⟩)
theorem c_gather {set : Nat} (hd : 4 ≤ d) (hX : rX w N K T Z) (hs : set < 4096) (hp : paF N set = none) (hQ : ∀ w', fr (fun c => c = 53) w w' → ((w'.1 53 4 = nI 1 ∧ ∀ x, x ≤ tLast → ¬ slv (memK N set (N 0 0)) x) ∨ (w'.1 53 4 = nI 0 ∧ ∃ st sp, cst w' st sp ∧ jv (memK N set (N 0 0)) st sp)) → R w') : qCall (some s) d 113 [.ref 53, .int (nI set)] w (qQv R) := by
  obtain ⟨d, rfl, hd1⟩ := dS hd
  have o := hX.okn
  have o0 := o.p12
  refine A_Meetings_gather ?_
  refine lpU (i := 0) (n := N 0 0) (I := fun i w2 => fr (fun c => c = 53) w w2 ∧ ((w2.1 53 4 = nI 1 ∧ ∀ x, x ≤ tLast → ¬ slv (memK N set i) x) ∨ (w2.1 53 4 = nI 0 ∧ ∃ st sp, cst w2 st sp ∧ jv (memK N set i) st sp))) (P := fun i w2 => qAt s d c_Meetings_gather (qQv R) 17 [some (.ref 53), some (.int (nI set)), some (.int (nI i))] [] w2) ?_ ?_ (Nat.zero_le _) ?_
  · intro w2 ⟨f, h⟩
    have r := (hX.m53 (fr_wk f (fun c hc => Or.inl hc))).n
    refine A_Meetings_gather_17 ?_
    rw [r.ppl]
    exact ⟨fun _ => hQ w2 f h, fun g => absurd (Int32.le_refl _) g⟩
  · intro i w2 hi ⟨f, h⟩ ih
    have hX2 := hX.m53 (fr_wk f (fun c hc => Or.inl hc))
    have r := hX2.n
    refine A_Meetings_gather_17 ?_
    rw [r.ppl, nI_leI (by omega) (by omega), nI_1, qIx_nI (by omega)]
    refine ⟨fun g => absurd g (by omega), fun _ => ?_⟩
    rcases h with ⟨h1, h2⟩ | ⟨h1, st, sp, h2, h3⟩
    · rw [h1]
      refine ⟨fun _ => hQ w2 f (Or.inl ⟨h1, fun x hx hs => h2 x hx (slv_mem.mpr fun j hj hb => slv_mem.mp hs j (by omega) hb)⟩), fun q => absurd q (by decide)⟩
    · rw [h1]
      refine ⟨fun q => absurd rfl q, fun _ => c_isOfB (by omega) (by omega) (fun g1 => b1 ⟨qIn_nI (by omega) (by decide), qIn_nI (by omega) (by decide), ?_⟩) (fun g1 => b0 (ih w2 ⟨f, Or.inr ⟨h1, st, sp, h2, ?_⟩⟩))⟩
      · rw [mem12_nI (by omega)] at g1
        have on := o.num i hi
        rw [r.num i hi, r.fst i hi]
        refine c_join hd1 h2 h3 h1 (o.fst i hi) on.1 on.2 (mem_comp o hp hi g1) ?_
        intro w3 f3 h4
        refine ih w3 ⟨fr_tr f f3, ?_⟩
        have em : memK N set (i + 1) = memK N set i ++ [(N 11 i, N 10 i)] := by show (if set.testBit i then _ else _) = _; rw [if_pos g1]
        rw [em]
        exact h4
      · rw [mem12_nI (by omega)] at g1
        have em : memK N set (i + 1) = memK N set i := by show (if set.testBit i then _ else _) = _; rw [if_neg (by rw [g1]; decide)]
        rw [em]
        exact h3
  · refine ⟨fr_I (fr_L (fr_pL rfl) rfl) rfl, Or.inr ⟨by rw [pI_e]; rfl, 0, 1, ⟨?_, ?_, Or.inl (by rw [tL]; omega)⟩, jv_nil⟩⟩
    · rw [pI_L, pL_f (by decide), pL_e]; rfl
    · rw [pI_L, pL_e]; rfl
theorem c_maxL {a b : Nat} (hd : 1 ≤ d) (ha : a < 2 ^ 63) (hb : b < 2 ^ 63) (hQ : QL (lN (max a b)) w) : qCall (some s) d 25 [.long (lN a), .long (lN b)] w (qQl QL) := by
  obtain ⟨d, rfl, -⟩ := dS hd
  refine A_Math_max2 ?_
  simp (disch := omega) only [li, ll, nI_add, nI_mul', nI_sub', nI_div', qRem_nI, lN_add, lN_mul, lN_sub, lN_div', qRemL_lN, qIn_I, qIx_nI, nI_ltI, nI_leI, nI_eq, nI_eqn, nI_eqn', nI_len, nI_ltn, nI_nle', nI_nlt', lN_eqn, lg_lt, lg_gt, lg_eq, lg_le, lg_ge, lgn_lt, lgn_gt, lgn_eq, lgn_le, lgn_ge, pk_lLT, pk_lLE, pk_lEQ, nI_l, lN_i, qShl_n, nI_and, nI_or, lN_and, lN_or, nI_andn, lN_andn, pI_e, pI_f, pI_c, pL_e, pL_f, pL_c, pI_L, pL_I, qB_1, qZb_n, true_and, and_true, forall_const, not_true_eq_false, not_false_eq_true, Nat.reduceLT, Nat.reduceLeDiff, Nat.reduceEqDiff, Nat.reduceAdd, Nat.reduceMul, Nat.reduceSub, Nat.reduceMod, Nat.reduceDiv, false_implies, implies_true]
  refine ⟨fun g => ?_, fun g => ?_⟩
  · first
    | (rw [Nat.max_eq_right (by omega)] at hQ; exact hQ)
    | (rw [Nat.max_eq_left (by omega)] at hQ; exact hQ)
  · first
    | (rw [Nat.max_eq_left (by omega)] at hQ; exact hQ)
    | (rw [Nat.max_eq_right (by omega)] at hQ; exact hQ)
end Clocks
