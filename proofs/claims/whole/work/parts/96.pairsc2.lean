/-! pairs: the class's call. -/
section PairsC2
variable {s : Nat × (Nat → Int32)} {d : Nat} {w : qW} {Q : Int32 → qW → Prop} {R : qW → Prop} {N S K : vS} {T : Nat → vT} {Z : vZ}
theorem c_bcAny {a : Int32} (hd : 1 ≤ d) (h : ∀ x, (∀ n, n < 4096 → a = nI n → x = nI (cntB n)) → Q x w) : qCall (some s) d 103 [.int a] w (qQi Q) := by
  obtain ⟨d, rfl, -⟩ := dS hd
  refine A_Integer_bitCount ?_
  refine h _ (fun n hn e => ?_)
  subst e
  exact of_decide_eq_true (all4096 bc_all hn)
def paB (c : Nat) : Prop := c = 53 ∨ c = 54 ∨ c = 66 ∨ c = 67 ∨ c = 68 ∨ c = 69
theorem rX.pa {w' : qW} (h : rX w N K T Z) (f : fr paB w w') : rX w' N K T Z := h.keep f (fun c => ⟨fun _ _ => by unfold paB; omega, by unfold paB; omega⟩)
theorem pC_le (T : Nat → vT) (N : vS) {n : Nat} (hn : n ≤ 100000) (i j : Nat) : pC T N n i j ≤ 100000 := Nat.le_trans (tgF_le _ _ _ _ _) hn
theorem pair_in {set P i j : Nat} (hs : set < 2 ^ P) (hi : set.testBit i = true) (hj : set.testBit j = true) : 0 < 2 ^ i ||| 2 ^ j ∧ 2 ^ i ||| 2 ^ j < 2 ^ P := by
  have b : ∀ x, set.testBit x = true → x < P := fun x hx => by
    rcases Nat.lt_or_ge x P with g | g
    · exact g
    · rw [Nat.testBit_lt_two_pow (Nat.lt_of_lt_of_le hs (Nat.pow_le_pow_right (by decide) g))] at hx
      exact Bool.noConfusion hx
  refine ⟨?_, Nat.or_lt_two_pow (Nat.pow_lt_pow_right (by decide) (b i hi)) (Nat.pow_lt_pow_right (by decide) (b j hj))⟩
  rcases Nat.eq_zero_or_pos (2 ^ i ||| 2 ^ j) with e | e
  · have := congrArg (fun n => n.testBit i) e
    simp only [pair_bit, decide_true, Bool.true_or, Nat.zero_testBit] at this
    exact Bool.noConfusion this
  · exact e
theorem c_pairUp {set n k : Nat} (hd : 9 ≤ d) (hX : rX w N K T Z) (hs : set < 2 ^ N 0 0) (hn : 1 ≤ n ∧ n ≤ 100000) (hc : cntB set = 2 * k) (hk : k ≤ 4) (hQ : ∀ w', fr paB w w' → w'.1 66 0 = iZ (bV (pC T N n) k set).1 → (∀ x, x < 12 → set.testBit x = true → w'.1 67 x = nI (dpW (pC T N n) k set x)) → R w') : qCall (some s) d 195 [.ref 66, .int (nI set), .int (nI n)] w (qQv R) := by
  obtain ⟨d, rfl, hd1⟩ := dS hd
  have o0 := hX.okn.p12
  have hp := p12 o0
  have hC := pC_le T N hn.2
  have hL := tL
  refine A_Couples_pairUp ?_
  refine lpU (i := 0) (n := 12) (I := fun i w' => fr paB w w' ∧ ∀ a b, a < b → b < 12 → set.testBit a = true → set.testBit b = true → a < i → w'.1 69 (12 * a + b) = nI (pC T N n a b)) (P := fun i w' => qAt s d c_Couples_pairUp (qQv R) 2 [some (.ref 66), some (.int (nI set)), some (.int (nI n)), some (.int (nI i)), none] [] w') ?_ ?_ (Nat.zero_le _) ⟨fr_rf _ _, fun a b _ _ _ _ h => absurd h (Nat.not_lt_zero _)⟩
  · intro w1 ⟨f1, h1⟩
    refine A_Couples_pairUp_2 ⟨fun _ => ?_, fun g => absurd (by decide) g⟩
    have nn := bV_b hC (k := k) (L := set) (by omega) hc
    refine c_tryAll (C := pC T N n) hC set k set 0 0 d (qPutI w1 66 0 (-1)) (-1) (by omega) (by omega) hc (fun _ h => h) (by omega) (by omega) (fun i j hij hj bi bj => ?_) (by rw [pI_e]; rfl) (by omega) (by omega) ?_
    · rw [pI_c (by decide)]; exact h1 i j hij hj bi bj (by omega)
    · intro w2 f2 k1 _ k3 _
      have lt : (-1 : Int) < (0 : Nat) + (bV (pC T N n) k set).1 := by omega
      rw [if_pos lt] at k1
      refine hQ w2 (fr_tr (fr_I f1 (by unfold paB; omega)) (fr_wk f2 (fun c hc => by unfold paA at hc; unfold paB; omega))) ?_ (fun x hx hb => ?_)
      · rw [k1]; congr 1; omega
      · rw [k3 lt x hx, if_pos hb]
  · intro i w1 hi ⟨f1, h1⟩ nxt
    refine A_Couples_pairUp_2 ?_
    rw [show (12 : Int32) = nI 12 from rfl, nI_leI (by omega) (by omega), nI_1]
    refine ⟨fun g => by omega, fun _ => ?_⟩
    refine lpU (i := i + 1) (n := 12) (I := fun j w' => i < j ∧ fr paB w w' ∧ ∀ a b, a < b → b < 12 → set.testBit a = true → set.testBit b = true → (a < i ∨ (a = i ∧ b < j)) → w'.1 69 (12 * a + b) = nI (pC T N n a b)) (P := fun j w' => qAt s d c_Couples_pairUp (qQv R) 13 [some (.ref 66), some (.int (nI set)), some (.int (nI n)), some (.int (nI i)), some (.int (nI j))] [] w') ?_ ?_ (by omega) ⟨by omega, f1, fun a b hab hb ba bb h => h1 a b hab hb ba bb (by omega)⟩
    · intro w2 ⟨_, f2, h2⟩
      refine A_Couples_pairUp_13 ⟨fun _ => ?_, fun g => absurd (by decide) g⟩
      rw [nI_1]
      exact nxt w2 ⟨f2, fun a b hab hb ba bb h => h2 a b hab hb ba bb (by omega)⟩
    · intro j w2 hj ⟨hij, f2, h2⟩ nxt2
      refine A_Couples_pairUp_13 ?_
      rw [show (12 : Int32) = nI 12 from rfl, nI_leI (by omega) (by omega), nI_1 j]
      have skip : (set.testBit i = false ∨ set.testBit j = false) → qAt s d c_Couples_pairUp (qQv R) 13 [some (.ref 66), some (.int (nI set)), some (.int (nI n)), some (.int (nI i)), some (.int (nI (j + 1)))] [] w2 := by
        intro q
        refine nxt2 w2 ⟨by omega, f2, fun a b hab hb ba bb h => h2 a b hab hb ba bb ?_⟩
        rcases Nat.lt_or_ge a i with g | g
        · exact Or.inl g
        · have e : a = i := by omega
          by_cases e2 : b = j
          · subst e e2
            rcases q with q | q
            · rw [q] at ba; exact Bool.noConfusion ba
            · rw [q] at bb; exact Bool.noConfusion bb
          · omega
      refine ⟨fun g => by omega, fun _ => c_isOfB (by omega) (by omega) (fun g => b1 (c_isOfB (by omega) (by omega) (fun g2 => b1 ?_) (fun g2 => b0 (skip ?_)))) (fun g => b0 (skip ?_))⟩
      · rw [mem12_nI (by omega)] at g
        rw [mem12_nI (by omega)] at g2
        have e1 : ∀ i, i < 12 → qShl (1 : Int32) (nI i) = nI (2 ^ i) := fun i hi => qShl_n (i := i) (by omega)
        have pin := pair_in hs g g2
        rw [e1 i hi, e1 j hj, nI_or, show (nI n - (1 : Int32)) = nI n - nI 1 from rfl, nI_sub' (by omega), nI_l (by omega), show n - 1 = 0 + n - 1 by omega]
        refine c_countOf (set := 2 ^ i ||| 2 ^ j) (h := 0) (n := n) (by omega) (hX.pa f2) pin.1 pin.2 hn.1 (by omega) (fun w3 f3 => ?_)
        · rw [nI_mul', nI_add, qIx_nI (by omega), lN_i]
          refine ⟨qIn_nI (by omega) (by decide), nxt2 _ ⟨by omega, fr_I (fr_tr f2 (fr_wk f3 (fun c hc => by unfold paB; omega))) (by unfold paB; omega), fun a b hab hb ba bb h => ?_⟩⟩
          by_cases e : 12 * a + b = 12 * i + j
          · have ea : a = i := by omega
            have eb : b = j := by omega
            subst ea eb
            rw [pI_e]; rfl
          · rw [pI_f e, (f3 69 (by omega)).1]
            exact h2 a b hab hb ba bb (by omega)
      · rw [mem12_nI (by omega)] at g2; exact Or.inr g2
      · rw [mem12_nI (by omega)] at g; exact Or.inl g
theorem c_pairs {set n who : Int32} (hd : 10 ≤ d) (hX : rX w N K T Z) (hy : ∀ w', vPa N set n who → rX w' N K T Z → fr (fun c => c < 72) w w' → Q (fPa T N set n who) w') (hn : ¬ vPa N set n who → Q (-1) w) : qCall (some s) d 194 [.ref 1, .int set, .int n, .int who] w (qQi Q) := by
  obtain ⟨d, rfl, hd1⟩ := dS hd
  have o0 := hX.okn.p12
  have hp := p12 o0
  refine A_X_pairs (c_bcAny (by omega) (fun x hx => c_isSet (by omega) hX.n.ppl o0 (fun g1 => b1 ?_) (fun g => b0 (hn (fun q => g q.1)))))
  obtain ⟨L, h1, h2, h3, e, e2⟩ := vSet_x o0 g1
  rw [hx L h3 e]
  have cl := cntB_le L
  unfold vPa at hn
  unfold fPa at hy
  rw [e2] at hn hy
  have vp : (vSet (N 0 0) set ∧ cntB L ≤ 8 ∧ cntB L % 2 = 0 ∧ (1 ≤ n ∧ n ≤ 100000) ∧ (who = -1 ∨ mem12 who L = true)) → vPa N set n who := fun q => by unfold vPa; rw [e2]; exact q
  have hz := fun w' q => hy w' (vp q)
  subst e
  rw [show (8 : Int32) = nI 8 from rfl, nI_ltI (by omega) (by omega), show (2 : Int32) = nI 2 from rfl, qRem_nI (by omega) (by omega) (by omega), eq0 (a := cntB L % 2) (by omega)]
  refine ⟨fun g => hn (fun q => by have := q.2.1; omega), fun g2 => ⟨by decide, fun g => hn (fun q => g q.2.2.1), fun g3 => ⟨fun g => hn (fun q => absurd g (Int32.not_lt.mpr q.2.2.2.1.1)), fun g4 => ⟨fun g => hn (fun q => absurd g (Int32.not_lt.mpr q.2.2.2.1.2)), fun g5 => ?_⟩⟩⟩⟩
  have gn : 1 ≤ n ∧ n ≤ 100000 := ⟨Int32.not_lt.mp g4, Int32.not_lt.mp g5⟩
  refine c_isOfOrNone (by omega) (by omega) (fun g6 => n1 ?_) (fun g => n0 (hn (fun q => g q.2.2.2.2)))
  obtain ⟨m, hm1, hm2, em, em2⟩ := nI_rng 1 100000 gn.1 gn.2
  rw [em2] at hz
  have hzz := fun w' => hz w' ⟨g1, by omega, g3, gn, g6⟩
  subst em
  refine c_pairUp (k := cntB L / 2) (by omega) hX h2 ⟨hm1, hm2⟩ (by omega) (by omega) (fun w2 f2 k1 k2 => ?_)
  have hX2 := hX.pa f2
  have hz2 := hzz w2 hX2 (fr_wk f2 (fun c hc => by unfold paB at hc; omega))
  refine ⟨fun g => ?_, fun g => ?_⟩
  · rw [if_neg g] at hz2
    rcases g6 with g6 | g6
    · exact absurd g6 g
    · obtain ⟨j, hj, ej, ej2, bj⟩ := mem12_x g6
      rw [ej2] at hz2 ⊢
      rw [k2 j hj bj]
      exact ⟨by rw [ej]; exact qIn_nI hj (by decide), hz2⟩
  · rw [if_pos g] at hz2
    rw [k1]; exact hz2
end PairsC2
