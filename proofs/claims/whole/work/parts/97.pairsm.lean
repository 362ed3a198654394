/-! pairs: the reference. -/
section PairsM
variable {s : Nat × (Nat → Int32)} {d : Nat} {w : qW} {Q : Int32 → qW → Prop} {QL : Int64 → qW → Prop} {R : qW → Prop} {N S K : vS} {T : Nat → vT} {Z : vZ} {C : Nat → Nat → Nat}
theorem scn_stop {f : Nat → Int} {g : Nat → Bool} {m : Nat} : ∀ {n : Nat}, (∀ j, m ≤ j → g j = false) → scn f g (m + n) = scn f g m
  | 0, _ => rfl
  | n + 1, h => by
    have := scn_n (f := f) (g := g) (m := m + n) (fun q => by rw [h (m + n) (by omega)] at q; exact Bool.noConfusion q.1)
    rw [← Nat.add_assoc, this]
    exact scn_stop h
theorem bit_P {L P j : Nat} (hs : L < 2 ^ P) (h : L.testBit j = true) : j < P := by
  rcases Nat.lt_or_ge j P with g | g
  · exact g
  · rw [Nat.testBit_lt_two_pow (Nat.lt_of_lt_of_le hs (Nat.pow_le_pow_right (by decide) g))] at h
    exact Bool.noConfusion h
theorem m_pairUp (hC : ∀ i j, C i j ≤ 100000) {M k : Nat} (hd : 3 ≤ d) (hR : rQ w N K T Z N) (hM : M < 2 ^ N 0 0) (hc : cntB M = 2 * (k + 1)) (h99 : ∀ a b, a < b → b < 12 → M.testBit a = true → M.testBit b = true → w.2.1 99 (12 * a + b) = lN (C a b)) (h97 : ∀ j, j < 12 → pG M j = true → w.2.1 97 (cut M (lowB M) j) = lZ (bV C k (cut M (lowB M) j)).1) (hQ : ∀ w', fr (fun c => c = 97 ∨ c = 98) w w' → w'.2.1 97 M = lZ (bV C (k + 1) M).1 → w'.1 98 M = nI (bV C (k + 1) M).2 → (∀ x, ¬ x = M → w'.2.1 97 x = w.2.1 97 x ∧ w'.1 98 x = w.1 98 x) → R w') : qCall (some s) d 324 [.ref 72, .int (nI M)] w (qQv R) := by
  obtain ⟨d, rfl, hd1⟩ := dS hd
  have o0 := hR.ok.p12
  have hp := p12 o0
  have Mp := cnt_pos hc
  have l := lowB_spec Mp (by omega)
  have lP := bit_P hM l.2.1
  have nn := bV_b hC (L := M) (by omega) hc
  refine A_Mo_pairUp (m_lowest (by omega) Mp (by omega) ⟨qIn_nI (by omega) (by decide), ?_⟩)
  rw [nI_1, qIx_nI (by omega)]
  have e12 : scn (pF C k M) (pG M) (N 0 0) = bV C (k + 1) M := by
    have := scn_stop (f := pF C k M) (g := pG M) (m := N 0 0) (n := 12 - N 0 0) (fun j hj => by
      unfold pG
      rw [Nat.testBit_lt_two_pow (Nat.lt_of_lt_of_le hM (Nat.pow_le_pow_right (by decide) hj)), Bool.and_false])
    rw [show N 0 0 + (12 - N 0 0) = 12 by omega] at this
    rw [bV_s, this]
  refine lpU (i := lowB M + 1) (n := N 0 0) (I := fun j w' => lowB M < j ∧ fr (fun c => c = 97 ∨ c = 98) w w' ∧ w'.2.1 97 M = lZ (scn (pF C k M) (pG M) j).1 ∧ (0 ≤ (scn (pF C k M) (pG M) j).1 → w'.1 98 M = nI (scn (pF C k M) (pG M) j).2) ∧ (∀ x, ¬ x = M → w'.2.1 97 x = w.2.1 97 x ∧ w'.1 98 x = w.1 98 x)) (P := fun j w' => qAt s d c_Mo_pairUp (qQv R) 18 [some (.ref 72), some (.int (nI M)), some (.int (nI (lowB M))), some (.int (nI j)), none, none] [] w') ?_ ?_ (by omega) ?_
  · intro w' ⟨_, f, h1, h2, h3⟩
    have hR' := hR.hi f (fun c hc => by omega)
    rw [e12] at h1 h2
    refine A_Mo_pairUp_18 ⟨qIn_nI (j := 0) (by decide) (by decide), ?_⟩
    rw [qIx_0, hR'.ppl, nI_leI (by omega) (by omega)]
    exact ⟨fun _ => hQ w' f h1 (h2 nn.1) h3, fun g => absurd (Nat.le_refl _) g⟩
  · intro j w1 hj ⟨hl, f1, h1, h2, h3⟩ nxt
    have hR1 := hR.hi f1 (fun c hc => by omega)
    refine A_Mo_pairUp_18 ⟨qIn_nI (j := 0) (by decide) (by decide), ?_⟩
    rw [qIx_0, hR1.ppl, nI_leI (by omega) (by omega), nI_1 j]
    refine ⟨fun g => by omega, fun _ => m_has (by omega) (by omega) (by omega) (fun g => n1 ?_) (fun g => n0 (nxt w1 ?_))⟩
    · have hg : pG M j = true := by unfold pG; rw [g, decide_eq_true hl]; rfl
      have e1 : ∀ i, i < 12 → qShl (1 : Int32) (nI i) = nI (2 ^ i) := fun i hi => qShl_n (i := i) (by omega)
      have cl := cut_lt (i := lowB M) (j := j) (show M < 4096 by omega)
      have cc := cut_c (show M < 4096 by omega) l.1 (show j < 12 by omega) (by omega) l.2.1 g hc
      have cb := bV_b hC cl cc
      have cne : ¬ cut M (lowB M) j = M := fun q => by
        rw [q] at cc; omega
      have cC := hC (lowB M) j
      rw [e1 _ l.1, e1 j (by omega), show (-1 : Int32) = -(nI 1) from rfl, nI_andn, nI_andn, ← cut_2, show (12 : Int32) = nI 12 from rfl, nI_mul', nI_add, qIx_nI (by omega), qIx_nI (by omega), qIx_nI (by omega), (f1 99 (by omega)).2, h99 _ _ hl (by omega) l.2.1 g, (h3 _ cne).1, h97 j (by omega) hg, h1, lN_Z, lZ_add]
      have pe : (C (lowB M) j : Int) + (bV C k (cut M (lowB M) j)).1 = pF C k M j := rfl
      have ub : (-1 : Int) ≤ (scn (pF C k M) (pG M) j).1 ∧ (scn (pF C k M) (pG M) j).1 ≤ 100000 * (k + 1) := by
        rcases scn_c (f := pF C k M) (g := pG M) (m := j) with q | ⟨q1, q2, q3⟩
        · rw [q]; show (-1 : Int) ≤ -1 ∧ (-1 : Int) ≤ _; omega
        · have x := pG_x q2
          have y := bV_b hC (cut_lt (i := lowB M) (j := (scn (pF C k M) (pG M) j).2) (show M < 4096 by omega)) (cut_c (show M < 4096 by omega) l.1 (by omega) (by omega) l.2.1 x.2 hc)
          have z := hC (lowB M) (scn (pF C k M) (pG M) j).2
          have pe : ∀ y, pF C k M y = (C (lowB M) y : Int) + (bV C k (cut M (lowB M) y)).1 := fun _ => rfl
          rw [q3, pe]
          omega
      have kb : k ≤ 12 := by have := cntB_le M; omega
      rw [lg_gt, lZ_lt (by omega) (by omega), pe]
      refine ⟨qIn_nI (by omega) (by decide), qIn_nI (by omega) (by decide), qIn_nI (by omega) (by decide), fun q => ⟨qIn_nI (by omega) (by decide), qIn_nI (by omega) (by decide), nxt _ ?_⟩, fun q => nxt w1 ?_⟩
      · rw [scn_y ⟨hg, q⟩]
        refine ⟨by omega, fr_I (fr_L f1 (Or.inl rfl)) (Or.inr rfl), ?_, fun _ => ?_, fun x hx => ⟨?_, ?_⟩⟩
        · rw [pI_L, pL_e]
        · rw [pI_e]
        · rw [pI_L, pL_f hx]; exact (h3 x hx).1
        · rw [pI_f hx, pL_I]; exact (h3 x hx).2
      · rw [scn_n (fun x => q x.2)]
        exact ⟨by omega, f1, h1, h2, h3⟩
    · have hg : pG M j = false := by unfold pG; rw [g, Bool.and_false]
      rw [scn_n (fun x => by rw [hg] at x; exact Bool.noConfusion x.1)]
      exact ⟨by omega, f1, h1, h2, h3⟩
  · have so : scn (pF C k M) (pG M) (lowB M + 1) = (-1, 0) := scn_o (fun j hj => by unfold pG; rw [decide_eq_false (by omega)]; rfl)
    rw [so]
    refine ⟨Nat.lt_succ_self _, fr_pL (Or.inl rfl), by rw [pL_e]; rfl, fun q => absurd q (by decide), fun x hx => ⟨by rw [pL_f hx], rfl⟩⟩
/-- the rows of the best, below m -/
def pT (C : Nat → Nat → Nat) (w : qW) (set m : Nat) : Prop := ∀ M k, M < m → (∀ x, M.testBit x = true → set.testBit x = true) → cntB M = 2 * k → w.2.1 97 M = lZ (bV C k M).1 ∧ (1 ≤ k → w.1 98 M = nI (bV C k M).2)
theorem m_walk (hC : ∀ i j, C i j ≤ 100000) {set who : Nat} (hs : set < 4096) (hw : who < 12) (hT : pT C w set (set + 1)) (hd : 2 ≤ d) : ∀ k L, (∀ x, L.testBit x = true → set.testBit x = true) → L ≤ set → cntB L = 2 * k → L.testBit who = true → Q (nI (dpW C k L who)) w → qAt s d c_Mo_pairs (qQi Q) 83 [some (.ref 72), none, none, some (.int (nI who)), none, none, some (.int (nI L)), none, none] [] w := by
  intro k
  induction k with
  | zero =>
    intro L _ hL hc hb _
    have := cnt0 (show L < 4096 by omega) hc
    subst this
    rw [Nat.zero_testBit] at hb; exact Bool.noConfusion hb
  | succ k ih =>
    intro L sub hL hc hb hQ
    have Lp := cnt_pos hc
    have l := lowB_spec Lp (by omega)
    have bp := bV_p hC (show L < 4096 by omega) hc
    have bx := pG_x bp.2
    have t := (hT L (k + 1) (by omega) sub hc).2 (by omega)
    have e1 : ∀ i, i < 12 → qShl (1 : Int32) (nI i) = nI (2 ^ i) := fun i hi => qShl_n (i := i) (by omega)
    refine A_Mo_pairs_83 (m_lowest (by omega) Lp (by omega) ⟨qIn_nI (by omega) (by decide), ?_⟩)
    rw [qIx_nI (by omega), t, e1 _ l.1, e1 _ bp.1, show (-1 : Int32) = -(nI 1) from rfl, nI_andn, nI_andn, ← cut_2, nI_eq (by omega) (by omega), nI_eq (by omega) (by omega)]
    have hQ : Q (nI (dpO (dpW C k) L (bV C (k + 1) L).2 who)) w := hQ
    unfold dpO at hQ
    refine ⟨fun g => ⟨fun g2 => absurd g g2, fun _ => ?_⟩, fun g => ⟨fun g2 => ?_, fun g2 => ⟨fun _ => ?_, fun g3 => absurd g3 g⟩⟩⟩
    · rw [if_pos g.symm] at hQ; exact hQ
    · rw [if_neg (fun q => g q.symm), if_neg (fun q => g2 q.symm)] at hQ
      have cc := cut_c (show L < 4096 by omega) l.1 bp.1 (by omega) l.2.1 bx.2 hc
      refine ih _ (fun x hx => ?_) ?_ cc ?_ hQ
      · rw [cut_bit, Bool.and_eq_true] at hx; exact sub x hx.1
      · have e : L &&& cut L (lowB L) (bV C (k + 1) L).2 = cut L (lowB L) (bV C (k + 1) L).2 := by
          apply Nat.eq_of_testBit_eq
          intro b
          rw [Nat.testBit_and, cut_bit]
          cases L.testBit b <;> rfl
        have := Nat.and_le_left (n := L) (m := cut L (lowB L) (bV C (k + 1) L).2)
        rw [e] at this
        omega
      · rw [cut_bit, hb, decide_eq_false g, decide_eq_false g2]; rfl
    · rw [if_neg (fun q => g q.symm), if_pos g2.symm] at hQ; exact hQ
theorem m_pairsOf {set n k : Nat} (hd : 6 ≤ d) (hR : rQ w N K T Z N) (hs : set < 2 ^ N 0 0) (h0 : 0 < set) (hn : 1 ≤ n ∧ n ≤ 100000) (hc : cntB set = 2 * k) (hQ : ∀ w', rQ w' N K T Z N → fr (fun c => 72 ≤ c) w w' → pT (pC T N n) w' set (set + 1) → QL (lZ (bV (pC T N n) k set).1) w') : qCall (some s) d 323 [.ref 72, .int (nI set), .int (nI n)] w (qQl QL) := by
  obtain ⟨d, rfl, hd1⟩ := dS hd
  have o0 := hR.ok.p12
  have hp := p12 o0
  have hC := pC_le T N hn.2
  have hL := tL
  refine A_Mo_pairsOf ?_
  refine lpU (i := 0) (n := N 0 0) (I := fun i w' => rQ w' N K T Z N ∧ fr (fun c => 72 ≤ c) w w' ∧ ∀ a b, a < b → b < 12 → set.testBit a = true → set.testBit b = true → a < i → w'.2.1 99 (12 * a + b) = lN (pC T N n a b)) (P := fun i w' => qAt s d c_Mo_pairsOf (qQl QL) 2 [some (.ref 72), some (.int (nI set)), some (.int (nI n)), some (.int (nI i)), none] [] w') ?_ ?_ (Nat.zero_le _) ⟨hR, fr_rf _ _, fun a b _ _ _ _ h => absurd h (Nat.not_lt_zero _)⟩
  · intro w1 ⟨r1, f1, h1⟩
    refine A_Mo_pairsOf_2 ⟨qIn_nI (j := 0) (by decide) (by decide), ?_⟩
    rw [qIx_0, r1.ppl, nI_leI (by omega) (by omega)]
    refine ⟨fun _ => ⟨qIn_nI (j := 0) (by decide) (by decide), ?_⟩, fun g => absurd (Nat.le_refl _) g⟩
    refine lpU (i := 1) (n := set + 1) (I := fun m w' => 1 ≤ m ∧ rQ w' N K T Z N ∧ fr (fun c => 72 ≤ c) w w' ∧ w'.2.1 99 = w1.2.1 99 ∧ pT (pC T N n) w' set m) (P := fun m w' => qAt s d c_Mo_pairsOf (qQl QL) 97 [some (.ref 72), some (.int (nI set)), none, some (.int (nI m)), none] [] w') ?_ ?_ (by omega) ?_
    · intro w2 ⟨_, r2, f2, _, t2⟩
      refine A_Mo_pairsOf_97 ?_
      rw [nI_ltI (by omega) (by omega), qIx_nI (by omega), (t2 set k (by omega) (fun _ h => h) hc).1]
      exact ⟨fun _ => ⟨qIn_nI (by omega) (by decide), hQ w2 r2 f2 t2⟩, fun g => absurd (by omega) g⟩
    · intro m w2 hm ⟨m1, r2, f2, e2, t2⟩ nxt
      have cm := cntB_le m
      have skip : (¬ (∀ x, m.testBit x = true → set.testBit x = true) ∨ ¬ cntB m % 2 = 0) → qAt s d c_Mo_pairsOf (qQl QL) 97 [some (.ref 72), some (.int (nI set)), none, some (.int (nI (m + 1))), none] [] w2 := by
        intro q
        refine nxt w2 ⟨by omega, r2, f2, e2, fun M k hM sub hc => ?_⟩
        by_cases e : M = m
        · subst e
          rcases q with q | q
          · exact absurd sub q
          · omega
        · exact t2 M k (by omega) sub hc
      refine A_Mo_pairsOf_97 ?_
      have an : andn m set = 0 ↔ ∀ x, m.testBit x = true → set.testBit x = true := by
        constructor
        · intro h x hx
          have := congrArg (fun n => n.testBit x) h
          simp only [andn_bit, hx, Bool.true_and, Nat.zero_testBit, Bool.not_eq_false'] at this
          exact this
        · intro h
          apply Nat.eq_of_testBit_eq
          intro x
          rw [andn_bit, Nat.zero_testBit]
          cases q : m.testBit x with
          | false => rfl
          | true => rw [h x q]; rfl
      have al : andn m set < 4096 := andn_lt (n := 12) (by omega)
      rw [nI_ltI (by omega) (by omega), show (-1 : Int32) = -(nI 1) from rfl, nI_andn, eq0 (a := andn m set) (by omega), an, nI_1 m]
      refine ⟨fun g => by omega, fun _ => ⟨fun g => skip (Or.inl g), fun g => m_size (by omega) (by omega) ?_⟩⟩
      rw [show (2 : Int32) = nI 2 from rfl, qRem_nI (by omega) (by omega) (by omega), eq0 (a := cntB m % 2) (by omega)]
      refine ⟨by decide, fun g2 => skip (Or.inr g2), fun g2 => ?_⟩
      have c1 := cntB_P (P := 12) (by omega) (n := m) (by omega) m1
      have ck : cntB m = 2 * ((cntB m / 2 - 1) + 1) := by omega
      have lm := lowB_spec (cnt_pos ck) (by omega)
      refine m_pairUp hC (by omega) r2 (by omega) ck (fun a b hab hb ba bb => ?_) (fun j hj hg => ?_) (fun w3 f3 k1 k2 k3 => ?_)
      · rw [e2]
        exact h1 a b hab hb (g a ba) (g b bb) (bit_P hs (g a ba))
      · have x := pG_x hg
        have cc := cut_c (show m < 4096 by omega) lm.1 hj (by omega) lm.2.1 x.2 ck
        refine (t2 (cut m (lowB m) j) _ ?_ (fun x hx => ?_) cc).1
        · have a1 := andn_lt' lm.2.1
          have e : andn m (2 ^ lowB m) &&& cut m (lowB m) j = cut m (lowB m) j := by
            apply Nat.eq_of_testBit_eq
            intro b
            rw [Nat.testBit_and, cut_bit, andn_bit, one_bit]
            cases m.testBit b <;> cases decide (lowB m = b) <;> rfl
          have := Nat.and_le_left (n := andn m (2 ^ lowB m)) (m := cut m (lowB m) j)
          rw [e] at this
          omega
        · rw [cut_bit, Bool.and_eq_true] at hx; exact g x hx.1
      · refine nxt w3 ⟨by omega, r2.hi f3 (fun c hc => by omega), fr_tr f2 (fr_wk f3 (fun c hc => by omega)), by rw [(f3 99 (by omega)).2]; exact e2, fun M q hM sub hc => ?_⟩
        by_cases e : M = m
        · subst e
          have eq : q = cntB M / 2 - 1 + 1 := by omega
          rw [eq]
          exact ⟨k1, fun _ => k2⟩
        · rw [(k3 M e).1, (k3 M e).2]
          exact t2 M q (by omega) sub hc
    · refine ⟨Nat.le_refl _, r1.hi (A := fun c => c = 97) (fr_pL rfl) (fun c hc => by omega), fr_L f1 (by decide), ?_, fun M q hM sub hc => ?_⟩
      · funext x; rw [pL_c (by decide)]
      · have e : M = 0 := by omega
        subst e
        have c0 : cntB 0 = 0 := by decide +kernel
        have e : q = 0 := by omega
        subst e
        exact ⟨by rw [pL_e]; rfl, fun h => by omega⟩
  · intro i w1 hi ⟨r1, f1, h1⟩ nxt
    refine A_Mo_pairsOf_2 ⟨qIn_nI (j := 0) (by decide) (by decide), ?_⟩
    rw [qIx_0, r1.ppl, nI_leI (by omega) (by omega), nI_1]
    refine ⟨fun g => by omega, fun _ => ?_⟩
    refine lpU (i := i + 1) (n := N 0 0) (I := fun j w' => i < j ∧ rQ w' N K T Z N ∧ fr (fun c => 72 ≤ c) w w' ∧ ∀ a b, a < b → b < 12 → set.testBit a = true → set.testBit b = true → (a < i ∨ (a = i ∧ b < j)) → w'.2.1 99 (12 * a + b) = lN (pC T N n a b)) (P := fun j w' => qAt s d c_Mo_pairsOf (qQl QL) 17 [some (.ref 72), some (.int (nI set)), some (.int (nI n)), some (.int (nI i)), some (.int (nI j))] [] w') ?_ ?_ (by omega) ⟨by omega, r1, f1, fun a b hab hb ba bb h => h1 a b hab hb ba bb (by omega)⟩
    · intro w2 ⟨_, r2, f2, h2⟩
      refine A_Mo_pairsOf_17 ⟨qIn_nI (j := 0) (by decide) (by decide), ?_⟩
      rw [qIx_0, r2.ppl, nI_leI (by omega) (by omega), nI_1 i]
      refine ⟨fun _ => nxt w2 ⟨r2, f2, fun a b hab hb ba bb h => h2 a b hab hb ba bb ?_⟩, fun g => absurd (Nat.le_refl _) g⟩
      have := bit_P hs bb
      omega
    · intro j w2 hj ⟨hij, r2, f2, h2⟩ nxt2
      refine A_Mo_pairsOf_17 ⟨qIn_nI (j := 0) (by decide) (by decide), ?_⟩
      rw [qIx_0, r2.ppl, nI_leI (by omega) (by omega), show (12 : Int32) = nI 12 from rfl, nI_mul', nI_add, nI_1 j, qIx_nI (by omega)]
      have skip : ∀ v, (set.testBit i = false ∨ set.testBit j = false) → qAt s d c_Mo_pairsOf (qQl QL) 17 [some (.ref 72), some (.int (nI set)), some (.int (nI n)), some (.int (nI i)), some (.int (nI (j + 1)))] [] (qPutL w2 99 (12 * i + j) v) := by
        intro v q
        refine nxt2 _ ⟨by omega, r2.hi (A := fun c => c = 99) (fr_pL rfl) (fun c hc => by omega), fr_L f2 (by decide), fun a b hab hb ba bb h => ?_⟩
        by_cases e : 12 * a + b = 12 * i + j
        · have ea : a = i := by omega
          have eb : b = j := by omega
          subst ea eb
          rcases q with q | q
          · rw [q] at ba; exact Bool.noConfusion ba
          · rw [q] at bb; exact Bool.noConfusion bb
        · rw [pL_f e]
          exact h2 a b hab hb ba bb (by omega)
      refine ⟨fun g => by omega, fun _ => m_has (by omega) (by omega) (by omega) (fun g => b1 (m_has (by omega) (by omega) (by omega) (fun g2 => b1 ?_) (fun g2 => b0 ⟨qIn_nI (by omega) (by decide), skip _ (Or.inr g2)⟩))) (fun g => b0 ⟨qIn_nI (by omega) (by decide), skip _ (Or.inl g)⟩)⟩
      have e1 : ∀ i, i < 12 → qShl (1 : Int32) (nI i) = nI (2 ^ i) := fun i hi => qShl_n (i := i) (by omega)
      have pin := pair_in hs g g2
      rw [e1 i (by omega), e1 j (by omega), nI_or, nI_l (by omega)]
      refine m_togetherOf (set := 2 ^ i ||| 2 ^ j) (h := 0) (n := n) (by omega) r2 (by omega) hn.1 (by omega) (fun w3 r3 f3 => ?_)
      refine ⟨qIn_nI (by omega) (by decide), nxt2 _ ⟨by omega, r3.hi (A := fun c => c = 99) (fr_pL rfl) (fun c hc => by omega), fr_L (fr_tr f2 (fr_wk f3 (fun c hc => by omega))) (by decide), fun a b hab hb ba bb h => ?_⟩⟩
      by_cases e : 12 * a + b = 12 * i + j
      · have ea : a = i := by omega
        have eb : b = j := by omega
        subst ea eb
        rw [pL_e]; rfl
      · rw [pL_f e, (f3 99 (by omega)).2]
        exact h2 a b hab hb ba bb (by omega)
theorem m_pairs {set n who : Int32} (hd : 7 ≤ d) (hX : rM w N K T Z) (hy : ∀ w', vPa N set n who → rM w' N K T Z → fr (fun c => 72 ≤ c) w w' → Q (fPa T N set n who) w') (hn : ¬ vPa N set n who → Q (-1) w) : qCall (some s) d 322 [.ref 72, .int set, .int n, .int who] w (qQi Q) := by
  obtain ⟨d, rfl, hd1⟩ := dS hd
  have o0 := hX.okn.p12
  have hp := p12 o0
  refine A_Mo_pairs (m_isSet (by omega) hX.n.ppl o0 (fun g1 => b1 ?_) (fun g => b0 (hn (fun q => g q.1))))
  obtain ⟨L, h1, h2, h3, e, e2⟩ := vSet_x o0 g1
  have cl := cntB_le L
  unfold vPa at hn
  unfold fPa at hy
  rw [e2] at hn hy
  have vp : (vSet (N 0 0) set ∧ cntB L ≤ 8 ∧ cntB L % 2 = 0 ∧ (1 ≤ n ∧ n ≤ 100000) ∧ (who = -1 ∨ mem12 who L = true)) → vPa N set n who := fun q => by unfold vPa; rw [e2]; exact q
  have hz := fun w' q => hy w' (vp q)
  subst e
  refine m_size (by omega) h3 ?_
  rw [show (8 : Int32) = nI 8 from rfl, nI_ltI (by omega) (by omega)]
  refine ⟨fun g => hn (fun q => by have := q.2.1; omega), fun g2 => m_size (by omega) h3 ?_⟩
  rw [show (2 : Int32) = nI 2 from rfl, qRem_nI (by omega) (by omega) (by omega), show (nI (cntB L % 2) = (1 : Int32)) = (nI (cntB L % 2) = nI 1) from rfl, nI_eq (a := cntB L % 2) (by omega) (by omega)]
  refine ⟨by decide, fun g => hn (fun q => by have := q.2.2.1; omega), fun g3 => m_isInB (by omega) (fun gn => b1 ?_) (fun g => b0 (hn (fun q => g q.2.2.2.1)))⟩
  obtain ⟨m, hm1, hm2, em, em2⟩ := nI_rng 1 100000 gn.1 gn.2
  rw [em2] at hz
  subst em
  have at60 : (who = -1 ∨ mem12 who L = true) → qAt s d c_Mo_pairs (qQi Q) 60 [some (.ref 72), some (.int (nI L)), some (.int (nI m)), some (.int who), none, none, none, none, none] [] w := by
    intro g6
    have hzz := fun w' => hz w' ⟨g1, by omega, by omega, gn, g6⟩
    refine A_Mo_pairs_60 (m_take' (by omega) hX (fun w2 f2 hX2 t2 => m_pairsOf (k := cntB L / 2) (by omega) (rQ_of hX2 t2) h2 h1 ⟨hm1, hm2⟩ (by omega) (fun w3 r3 f3 pt => ?_)))
    have hz2 := hzz w3 r3.x (fr_tr (fr_wk f2 (fun c hc => by omega)) f3)
    refine ⟨fun g => ?_, fun g => ?_⟩
    · have ne : ¬ who = -1 := fun q => by subst q; exact absurd g (by decide)
      rcases g6 with g6 | g6
      · exact absurd g6 ne
      · obtain ⟨j, hj, ej, ej2, bj⟩ := mem12_x g6
        rw [if_neg ne, ej2] at hz2
        subst ej
        exact m_walk (pC_le T N hm2) h3 hj pt (by omega) _ L (fun _ h => h) (Nat.le_refl _) (by omega) bj hz2
    · have e : who = -1 := by
        rcases g6 with g6 | g6
        · exact g6
        · obtain ⟨j, hj, ej, ej2, bj⟩ := mem12_x g6
          exact absurd (by rw [ej]; exact (nI_leI (a := 0) (by decide) (by omega)).mpr (Nat.zero_le _)) g
      rw [if_pos e] at hz2
      rw [lZ_i]; exact hz2
  refine ⟨fun g => at60 (Or.inl g), fun g => m_isPerson (by omega) hX.n.ppl o0 (fun g4 => b1 ?_) (fun g4 => b0 (hn (fun q => ?_)))⟩
  · obtain ⟨j, hj, ej, ej2⟩ := vTold_x o0 g4
    subst ej
    refine m_has (by omega) (by omega) (by omega) (fun g5 => n1 (at60 (Or.inr ?_))) (fun g5 => n0 (hn (fun q => ?_)))
    · rw [mem12_nI (by omega)]; exact g5
    · rcases q.2.2.2.2 with q | q
      · exact g q
      · rw [mem12_nI (by omega), g5] at q; exact Bool.noConfusion q
  · rcases q.2.2.2.2 with q | q
    · exact g q
    · obtain ⟨j, hj, ej, ej2, bj⟩ := mem12_x q
      rw [ej] at g4
      exact g4 ((vTold_i o0 (by omega)).mpr (bit_P h2 bj))
end PairsM
