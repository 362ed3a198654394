/-! give and mend, as the class is called. -/
section GiveC
variable {s : Nat × (Nat → Int32)} {d : Nat} {w : qW} {Q : Int32 → qW → Prop} {QL : Int64 → qW → Prop} {R : qW → Prop} {N S K : vS} {T : Nat → vT} {Z : vZ}
def vGiv (N : vS) (set who : Int32) : Prop := vSet (N 0 0) set ∧ cntB (qIx set) ≤ 2 ∧ (who = -1 ∨ mem12 who (qIx set) = true) ∧ ¬ N 6 0 = 0
def fGiv (T : Nat → vT) (N : vS) (set : Nat) (who : Int32) : Int32 := if who = -1 then iZ (bsF T N set (N 6 0 * gW N set)).1 else if qIx who = gLo set then nI (N 13 ((bsF T N set (N 6 0 * gW N set)).2 / gW N set)) else nI (N 13 ((bsF T N set (N 6 0 * gW N set)).2 % gW N set))
theorem cntB_le (n : Nat) : cntB n ≤ 12 := by unfold cntB; exact Nat.le_trans (List.length_filter_le _ _) (by rw [List.length_range]; exact Nat.le_refl _)
theorem mem12_x {who : Int32} {n : Nat} (h : mem12 who n = true) : ∃ j, j < 12 ∧ who = nI j ∧ qIx who = j ∧ n.testBit j = true := by
  unfold mem12 at h
  rw [Bool.and_eq_true, decide_eq_true_eq] at h
  obtain ⟨j, hj, e⟩ := nI_of (Int32.not_lt.mpr h.1.1)
  have h2 := h.1.2
  rw [e] at h2
  have : j < 12 := (nI_ltI (b := 12) hj (by decide)).mp h2
  have e2 : qIx who = j := by rw [e]; exact qIx_nI hj
  refine ⟨j, this, e, e2, ?_⟩
  rw [← e2]; exact h.2
theorem c_give {set who : Int32} (hd : 10 ≤ d) (hX : rX w N K T Z) (hy : ∀ w', vGiv N set who → rX w' N K T Z → fr (fun c => c < 72) w w' → Q (fGiv T N (qIx set) who) w') (hn : ¬ vGiv N set who → Q (-1000000) w) : qCall (some s) d 157 [.ref 1, .int set, .int who] w (qQi Q) := by
  obtain ⟨d, rfl, hd1⟩ := dS hd
  have o := hX.okn
  have o0 := o.p12
  have o6 := o.gvs
  refine A_X_give (c_isSet (by omega) hX.n.ppl o0 (fun g1 => b1 ?_) (fun g => b0 (hn (fun q => g q.1))))
  obtain ⟨n, h1, h2, h3, e, e2⟩ := vSet_x o0 g1
  have cb := cntB_le n
  unfold vGiv at hn hy
  rw [e2] at hn hy
  subst e
  refine c_bitCount (by omega) h3 ?_
  rw [show ((2 : Int32) < nI (cntB n)) ↔ 2 < cntB n from nI_ltI (a := 2) (by omega) (by omega)]
  refine ⟨fun g => hn (fun q => by have := q.2.1; omega), fun g2 => c_isOfOrNone (by omega) (by omega) (fun g3 => b1 ?_) (fun g => b0 (hn (fun q => g q.2.2.1)))⟩
  have e6 : w.1 2 11 = nI (N 6 0) := hX.n.gvs
  rw [e6, eq0 (by omega)]
  refine ⟨fun g4 => ?_, fun g4 => hn (fun q => q.2.2.2 g4)⟩
  refine c_findBest hd1 hX h1 h2 (by omega) (by omega) ?_
  intro w2 hX2 f2 b1' b2' b3'
  have hz := hy w2 ⟨g1, by omega, g3, g4⟩ hX2 f2
  unfold fGiv at hz
  refine ⟨fun q => ?_, fun q => ?_⟩
  · rw [if_neg q] at hz
    obtain ⟨j, hj, ej, ej2, hb⟩ := mem12_x (g3.resolve_left q)
    obtain ⟨l1, l2, l3⟩ := lowB_spec h1 h3
    obtain ⟨p1, p2, p3, p4, p5, p6⟩ := gv_spec h1 h3 (by omega)
    refine c_lowestOf (by omega) h1 h3 ?_
    rw [ej2] at hz
    rw [ej, nI_eq (by omega) (by omega)]
    refine ⟨fun q2 => ?_, fun q2 => ?_⟩
    · rw [if_neg (show ¬ j = gLo n from q2)] at hz
      rw [b3' ?_]
      · exact hz
      · intro e
        rcases p3 j hb with e' | e'
        · exact q2 e'
        · rw [e] at e'; exact q2 e'
    · rw [if_pos (show j = gLo n from q2)] at hz
      rw [b2']; exact hz
  · rw [if_pos q] at hz
    rw [b1']; exact hz
/-! mend -/
def mdS (N : vS) (t : Nat) : vS := sPut N 10 (t / N 6 0) (N 13 (t % N 6 0))
def bmF (T : Nat → vT) (N : vS) : Nat → Int × Nat
  | 0 => (wtT T N (N 7 0), 0)
  | t + 1 => if (bmF T N t).1 < wtT T (mdS N t) (N 7 0) then (wtT T (mdS N t) (N 7 0), t + 1) else bmF T N t
theorem bmF_b (T : Nat → vT) (o : okS N) : ∀ t, -200000 ≤ (bmF T N t).1 ∧ (bmF T N t).1 ≤ 200000 ∧ (bmF T N t).2 ≤ t
  | 0 => by
    have o7 := o.nds
    have pb := wtT_b T N (N 7 0)
    unfold bmF
    exact ⟨by show _ ≤ wtT T _ _; omega, by show wtT T _ _ ≤ _; omega, Nat.le_refl _⟩
  | t + 1 => by
    have ih := bmF_b T o t
    have o7 := o.nds
    have pb := wtT_b T (mdS N t) (N 7 0)
    unfold bmF
    by_cases g : (bmF T N t).1 < wtT T (mdS N t) (N 7 0)
    · rw [if_pos g]
      exact ⟨by show _ ≤ wtT T _ _; omega, by show wtT T _ _ ≤ _; omega, Nat.le_refl _⟩
    · rw [if_neg g]
      exact ⟨ih.1, ih.2.1, by omega⟩
/-- what 59 holds of it -/
def mdW (w : qW) (N : vS) (p : Int × Nat) : Prop := w.1 59 0 = iZ p.1 ∧ w.1 59 1 = (if p.2 = 0 then -1 else nI ((p.2 - 1) / N 6 0)) ∧ (¬ p.2 = 0 → w.1 59 2 = nI (N 13 ((p.2 - 1) % N 6 0)))
theorem c_findChange (hd : 9 ≤ d) (hX : rX w N K T Z) (hQ : ∀ w', rX w' N K T Z → fr (fun c => c < 72) w w' → mdW w' N (bmF T N (N 0 0 * N 6 0)) → Q (tI (decide (¬ (bmF T N (N 0 0 * N 6 0)).2 = 0))) w') : qCall (some s) d 162 [.ref 59] w (qQi Q) := by
  obtain ⟨d, rfl, hd1⟩ := dS hd
  have o := hX.okn
  have o0 := o.p12
  have o6 := o.gvs
  refine A_Gifts_findChange (c_total (by omega) hX ?_)
  intro w1 f1 h60
  have hX1 := hX.keep f1 (fun c => ⟨fun _ _ => by unfold wtA; omega, by unfold wtA; omega⟩)
  refine lpU (i := 0) (n := N 0 0) (I := fun i w2 => fr (fun c => c < 72) w w2 ∧ (∀ i, i < N 7 0 → w2.1 60 i = iZ (wtF T N i)) ∧ rX w2 N K T Z ∧ mdW w2 N (bmF T N (i * N 6 0))) (P := fun i w2 => qAt s d c_Gifts_findChange (qQi Q) 15 [some (.ref 59), some (.int (nI i)), none, none] [] w2) ?_ ?_ (Nat.zero_le _) ?_
  · intro w2 ⟨f2, h602, hX2, m2⟩
    refine A_Gifts_findChange_15 ?_
    rw [hX2.n.ppl, m2.2.1]
    refine ⟨fun _ => ?_, fun g => absurd (Int32.le_refl _) g⟩
    have hz := hQ w2 hX2 f2 m2
    by_cases e : (bmF T N (N 0 0 * N 6 0)).2 = 0
    · rw [decide_eq_false (fun q => q e)] at hz
      rw [if_pos e]
      exact ⟨fun _ => hz, fun g => absurd rfl g⟩
    · rw [decide_eq_true e] at hz
      rw [if_neg e]
      refine ⟨fun q => ?_, fun _ => hz⟩
      have bb := (bmF_b T o (N 0 0 * N 6 0)).2.2
      have b2 : N 0 0 * N 6 0 ≤ 12 * 6 := Nat.mul_le_mul o0 o6
      have b3 : ((bmF T N (N 0 0 * N 6 0)).2 - 1) / N 6 0 ≤ (bmF T N (N 0 0 * N 6 0)).2 - 1 := Nat.div_le_self _ _
      have q : nI (((bmF T N (N 0 0 * N 6 0)).2 - 1) / N 6 0) = -(nI 1) := q
      rw [nI_eqn (by omega) (by omega) (by omega)] at q
      exact q.elim
  · intro i w2 hi ⟨f2, h602, hX2, m2⟩ ih
    have ni := o.num i hi
    refine A_Gifts_findChange_15 ?_
    have n3 : w2.1 3 i = nI (N 10 i) := hX2.n.num i hi
    rw [hX2.n.ppl, nI_leI (by omega) (by omega), qIx_nI (by omega), n3]
    refine ⟨fun g => absurd g (by omega), fun _ => ⟨qIn_nI (by omega) (by decide), ?_⟩⟩
    refine lpU (i := 0) (n := N 6 0) (I := fun j w4 => fr (fun c => c < 72) w w4 ∧ (∀ i, i < N 7 0 → w4.1 60 i = iZ (wtF T N i)) ∧ (∃ b, (1 ≤ b ∧ b ≤ 9999) ∧ rX w4 (sPut N 10 i b) K T Z) ∧ mdW w4 N (bmF T N (i * N 6 0 + j))) (P := fun j w4 => qAt s d c_Gifts_findChange (qQi Q) 38 [some (.ref 59), some (.int (nI i)), some (.int (nI (N 10 i))), some (.int (nI j))] [] w4) ?_ ?_ (Nat.zero_le _) ?_
    · intro w4 ⟨f4, h604, ⟨b, hb, hX4⟩, m4⟩
      refine A_Gifts_findChange_38 ?_
      have e6 : w4.1 2 11 = nI (N 6 0) := hX4.n.gvs
      rw [e6]
      refine ⟨fun _ => c_renumber (by omega) hX4 hi ni (fun w5 hX5 f5 => ?_), fun g => absurd (Int32.le_refl _) g⟩
      have eN : sPut (sPut N 10 i b) 10 i (N 10 i) = N := by
        funext r j
        unfold sPut
        by_cases e : r = 10 ∧ j = i
        · rw [if_pos e, e.1, e.2]
        · rw [if_neg e, if_neg e]
      rw [eN] at hX5
      have et : (i + 1) * N 6 0 = i * N 6 0 + N 6 0 := by rw [Nat.add_mul, Nat.one_mul]
      rw [nI_1]
      refine ih w5 ⟨fr_tr f4 (fr_wk f5 (fun c hc => by omega)), fun i hi => by rw [(f5 60 (by omega)).1]; exact h604 i hi, hX5, ?_⟩
      unfold mdW at m4 ⊢
      rw [et, (f5 59 (by omega)).1]
      exact m4
    · intro j w4 hj ⟨f4, h604, ⟨b, hb, hX4⟩, m4⟩ ihj
      have gj := o.gv j hj
      have tdiv : (i * N 6 0 + j) / N 6 0 = i := by
        rw [Nat.mul_comm, Nat.mul_add_div (by omega), Nat.div_eq_of_lt hj, Nat.add_zero]
      have tmod : (i * N 6 0 + j) % N 6 0 = j := by
        rw [Nat.mul_comm, Nat.mul_add_mod, Nat.mod_eq_of_lt hj]
      refine A_Gifts_findChange_38 ?_
      have e6 : w4.1 2 11 = nI (N 6 0) := hX4.n.gvs
      have e8 : w4.1 8 j = nI (N 13 j) := hX4.n.gv j hj
      rw [e6, nI_leI (by omega) (by omega), qIx_nI (by omega), e8, show (1 : Int32) = nI 1 from rfl, qShl_n (by omega), nI_add i 1, nI_add j 1]
      refine ⟨fun g => absurd g (by omega), fun _ => ⟨qIn_nI (by omega) (by decide), c_renumber (by omega) hX4 hi gj (fun w5 hX5 f5 => ?_)⟩⟩
      have eN : sPut (sPut N 10 i b) 10 i (N 13 j) = mdS N (i * N 6 0 + j) := by
        unfold mdS
        rw [tdiv, tmod]
        funext r q
        unfold sPut
        by_cases e : r = 10 ∧ q = i
        · rw [if_pos e, if_pos e]
        · rw [if_neg e, if_neg e, if_neg e]
      rw [eN] at hX5
      have e59 : w5.1 59 = w4.1 59 := (f5 59 (by omega)).1
      have bb := bmF_b T o (i * N 6 0 + j)
      have nrmS : nrm (mdS N (i * N 6 0 + j)) N := fun r hr q => by unfold mdS sPut; rw [if_neg (fun e => hr e.1)]
      refine c_isBetter (N := N) (by omega) hX5 nrmS (p11 (by omega)) ?_ (fun i hi => by rw [(f5 60 (by omega)).1]; exact h604 i hi) hi hi (by rw [e59]; exact m4.1) (by omega) (by omega) ?_
      · intro p hp hpb
        rw [Nat.testBit_two_pow, decide_eq_false_iff_not] at hpb
        unfold mdS
        rw [tdiv, sP_f (fun e => hpb e.symm)]
      · intro w6 hX6 f6 y1 y2
        have f6' : fr (fun c => c < 72) w w6 := fr_tr f4 (fr_tr (fr_wk f5 (fun c hc => by omega)) (fr_wk f6 (fun c hc => by unfold wtA at hc; omega)))
        have h606 : ∀ i, i < N 7 0 → w6.1 60 i = iZ (wtF T N i) := fun i hi => by rw [(f6 60 (by unfold wtA; omega)).1, (f5 60 (by omega)).1]; exact h604 i hi
        have hX6' : rX w6 (sPut N 10 i (N 13 j)) K T Z := by
          unfold mdS at hX6
          rw [tdiv, tmod] at hX6
          exact hX6
        refine tI_b (fun g => ?_) (fun g => ?_)
        · have g := of_decide_eq_true g
          have f7 : fr (fun c => c = 59) w6 (qPutI w6 59 1 (nI i)) := fr_pI rfl
          refine ihj _ ⟨fr_tr f6' (fr_wk f7 (fun c hc => by omega)), fun i hi => by rw [pI_c (by decide)]; exact h606 i hi, ⟨_, gj, hX6'.keep f7 (fun c => ⟨fun _ _ => by omega, by omega⟩)⟩, ?_⟩
          show mdW _ N (bmF T N (i * N 6 0 + j + 1))
          unfold bmF
          rw [if_pos g]
          refine ⟨?_, ?_, fun _ => ?_⟩
          · rw [pI_f (by decide)]; exact (y1 g).1
          · rw [pI_e]
            show nI i = if i * N 6 0 + j + 1 = 0 then -1 else nI ((i * N 6 0 + j + 1 - 1) / N 6 0)
            rw [if_neg (by omega), Nat.add_sub_cancel, tdiv]
          · rw [pI_f (by decide), (y1 g).2.1]
            show nI (mdS N (i * N 6 0 + j) 10 i) = nI (N 13 ((i * N 6 0 + j + 1 - 1) % N 6 0))
            rw [Nat.add_sub_cancel, tmod]
            unfold mdS
            rw [tdiv, tmod, sP_e]
        · have g := of_decide_eq_false g
          refine ihj w6 ⟨f6', h606, ⟨_, gj, hX6'⟩, ?_⟩
          show mdW _ N (bmF T N (i * N 6 0 + j + 1))
          unfold bmF
          rw [if_neg g]
          unfold mdW at m4 ⊢
          rw [y2 g, e59]
          exact m4
    · refine ⟨f2, h602, ⟨N 10 i, ni, ?_⟩, m2⟩
      have eN : sPut N 10 i (N 10 i) = N := by
        funext r q
        unfold sPut
        by_cases e : r = 10 ∧ q = i
        · rw [if_pos e, e.1, e.2]
        · rw [if_neg e]
      rw [eN]
      exact hX2
  · have f1' : fr (fun c => c = 59) w1 (qPutI (qPutI w1 59 0 (iZ (wtT T N (N 7 0)))) 59 1 (-1 : Int32)) := fr_I (fr_pI rfl) rfl
    refine ⟨fr_tr (fr_wk f1 (fun c hc => by unfold wtA at hc; omega)) (fr_wk f1' (fun c hc => by omega)), fun i hi => by rw [pI_c (by decide), pI_c (by decide)]; exact h60 i hi, hX1.keep f1' (fun c => ⟨fun _ _ => by omega, by omega⟩), ?_⟩
    rw [Nat.zero_mul]
    refine ⟨?_, ?_, fun q => absurd rfl q⟩
    · rw [pI_f (by decide), pI_e]; rfl
    · rw [pI_e]; rfl
def vMnd (q : Int32) : Prop := 0 ≤ q ∧ q ≤ 2
def fMnd (T : Nat → vT) (N : vS) (q : Int32) : Int32 := if (bmF T N (N 0 0 * N 6 0)).2 = 0 then -1000000 else if q = 0 then nI (((bmF T N (N 0 0 * N 6 0)).2 - 1) / N 6 0) else if q = 1 then nI (N 13 (((bmF T N (N 0 0 * N 6 0)).2 - 1) % N 6 0)) else iZ (bmF T N (N 0 0 * N 6 0)).1
theorem c_mend {q : Int32} (hd : 10 ≤ d) (hX : rX w N K T Z) (hy : ∀ w', vMnd q → rX w' N K T Z → fr (fun c => c < 72) w w' → Q (fMnd T N q) w') (hn : ¬ vMnd q → Q (-1000000) w) : qCall (some s) d 161 [.ref 1, .int q] w (qQi Q) := by
  obtain ⟨d, rfl, hd1⟩ := dS hd
  refine A_X_mend ⟨fun g => hn (fun q => absurd g (Int32.not_lt.mpr q.1)), fun g1 => ⟨fun g => hn (fun q => absurd g (Int32.not_lt.mpr q.2)), fun g2 => ?_⟩⟩
  have g : vMnd q := ⟨Int32.not_lt.mp g1, Int32.not_lt.mp g2⟩
  refine c_findChange hd1 hX ?_
  intro w2 hX2 f2 m2
  have hz := hy w2 g hX2 f2
  unfold fMnd at hz
  refine tI_n (fun e => ?_) (fun e => ?_)
  · have e := of_decide_eq_true e
    rw [if_neg e] at hz
    rw [m2.1, m2.2.2 e, m2.2.1, if_neg e]
    refine ⟨fun q0 => ⟨fun q1 => ?_, fun q1 => ?_⟩, fun q0 => ?_⟩
    · rw [if_neg q0, if_neg q1] at hz; exact hz
    · rw [if_neg q0, if_pos q1] at hz; exact hz
    · rw [if_pos q0] at hz; exact hz
  · have e := of_decide_eq_false e
    rw [if_pos (Classical.byContradiction e)] at hz
    exact hz
end GiveC
