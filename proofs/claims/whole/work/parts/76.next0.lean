/-! next and together without a day: the class. -/
section Next0
variable {s : Nat × (Nat → Int32)} {d : Nat} {w : qW} {Q : Int32 → qW → Prop} {QL : Int64 → qW → Prop} {R : qW → Prop} {N S K : vS} {T : Nat → vT} {Z : vZ}
theorem c_moveOn {set st sp h : Nat} (hd : 2 ≤ d) (hX : rX w N K T Z) (hs : set < 4096) (hc : cst w st sp) (hst : st ≤ tLast) (hsp : 1 ≤ sp) (hh : h ≤ tLast) (hQ : ∀ w', fr (fun c => c = 53) w w' → w'.2.1 53 2 = lN (apF st sp (lsF N set h (N 0 0))) → w'.2.1 53 3 = lN sp → R w') : qCall (some s) d 117 [.ref 53, .int (nI set), .long (lN h)] w (qQv R) := by
  obtain ⟨d, rfl, hd1⟩ := dS hd
  have r := hX.n
  have o := hX.okn
  have o0 := o.p12
  have hL := tL
  obtain ⟨e2, e3, hsp2⟩ := hc
  have lb : ∀ k, k ≤ N 0 0 → lsF N set h k ≤ tLast := fun k hk => lsF_le.mpr ⟨hh, fun i hi hb => by have := o.fst i (by omega); omega⟩
  refine A_Meetings_moveOn ?_
  refine lpN (i := 0) (n := N 0 0) (P := fun i => qAt s d c_Meetings_moveOn (qQv R) 6 [some (.ref 53), some (.int (nI set)), none, none, some (.long (lN (lsF N set h i))), none, some (.int (nI i))] [] w) ?_ ?_ (Nat.zero_le _)
  · refine A_Meetings_moveOn_6 ?_
    have lbn := lb (N 0 0) (Nat.le_refl _)
    generalize lsF N set h (N 0 0) = L at *
    rw [r.ppl, e2, e3, lg_ge, pk_lLE (by omega) (by omega), eqL0 (by omega)]
    refine ⟨fun _ => ⟨fun g => ?_, fun g => ⟨by omega, ?_⟩⟩, fun g => absurd (Int32.le_refl _) g⟩
    · refine hQ w (fr_rf _ _) ?_ e3
      unfold apF
      rw [if_neg (by omega)]
      exact e2
    · have hq : (L - st + sp - 1) / sp * sp ≤ L - st + sp - 1 := Nat.div_mul_le_self _ _
      have hq2 : (L - st + sp - 1) / sp ≤ L - st + sp - 1 := Nat.div_le_self _ _
      rw [lN_sub (by omega), lN_add, show (1 : Int64) = lN 1 from rfl, lN_sub (by omega), lN_div' (by omega) (by omega) (by omega), lN_mul, lN_add]
      refine hQ _ (fr_pL rfl) ?_ ?_
      · rw [pL_e]; unfold apF; rw [if_pos (by omega)]
      · rw [pL_f (by decide)]; exact e3
  · intro i hi ih
    have lbi := lb i (by omega)
    have of := o.fst i hi
    refine A_Meetings_moveOn_6 ?_
    rw [r.ppl, nI_leI (by omega) (by omega), nI_1, qIx_nI (by omega)]
    refine ⟨fun g => absurd g (by omega), fun _ => c_isOfB (by omega) (by omega) (fun g1 => b1 ⟨qIn_nI (by omega) (by decide), ?_⟩) (fun g1 => b0 ?_)⟩
    · rw [mem12_nI (by omega)] at g1
      rw [r.fst i hi, nI_l (by omega)]
      refine c_maxL (by omega) (by omega) (by omega) ?_
      have e : lsF N set h (i + 1) = max (lsF N set h i) (N 11 i) := by show (if set.testBit i then _ else _) = _; rw [if_pos g1]
      rw [e] at ih
      exact ih
    · rw [mem12_nI (by omega)] at g1
      have e : lsF N set h (i + 1) = lsF N set h i := by show (if set.testBit i then _ else _) = _; rw [if_neg (by rw [g1]; decide)]
      rw [e] at ih
      exact ih
/-- some clock is open and within reach, and no two are apart -/
def rchC (T : Nat → vT) (S : vS) (set : Nat) : Prop := paF S set = none ∧ ∃ c, c < S 2 0 ∧ opB T S set c = true ∧ rcB S set (S 0 0) c = true
/-- the next hour, without a day -/
def nx0 (T : Nat → vT) (S : vS) (set h : Nat) (r : Int64) : Prop := (¬ rchC T S set ∧ r = -1) ∨ (rchC T S set ∧ ((r = -2 ∧ ∀ x, h ≤ x → x ≤ tLast → ¬ allSpk T S set x = true) ∨ ∃ x, r = lN x ∧ h ≤ x ∧ x ≤ tLast ∧ allSpk T S set x = true ∧ ∀ y, h ≤ y → y < x → ¬ allSpk T S set y = true))
theorem nx0_u {set h : Nat} {r r' : Int64} (a : nx0 T S set h r) (b : nx0 T S set h r') : r = r' := by
  rcases a with ⟨a1, a2⟩ | ⟨a1, a2⟩
  · rcases b with ⟨b1, b2⟩ | ⟨b1, b2⟩
    · rw [a2, b2]
    · exact absurd b1 a1
  · rcases b with ⟨b1, b2⟩ | ⟨b1, b2⟩
    · exact absurd a1 b1
    · rcases a2 with ⟨e, a3⟩ | ⟨x, e, h1, h2, h3, h4⟩
      · rcases b2 with ⟨e', b3⟩ | ⟨x', e', h1', h2', h3', h4'⟩
        · rw [e, e']
        · exact absurd h3' (a3 x' h1' h2')
      · rcases b2 with ⟨e', b3⟩ | ⟨x', e', h1', h2', h3', h4'⟩
        · exact absurd h3 (b3 x h1 h2)
        · have : x = x' := by
            rcases Nat.lt_trichotomy x x' with g | g | g
            · exact absurd h3 (h4' x h1 g)
            · exact g
            · exact absurd h3' (h4 x' h1' g)
          rw [e, e', this]
theorem all_row {set h st sp x : Nat} (oS : okS S) (hd : S 1 0 = 0) (hj : jv (memK S set (S 0 0)) st sp) (hx : x ≤ tLast) : (h ≤ x ∧ allSpk T S set x = true) ↔ (∃ j, x = apF st sp (lsF S set h (S 0 0)) + j * sp) ∧ opB T S set (x % S 2 0) = true := by
  rw [← apF_iff hj hx, all_iff oS hd, lsF_le]
  constructor
  · rintro ⟨h1, h2, h3, h4⟩; exact ⟨⟨⟨h1, h3⟩, h2⟩, h4⟩
  · rintro ⟨⟨⟨h1, h3⟩, h2⟩, h4⟩; exact ⟨h1, h2, h3, h4⟩
theorem c_firstWithoutDay {set h : Nat} (hd : 5 ≤ d) (hX : rX w N K T Z) (hs : set < 4096) (hd0 : N 1 0 = 0) (hh : h ≤ tLast) (hQ : ∀ w' r, fr (fun c => c = 53) w w' → nx0 T N set h r → QL r w') : qCall (some s) d 108 [.ref 53, .int (nI set), .long (lN h), .long (lN (bitsOf (opB T N set) (N 2 0)))] w (qQl QL) := by
  obtain ⟨d, rfl, hd1⟩ := dS hd
  have o := hX.okn
  have o0 := o.p12
  have oc := o.clk
  have hL := tL
  refine A_Meetings_firstWithoutDay (c_pairApart (by omega) hX hs ?_)
  cases hp : paF N set with
  | some k =>
    have hk := (paF_lt hp).1
    refine ⟨fun _ => hQ w (-1) (fr_rf _ _) (Or.inl ⟨fun q => (by rw [q.1] at hp; cases hp), rfl⟩), fun q => ?_⟩
    have q : nI k = -(nI 1) := q
    rw [nI_eqn (by omega) (by omega) (by omega)] at q
    exact q.elim
  | none =>
    refine ⟨fun q => absurd rfl q, fun _ => c_clocksInReach (by omega) hX hs ?_⟩
    have hb := bits60 (fun c => opB T N set c && rcB N set (N 0 0) c) oc.2
    rw [lg_eq, eqL0 (by omega)]
    refine ⟨fun g => ?_, fun g => hQ w (-1) (fr_rf _ _) (Or.inl ⟨fun q => ?_, rfl⟩)⟩
    · have rc : rchC T N set := by
        refine ⟨hp, ?_⟩
        refine Classical.byContradiction (fun q => g ?_)
        apply bits_ext
        intro c
        rw [bitsOf_bit, Nat.zero_testBit]
        by_cases hc : c < N 2 0
        · rw [decide_eq_true hc, Bool.true_and]
          cases h1 : opB T N set c with
          | false => rfl
          | true =>
            cases h2 : rcB N set (N 0 0) c with
            | false => rfl
            | true => exact absurd ⟨c, hc, h1, h2⟩ q
        · rw [decide_eq_false hc]; rfl
      refine c_gather hd1 hX hs hp ?_
      intro w2 f2 h2
      have hX2 := hX.m53 (fr_wk f2 (fun c hc => Or.inl hc))
      rcases h2 with ⟨e, no⟩ | ⟨e, st, sp, hc, hj⟩
      · rw [e]
        refine ⟨fun q => absurd q (by decide), fun _ => hQ w2 (-2) f2 (Or.inr ⟨rc, Or.inl ⟨rfl, fun x _ hx2 q => no x hx2 ((all_iff o hd0).mp q).1⟩⟩)⟩
      · rw [e]
        refine ⟨fun _ => ?_, fun q => absurd rfl q⟩
        refine c_moveOn (by omega) hX2 hs hc hj.le hj.pos hh ?_
        intro w3 f3 e2 e3
        have rw3 := fun x (hx : x ≤ tLast) => all_row (T := T) (h := h) o hd0 hj hx
        have hp1 := hj.pos
        have hps : sp ≤ tLast + 1 := by rcases hc.2.2 with q | q <;> omega
        have ap1 : apF st sp (lsF N set h (N 0 0)) ≤ 3 * tLast + 3 := by
          have l1 : lsF N set h (N 0 0) ≤ tLast := lsF_le.mpr ⟨hh, fun i hi hb => by have := o.fst i hi; omega⟩
          have l2 := hj.le
          unfold apF
          by_cases q : st < lsF N set h (N 0 0)
          · rw [if_pos q]
            have := Nat.div_mul_le_self (lsF N set h (N 0 0) - st + sp - 1) sp
            omega
          · rw [if_neg q]; omega
        generalize apF st sp (lsF N set h (N 0 0)) = a at *
        refine lpU (i := 0) (n := N 2 0) (I := fun i w4 => fr (fun c => c = 53) w w4 ∧ w4.2.1 53 2 = lN (a + i * sp) ∧ w4.2.1 53 3 = lN sp ∧ a + i * sp ≤ 4 * tLast + 4 ∧ ∀ j, j < i → ¬ opB T N set ((a + j * sp) % N 2 0) = true) (P := fun i w4 => qAt s d c_Meetings_firstWithoutDay (qQl QL) 50 [some (.ref 53), none, none, none, some (.long (lN (bitsOf (opB T N set) (N 2 0)))), none, some (.int (nI i))] [] w4) ?_ ?_ (Nat.zero_le _) ?_
        · intro w4 ⟨f4, g2, g3, gb, no⟩
          have hX4 := hX.m53 (fr_wk f4 (fun c hc => Or.inl hc))
          refine A_Meetings_firstWithoutDay_50 ?_
          rw [hX4.n.clk]
          refine ⟨fun _ => hQ w4 (-2) f4 (Or.inr ⟨rc, Or.inl ⟨rfl, fun x hx hx2 q => ?_⟩⟩), fun g => absurd (Int32.le_refl _) g⟩
          obtain ⟨⟨j, hj2⟩, ho⟩ := (rw3 x hx2).mp ⟨hx, q⟩
          refine no (j % N 2 0) (Nat.mod_lt _ (by omega)) ?_
          have e : (a + j % N 2 0 * sp) % N 2 0 = x % N 2 0 := by
            rw [hj2, Nat.add_mod, Nat.mul_mod, Nat.mod_mod, ← Nat.mul_mod, ← Nat.add_mod]
          rw [e]; exact ho
        · intro i w4 hi ⟨f4, g2, g3, gb, no⟩ ih
          have hX4 := hX.m53 (fr_wk f4 (fun c hc => Or.inl hc))
          refine A_Meetings_firstWithoutDay_50 ?_
          have hm : (a + i * sp) % N 2 0 < N 2 0 := Nat.mod_lt _ (by omega)
          rw [hX4.n.clk, g2, g3, nI_leI (by omega) (by omega), kL, lg_gt, pk_lLT (by omega) (by omega), nI_l (by omega), qRemL_lN (by omega) (by omega) (by omega), lN_i, qLbit (by have := bits60 (opB T N set) oc.2; omega) (by omega), bitsOf_bit, decide_eq_true hm, Bool.true_and, lN_add, nI_1, eqL0 (by omega)]
          refine ⟨fun g => absurd g (by omega), fun _ => ⟨fun g => hQ w4 (-2) f4 (Or.inr ⟨rc, Or.inl ⟨rfl, fun x hx hx2 q => ?_⟩⟩), fun g => ⟨by omega, fun q => ?_, fun q => ?_⟩⟩⟩
          · obtain ⟨⟨j, hj2⟩, ho⟩ := (rw3 x hx2).mp ⟨hx, q⟩
            have hji : j < i := by
              rcases Nat.lt_or_ge j i with q1 | q1
              · exact q1
              · exfalso
                have := Nat.mul_le_mul_right sp q1
                omega
            refine no j hji ?_
            rw [← hj2]; exact ho
          · have es : a + i * sp + sp = a + (i + 1) * sp := by rw [Nat.add_mul]; omega
            rw [es]
            refine ih _ ⟨fr_L f4 rfl, ?_, ?_, by omega, fun j hj2 => ?_⟩
            · rw [pL_e]
            · rw [pL_f (by decide)]; exact g3
            · by_cases e : j = i
              · subst e; rw [q]; decide
              · exact no j (by omega)
          · have ho : opB T N set ((a + i * sp) % N 2 0) = true := by
              cases h : opB T N set ((a + i * sp) % N 2 0) with
              | true => rfl
              | false => exact absurd h q
            obtain ⟨hx, hq⟩ := (rw3 (a + i * sp) (by omega)).mpr ⟨⟨i, rfl⟩, ho⟩
            refine hQ w4 _ f4 (Or.inr ⟨rc, Or.inr ⟨a + i * sp, rfl, hx, by omega, hq, fun y hy1 hy2 q2 => ?_⟩⟩)
            obtain ⟨⟨j, hj2⟩, ho2⟩ := (rw3 y (by omega)).mp ⟨hy1, q2⟩
            have hji : j < i := by
              rcases Nat.lt_or_ge j i with q1 | q1
              · exact q1
              · exfalso
                have := Nat.mul_le_mul_right sp q1
                omega
            refine no j hji ?_
            rw [← hj2]; exact ho2
        · refine ⟨fr_tr f2 f3, ?_, e3, by omega, fun j hj => absurd hj (Nat.not_lt_zero _)⟩
          rw [e2, Nat.zero_mul, Nat.add_zero]
    · obtain ⟨_, c, hc, h1, h2⟩ := q
      have := congrArg (fun n => n.testBit c) g
      simp only [bitsOf_bit, Nat.zero_testBit, h1, h2, decide_eq_true hc, Bool.and_self] at this
      exact Bool.noConfusion this
end Next0
