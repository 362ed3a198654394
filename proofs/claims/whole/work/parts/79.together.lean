/-! together and next, as the class is called. -/
section Together
variable {s : Nat × (Nat → Int32)} {d : Nat} {w : qW} {Q : Int32 → qW → Prop} {QL : Int64 → qW → Prop} {R : qW → Prop} {N S K : vS} {T : Nat → vT} {Z : vZ}
theorem cnt_disj {A B : Nat → Bool} : ∀ {n : Nat}, (∀ i, i < n → (A i && B i) = false) → cnt (fun i => A i || B i) n = cnt A n + cnt B n
  | 0, _ => rfl
  | n + 1, h => by
    have ih := cnt_disj (A := A) (B := B) (n := n) (fun i hi => h i (by omega))
    have hn := h n (by omega)
    show cnt (fun i => A i || B i) n + (A n || B n).toNat = cnt A n + (A n).toNat + (cnt B n + (B n).toNat)
    rw [ih]
    revert hn
    cases A n <;> cases B n <;> simp <;> omega
/-- so often all of a set speak in n hours from h on -/
def tgF (T : Nat → vT) (S : vS) (set h n : Nat) : Nat := cnt (fun i => allSpk T S set (h + i)) n
theorem tgF_le (T : Nat → vT) (S : vS) (set h n : Nat) : tgF T S set h n ≤ n := cnt_le _ _
theorem c_countByDay {set h n : Nat} (hd : 4 ≤ d) (hX : rX w N K T Z) (h0 : 0 < set) (hs : set < 2 ^ N 0 0) (hdy : ¬ N 1 0 = 0) (hn : 1 ≤ n) (hh : h + n ≤ tLast + 1) (hQ : ∀ w', fr (fun c => c = 53 ∨ c = 54) w w' → QL (lN (tgF T N set h n)) w') : qCall (some s) d 122 [.ref 53, .int (nI set), .long (lN h), .long (lN (h + n - 1)), .long (lN (bitsOf (opB T N set) (N 2 0)))] w (qQl QL) := by
  obtain ⟨d, rfl, hd1⟩ := dS hd
  have r := hX.n
  have o := hX.okn
  have o0 := o.p12
  have oc := o.clk
  have od := o.day
  have hL := tL
  have hs2 : set < 4096 := by have := p12 o0; omega
  refine A_Meetings_countByDay (c_rarestOf hd1 hX h0 hs ?_)
  intro rr hr hb
  have on := o.num rr hr
  have of := o.fst rr hr
  rw [r.day, nI_l (by omega)]
  refine c_layClocks (by omega) hX (by omega) ?_
  intro w2 f2 _ hl
  have hX2 := hX.m53 f2
  have r := hX2.n
  rw [qIx_nI (by omega), r.fst rr hr]
  refine ⟨qIn_nI (by omega) (by decide), ?_⟩
  have hQ := hQ w2 f2
  have loop : ∀ k i, N 1 0 - i ≤ k → i ≤ 99999 → due N rr i = true → qAt s d c_Meetings_countByDay (qQl QL) 34 [some (.ref 53), some (.int (nI set)), some (.long (lN h)), none, some (.long (lN (h + n - 1))), none, some (.long (lN (bitsOf (opB T N set) (N 2 0)))), none, some (.int (nI rr)), some (.long (lN (cnt (fun q => allSpk T N set (h + q) && decide ((h + q) % N 1 0 < i)) n))), none, some (.int (nI i))] [] w2 := by
    intro k
    have fin : ∀ i, N 1 0 ≤ i → QL (lN (cnt (fun q => allSpk T N set (h + q) && decide ((h + q) % N 1 0 < i)) n)) w2 := by
      intro i hi
      have e : cnt (fun q => allSpk T N set (h + q) && decide ((h + q) % N 1 0 < i)) n = tgF T N set h n := cnt_congr (fun q _ => by rw [decide_eq_true (Nat.lt_of_lt_of_le (Nat.mod_lt _ (by omega)) hi), Bool.and_true])
      rw [e]; exact hQ
    induction k with
    | zero =>
      intro i hk hi hdu
      refine A_Meetings_countByDay_34 ?_
      rw [r.day, nI_leI (by omega) (by omega)]
      exact ⟨fun _ => fin i (by omega), fun g => absurd (by omega) g⟩
    | succ k ih =>
      intro i hk hi hdu
      refine A_Meetings_countByDay_34 ?_
      rw [r.day, nI_leI (by omega) (by omega)]
      refine ⟨fun g => fin i g, fun g => ?_⟩
      have hiD : i < N 1 0 := by omega
      obtain ⟨d1, d2, d3⟩ := inD_ok (h := h) (show 1 ≤ N 1 0 by omega) hiD
      have gap : ∀ y, y % N 1 0 < i + N 10 rr → allSpk T N set y = true → y % N 1 0 < i ∨ y % N 1 0 = i := by
        intro y hy hA
        rcases Nat.lt_trichotomy (y % N 1 0) i with q | q | q
        · exact Or.inl q
        · exact Or.inr q
        · exfalso
          rw [all_day hdy, Bool.and_eq_true] at hA
          have := duA_t.mp hA.1 rr hr hb
          rw [due_gap on.1 hdu q hy] at this
          cases this
      have spl : cnt (fun q => allSpk T N set (h + q) && decide ((h + q) % N 1 0 < i + N 10 rr)) n = cnt (fun q => allSpk T N set (h + q) && decide ((h + q) % N 1 0 < i)) n + cnt (fun q => allSpk T N set (h + q) && decide ((h + q) % N 1 0 = i)) n := by
        rw [← cnt_disj]
        · refine cnt_congr (fun q _ => ?_)
          cases hA : allSpk T N set (h + q) with
          | false => rfl
          | true =>
            rw [Bool.true_and, Bool.true_and, Bool.true_and]
            by_cases g2 : (h + q) % N 1 0 < i + N 10 rr
            · rw [decide_eq_true g2]
              rcases gap _ g2 hA with q1 | q1
              · rw [decide_eq_true q1]; rfl
              · rw [decide_eq_true q1, Bool.or_true]
            · rw [decide_eq_false g2, decide_eq_false (by omega), decide_eq_false (by omega)]; rfl
        · intro q _
          by_cases g2 : (h + q) % N 1 0 < i
          · rw [decide_eq_false (show ¬ (h + q) % N 1 0 = i by omega)]; simp
          · rw [decide_eq_false g2]; simp
      have nxt : ∀ v, v = cnt (fun q => allSpk T N set (h + q) && decide ((h + q) % N 1 0 < i + N 10 rr)) n → qCall (some s) d 21 [.int (1 : Int32), .int (nI (N 10 rr))] w2 (qQi fun x2 w1 => qAt s d c_Meetings_countByDay (qQl QL) 34 [some (.ref 53), some (.int (nI set)), some (.long (lN h)), none, some (.long (lN (h + n - 1))), none, some (.long (lN (bitsOf (opB T N set) (N 2 0)))), none, some (.int (nI rr)), some (.long (lN v)), none, some (.int (nI i + x2))] [] w1) := by
        intro v hv
        refine c_max (a := 1) (by omega) (by decide) (by omega) ?_
        rw [Nat.max_eq_right on.1, nI_add, hv]
        refine ih (i + N 10 rr) (by omega) (by omega) ?_
        have := (due_iff on.1).mp hdu
        refine (due_iff on.1).mpr ⟨by omega, ?_⟩
        have e : ((i + N 10 rr : Nat) : Int) - (N 11 rr : Int) = ((i : Int) - (N 11 rr : Int)) + (N 10 rr : Int) := by omega
        rw [e]
        exact Int.dvd_add this.2 (Int.dvd_refl _)
      refine c_areDue (by omega) hX2 hs2 (by omega) (tI_b (fun gd => ?_) (fun gd => ⟨qIn_nI (by omega) (by decide), ?_⟩))
      · refine c_inDay (by omega) hX2 hdy (by omega) hiD ?_
        rw [r.day, nI_l (by omega)]
        refine c_countOpen (by omega) hX2 hl (by omega) (by omega) (by omega) (by omega) ⟨qIn_nI (by omega) (by decide), ?_⟩
        rw [qIx_nI (by omega), r.num rr hr, lN_add]
        refine nxt _ ?_
        rw [spl]
        congr 1
        have eq1 : cnt (fun q => allSpk T N set (h + q) && decide ((h + q) % N 1 0 = i)) n = cnt (fun q => (fun x => decide (x % N 1 0 = i) && opB T N set (x % N 2 0)) (h + q)) n := cnt_congr (fun q _ => by
          show _ = (decide ((h + q) % N 1 0 = i) && opB T N set ((h + q) % N 2 0))
          by_cases g2 : (h + q) % N 1 0 = i
          · rw [decide_eq_true g2, all_day hdy, g2, gd, Bool.and_true]
          · rw [decide_eq_false g2, Bool.and_false, Bool.false_and])
        have eq2 : cnt (fun j => opB T N set ((inD (N 1 0) h i + j * N 1 0) % N 2 0)) (if inD (N 1 0) h i ≤ h + n - 1 then (h + n - 1 - inD (N 1 0) h i) / N 1 0 + 1 else 0) = cnt (fun j => (fun x => decide (x % N 1 0 = i) && opB T N set (x % N 2 0)) (inD (N 1 0) h i + j * N 1 0)) (if inD (N 1 0) h i ≤ h + n - 1 then (h + n - 1 - inD (N 1 0) h i) / N 1 0 + 1 else 0) := cnt_congr (fun j _ => by
          show _ = (decide ((inD (N 1 0) h i + j * N 1 0) % N 1 0 = i) && opB T N set ((inD (N 1 0) h i + j * N 1 0) % N 2 0))
          rw [Nat.add_mul_mod_self_right, decide_eq_true d3, Bool.true_and])
        rw [eq1, eq2]
        symm
        refine cnt_row (f := fun x => decide (x % N 1 0 = i) && opB T N set (x % N 2 0)) (sp := N 1 0) d1 (fun x hx1 hx2 hx3 => ?_) (by omega) (fun j => ?_)
        · have hx3 : (decide (x % N 1 0 = i) && opB T N set (x % N 2 0)) = true := hx3
          rw [Bool.and_eq_true, decide_eq_true_eq] at hx3
          exact inD_row (by omega) hiD hx1 hx3.1
        · by_cases g2 : inD (N 1 0) h i ≤ h + n - 1
          · rw [if_pos g2, row_len (by omega) g2]
            have : h + n - 1 + 1 = h + n := by omega
            rw [this]
          · rw [if_neg g2]
            have : inD (N 1 0) h i ≤ inD (N 1 0) h i + j * N 1 0 := Nat.le_add_right _ _
            omega
      · rw [qIx_nI (by omega), r.num rr hr]
        refine nxt _ ?_
        rw [spl]
        have : cnt (fun q => allSpk T N set (h + q) && decide ((h + q) % N 1 0 = i)) n = 0 := cnt_false (fun q _ => by
          by_cases g2 : (h + q) % N 1 0 = i
          · rw [all_day hdy, g2, gd]; rfl
          · rw [decide_eq_false g2, Bool.and_false])
        rw [this, Nat.add_zero]
  have e0 : cnt (fun q => allSpk T N set (h + q) && decide ((h + q) % N 1 0 < N 11 rr)) n = 0 := cnt_false (fun q _ => by
    cases hA : allSpk T N set (h + q) with
    | false => rfl
    | true =>
      rw [all_day hdy, Bool.and_eq_true] at hA
      have := (due_iff on.1).mp (duA_t.mp hA.1 rr hr hb)
      rw [decide_eq_false (by omega)]; rfl)
  have := loop (N 1 0) (N 11 rr) (by omega) (by omega) ((due_iff on.1).mpr ⟨Nat.le_refl _, ⟨0, by omega⟩⟩)
  rw [e0] at this
  exact this
theorem c_countOf {set h n : Nat} (hd : 5 ≤ d) (hX : rX w N K T Z) (h0 : 0 < set) (hs : set < 2 ^ N 0 0) (hn : 1 ≤ n) (hh : h + n ≤ tLast + 1) (hQ : ∀ w', fr (fun c => c = 53 ∨ c = 54) w w' → QL (lN (tgF T N set h n)) w') : qCall (some s) d 121 [.ref 53, .int (nI set), .long (lN h), .long (lN (h + n - 1))] w (qQl QL) := by
  obtain ⟨d, rfl, hd1⟩ := dS hd
  have o := hX.okn
  have o0 := o.p12
  have oc := o.clk
  have od := o.day
  have hL := tL
  have hs2 : set < 4096 := by have := p12 o0; omega
  refine A_Meetings_countOf (c_openClocks (by omega) hX hs ?_)
  rw [hX.n.day, show (nI (N 1 0) ≤ (0 : Int32)) ↔ N 1 0 ≤ 0 from nI_leI (b := 0) (by omega) (by omega)]
  refine ⟨fun gd => ?_, fun gd => c_countByDay (by omega) hX h0 hs (by omega) hn hh hQ⟩
  have hd0 : N 1 0 = 0 := by omega
  refine c_pairApart (by omega) hX hs2 ?_
  cases hp : paF N set with
  | some k =>
    obtain ⟨hk, hk2⟩ := paF_lt hp
    refine ⟨fun q => ?_, fun _ => ?_⟩
    · have q : nI k = -(nI 1) := q
      rw [nI_eqn (by omega) (by omega) (by omega)] at q
      exact q.elim
    · have z : tgF T N set h n = 0 := cnt_false (fun i _ => by
        cases hA : allSpk T N set (h + i) with
        | false => rfl
        | true =>
          exfalso
          have hA := (all_iff o hd0).mp hA
          unfold paP at hk2
          rw [Bool.and_eq_true, decide_eq_true_eq, Bool.and_eq_true, Bool.and_eq_true] at hk2
          obtain ⟨⟨k1, k2⟩, ⟨k3, k4⟩, k5⟩ := hk2
          have a := slv_mem.mp hA.1 (k / 12) (by omega) k3
          have b := slv_mem.mp hA.1 (k % 12) k2 k4
          have ga : ((Nat.gcd (N 10 (k / 12)) (N 10 (k % 12)) : Nat) : Int) ∣ ((h + i : Nat) : Int) - (N 11 (k / 12) : Int) := Int.dvd_trans (Int.natCast_dvd_natCast.mpr (Nat.gcd_dvd_left _ _)) a
          have gb : ((Nat.gcd (N 10 (k / 12)) (N 10 (k % 12)) : Nat) : Int) ∣ ((h + i : Nat) : Int) - (N 11 (k % 12) : Int) := Int.dvd_trans (Int.natCast_dvd_natCast.mpr (Nat.gcd_dvd_right _ _)) b
          have c := Int.dvd_sub gb ga
          have e : ((h + i : Nat) : Int) - (N 11 (k % 12) : Int) - (((h + i : Nat) : Int) - (N 11 (k / 12) : Int)) = (N 11 (k / 12) : Int) - (N 11 (k % 12) : Int) := by omega
          rw [e] at c
          unfold cgN at k5
          rw [decide_eq_true c] at k5
          exact absurd k5 (by decide))
      have := hQ w (fr_rf _ _)
      rw [z] at this
      exact this
  | none =>
    refine ⟨fun _ => ?_, fun q => absurd rfl q⟩
    refine c_gather hd1 hX hs2 hp ?_
    intro w2 f2 h2
    have f2' : fr (fun c => c = 53 ∨ c = 54) w w2 := fr_wk f2 (fun c hc => Or.inl hc)
    have hX2 := hX.m53 f2'
    rcases h2 with ⟨e, no⟩ | ⟨e, st, sp, hc, hj⟩
    · rw [e]
      refine ⟨fun q => absurd q (by decide), fun _ => ?_⟩
      have z : tgF T N set h n = 0 := cnt_false (fun i hi => by
        cases hA : allSpk T N set (h + i) with
        | false => rfl
        | true => exact absurd ((all_iff o hd0).mp hA).1 (no _ (by omega)))
      have := hQ w2 f2'
      rw [z] at this
      exact this
    · rw [e]
      refine ⟨fun _ => ?_, fun q => absurd rfl q⟩
      refine c_moveOn (by omega) hX2 hs2 hc hj.le hj.pos (by omega) ?_
      intro w3 f3 e2 e3
      have f3' : fr (fun c => c = 53 ∨ c = 54) w w3 := fr_tr f2' (fr_wk f3 (fun c hc => Or.inl hc))
      have hX3 := hX.m53 f3'
      have hps : sp ≤ tLast + 1 := by rcases hc.2.2 with q | q <;> omega
      have hp1 := hj.pos
      rw [e3]
      refine c_layClocks (by omega) hX3 (by omega) ?_
      intro w4 f4 e5 hl
      have f4' : fr (fun c => c = 53 ∨ c = 54) w w4 := fr_tr f3' f4
      have hX4 := hX.m53 f4'
      rw [e5, e2, e3]
      have rw3 := fun x (hx : x ≤ tLast) => all_row (T := T) (h := h) o hd0 hj hx
      have ap0 : h ≤ apF st sp (lsF N set h (N 0 0)) := Nat.le_trans (lsF_le.mp (Nat.le_refl _)).1 (apF_ge hp1)
      have ap1 : apF st sp (lsF N set h (N 0 0)) ≤ 3 * tLast + 3 := by
        have l1 : lsF N set h (N 0 0) ≤ tLast := lsF_le.mpr ⟨by omega, fun i hi hb => by have := o.fst i hi; omega⟩
        have l2 := hj.le
        unfold apF
        by_cases q : st < lsF N set h (N 0 0)
        · rw [if_pos q]
          have := Nat.div_mul_le_self (lsF N set h (N 0 0) - st + sp - 1) sp
          omega
        · rw [if_neg q]; omega
      generalize apF st sp (lsF N set h (N 0 0)) = a at *
      refine c_countOpen (by omega) hX4 hl (by omega) hp1 (by omega) (by omega) ?_
      have hM : ∀ j, j < (if a ≤ h + n - 1 then (h + n - 1 - a) / sp + 1 else 0) ↔ a + j * sp < h + n := fun j => by
        by_cases g2 : a ≤ h + n - 1
        · rw [if_pos g2, row_len (by omega) g2]
          have : h + n - 1 + 1 = h + n := by omega
          rw [this]
        · rw [if_neg g2]
          have : a ≤ a + j * sp := Nat.le_add_right _ _
          omega
      have eq := cnt_row (f := allSpk T N set) ap0 (fun x hx1 hx2 hx3 => ((rw3 x (by omega)).mp ⟨hx1, hx3⟩).1) hp1 hM
      have eq2 : cnt (fun j => opB T N set ((a + j * sp) % N 2 0)) (if a ≤ h + n - 1 then (h + n - 1 - a) / sp + 1 else 0) = cnt (fun j => allSpk T N set (a + j * sp)) (if a ≤ h + n - 1 then (h + n - 1 - a) / sp + 1 else 0) := cnt_congr (fun j hj => by
        have hb := (hM j).mp hj
        have q := rw3 (a + j * sp) (by omega)
        rw [Bool.eq_iff_iff]
        constructor
        · intro g; exact (q.mpr ⟨⟨j, rfl⟩, g⟩).2
        · intro g; exact (q.mp ⟨by have := Nat.le_add_right a (j * sp); omega, g⟩).2)
      rw [eq2, ← eq]
      exact hQ w4 f4'
def vTog (N : vS) (set : Int32) (h n : Int64) : Prop := vSet (N 0 0) set ∧ vHours h n
theorem c_together {set : Int32} {h n : Int64} (hd : 6 ≤ d) (hX : rX w N K T Z) (hy : ∀ w', vTog N set h n → rX w' N K T Z → fr (fun c => c < 72) w w' → QL (lN (tgF T N (qIx set) h.toNatClampNeg n.toNatClampNeg)) w') (hn : ¬ vTog N set h n → QL (-1) w) : qCall (some s) d 119 [.ref 1, .int set, .long h, .long n] w (qQl QL) := by
  obtain ⟨d, rfl, hd1⟩ := dS hd
  have o0 := hX.okn.p12
  have hL := tL
  refine A_X_together (c_isSet (by omega) hX.n.ppl o0 (fun g1 => b1 (c_areHours (by omega) (fun g2 => n1 ?_) (fun g => n0 (hn (fun q => g q.2))))) (fun g => b0 (hn (fun q => g q.1))))
  have g : vTog N set h n := ⟨g1, g2⟩
  obtain ⟨m, h1, h2, h3, e, e2⟩ := vSet_x o0 g1
  obtain ⟨a, b, ea, eb, ea2, eb2, h4, h5⟩ := vHours_x g2
  rw [e2, ea2, eb2] at hy
  subst e ea eb
  rw [lN_add, show (1 : Int64) = lN 1 from rfl, lN_sub (by omega)]
  refine c_countOf hd1 hX h1 h2 h4 (by omega) ?_
  intro w2 f2
  exact hy w2 g (hX.m53 f2) (fr_wk f2 (fun c hc => by omega))
def nxF (T : Nat → vT) (S : vS) (set h : Nat) (r : Int64) : Prop := (S 1 0 = 0 → nx0 T S set h r) ∧ (¬ S 1 0 = 0 → nxD T S set h r)
theorem nxF_u {set h : Nat} {r r' : Int64} (a : nxF T S set h r) (b : nxF T S set h r') : r = r' := by
  by_cases g : S 1 0 = 0
  · exact nx0_u (a.1 g) (b.1 g)
  · exact nxD_u (a.2 g) (b.2 g)
def vNxt (N : vS) (set : Int32) (h : Int64) : Prop := vSet (N 0 0) set ∧ vHour h
theorem c_next {set : Int32} {h : Int64} (hd : 7 ≤ d) (hX : rX w N K T Z) (hy : ∀ w' r, vNxt N set h → nxF T N (qIx set) h.toNatClampNeg r → rX w' N K T Z → fr (fun c => c < 72) w w' → QL r w') (hn : ¬ vNxt N set h → QL (-1) w) : qCall (some s) d 96 [.ref 1, .int set, .long h] w (qQl QL) := by
  obtain ⟨d, rfl, hd1⟩ := dS hd
  obtain ⟨d, rfl, hd2⟩ := dS hd1
  have o0 := hX.okn.p12
  have od := hX.okn.day
  have hL := tL
  refine A_X_next (c_isSet (by omega) hX.n.ppl o0 (fun g1 => b1 (c_isHour (by omega) (fun g2 => n1 ?_) (fun g => n0 (hn (fun q => g q.2))))) (fun g => b0 (hn (fun q => g q.1))))
  have g : vNxt N set h := ⟨g1, g2⟩
  obtain ⟨m, h1, h2, h3, e, e2⟩ := vSet_x o0 g1
  obtain ⟨a, ha, ea, ea2⟩ := vHour_x g2
  rw [e2, ea2] at hy
  subst e ea
  refine A_Meetings_firstFrom (c_openClocks (by omega) hX h2 ?_)
  rw [hX.n.day, show (nI (N 1 0) ≤ (0 : Int32)) ↔ N 1 0 ≤ 0 from nI_leI (b := 0) (by omega) (by omega)]
  refine ⟨fun gd => c_firstWithoutDay (by omega) hX h3 (by omega) (by omega) ?_, fun gd => c_firstByDay (by omega) hX h1 h2 (by omega) (by omega) ?_⟩
  · intro w2 r f2 q
    exact hy w2 r g ⟨fun _ => q, fun g => absurd (by omega) g⟩ (hX.m53 (fr_wk f2 (fun c hc => Or.inl hc))) (fr_wk f2 (fun c hc => by omega))
  · intro r q
    exact hy w r g ⟨fun g => absurd g (by omega), fun _ => q⟩ hX (fr_rf _ _)
end Together
