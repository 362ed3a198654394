/-! child: both sides. -/
section Child
variable {s : Nat × (Nat → Int32)} {d : Nat} {w : qW} {Q : Int32 → qW → Prop} {QL : Int64 → qW → Prop} {R : qW → Prop} {N S K : vS} {T : Nat → vT} {Z : vZ}
def chM (S : vS) (q v p : Nat) : Bool := decide (((Nat.gcd q (S 10 p) : Nat) : Int) ∣ (v : Int) - (S 11 p : Int))
def chI (S : vS) (B F q v : Nat) : Bool := (List.range (S 0 0)).all fun p => !(B ||| F).testBit p || (chM S q v p == B.testBit p)
def chQ (S : vS) (B F q : Nat) : Option Nat := (List.range q).find? (chI S B F q)
def chL (S : vS) (B F : Nat) : Nat → Nat → Int32
  | 0, _ => -1
  | f + 1, q => match chQ S B F q with
    | some v => nI (1000 * q + v)
    | none => chL S B F f (q + 1)
theorem chL_y {B F f q v : Nat} (h : chQ S B F q = some v) : chL S B F (f + 1) q = nI (1000 * q + v) := by
  show (match chQ S B F q with | some v => nI (1000 * q + v) | none => chL S B F f (q + 1)) = _
  rw [h]
theorem chL_n {B F f q : Nat} (h : chQ S B F q = none) : chL S B F (f + 1) q = chL S B F f (q + 1) := by
  show (match chQ S B F q with | some v => nI (1000 * q + v) | none => chL S B F f (q + 1)) = _
  rw [h]
theorem chI_t {B F q v : Nat} : chI S B F q v = true ↔ ∀ p, p < S 0 0 → (B ||| F).testBit p = true → chM S q v p = B.testBit p := by
  unfold chI
  rw [List.all_eq_true]
  refine ⟨fun h p hp hb => ?_, fun h p hp => ?_⟩
  · have := h p (List.mem_range.mpr hp)
    rw [hb] at this
    exact eq_of_beq this
  · have hp := List.mem_range.mp hp
    cases hb : (B ||| F).testBit p with
    | false => rfl
    | true => rw [h p hp hb, beq_self_eq_true]; rfl
theorem chI_f {B F q v p : Nat} (hp : p < S 0 0) (hb : (B ||| F).testBit p = true) (h : ¬ chM S q v p = B.testBit p) : chI S B F q v = false := by
  cases e : chI S B F q v with
  | false => rfl
  | true => exact absurd (chI_t.mp e p hp hb) h
/-- the least common multiple of what the first k of a set share with q -/
def chS (S : vS) (set q : Nat) : Nat → Nat
  | 0 => 1
  | k + 1 => if set.testBit k then Nat.lcm (chS S set q k) (Nat.gcd q (S 10 k)) else chS S set q k
theorem chS_q {set q : Nat} (hq : 1 ≤ q) : ∀ k, chS S set q k ∣ q
  | 0 => Nat.one_dvd _
  | k + 1 => by
    unfold chS
    split
    · exact Nat.lcm_dvd (chS_q hq k) (Nat.gcd_dvd_left _ _)
    · exact chS_q hq k
theorem chS_b {set q k : Nat} (hq : 1 ≤ q) : 1 ≤ chS S set q k ∧ chS S set q k ≤ q := ⟨Nat.pos_of_dvd_of_pos (chS_q hq k) hq, Nat.le_of_dvd hq (chS_q hq k)⟩
theorem chS_p {set q : Nat} : ∀ {k p : Nat}, p < k → set.testBit p = true → Nat.gcd q (S 10 p) ∣ chS S set q k
  | 0, p, h, _ => absurd h (Nat.not_lt_zero _)
  | k + 1, p, h, hb => by
    unfold chS
    by_cases e : p = k
    · subst e
      rw [if_pos hb]
      exact Nat.dvd_lcm_right _ _
    · have := chS_p (q := q) (k := k) (by omega) hb
      split
      · exact Nat.dvd_trans this (Nat.dvd_lcm_left _ _)
      · exact this
theorem chM_m {q v p m : Nat} (h : Nat.gcd q (S 10 p) ∣ m) : chM S q v p = chM S q (v % m) p := by
  unfold chM
  have e : (v : Int) - (S 11 p : Int) = ((v % m : Nat) : Int) - (S 11 p : Int) + (m : Int) * ((v / m : Nat) : Int) := by
    have := Nat.mod_add_div v m
    have e2 : (v : Int) = ((v % m : Nat) : Int) + (m : Int) * ((v / m : Nat) : Int) := by
      rw [← Int.natCast_mul, ← Int.natCast_add, this]
    omega
  have hm : ((Nat.gcd q (S 10 p) : Nat) : Int) ∣ (m : Int) * ((v / m : Nat) : Int) := Int.dvd_mul_of_dvd_left (Int.natCast_dvd_natCast.mpr h)
  rw [e]
  congr 1
  rw [eq_iff_iff]
  exact (Int.dvd_add_left hm)
theorem chI_m {B F q v : Nat} : chI S B F q v = chI S B F q (v % chS S (B ||| F) q (S 0 0)) := by
  have h : ∀ p, p < S 0 0 → (B ||| F).testBit p = true → chM S q v p = chM S q (v % chS S (B ||| F) q (S 0 0)) p := fun p hp hb => chM_m (chS_p hp hb)
  cases e : chI S B F q (v % chS S (B ||| F) q (S 0 0)) with
  | true =>
    rw [chI_t] at e ⊢
    intro p hp hb
    rw [h p hp hb]; exact e p hp hb
  | false =>
    cases e2 : chI S B F q v with
    | false => rfl
    | true =>
      rw [← e]
      symm
      rw [chI_t] at e2 ⊢
      intro p hp hb
      rw [← h p hp hb]; exact e2 p hp hb
theorem find_per {f : Nat → Bool} {q m : Nat} (h1 : 1 ≤ m) (h2 : m ≤ q) (hp : ∀ v, f v = f (v % m)) : (List.range q).find? f = (List.range m).find? f := by
  cases e : (List.range m).find? f with
  | some v =>
    rw [List.find?_range_eq_some] at e
    obtain ⟨e1, e2, e3⟩ := e
    refine find_some (Nat.lt_of_lt_of_le (List.mem_range.mp e2) h2) e1 (fun j hj => ?_)
    have := e3 j hj
    cases ej : f j with
    | false => rfl
    | true => rw [ej] at this; exact this.symm
  | none =>
    rw [List.find?_eq_none] at e
    refine find_none (fun j _ => ?_)
    have := e (j % m) (List.mem_range.mpr (Nat.mod_lt _ h1))
    rw [hp j]
    cases ej : f (j % m) with
    | false => rfl
    | true => exact absurd ej this
theorem chQ_s {B F q : Nat} (hq : 1 ≤ q) : chQ S B F q = (List.range (chS S (B ||| F) q (S 0 0))).find? (chI S B F q) :=
  find_per (chS_b hq).1 (chS_b hq).2 (fun _ => chI_m)
theorem rem0i {a b g : Nat} (ha : a ≤ 99999) (hb : b ≤ 99999) (hg : 1 ≤ g) (hg2 : g ≤ 99999) : (qRem (nI a - nI b) (nI g) = 0) ↔ (g : Int) ∣ (a : Int) - (b : Int) := by
  have hb2 : (((a : Int) - (b : Int)).tmod (g : Int)).natAbs < g := by
    rw [Int.natAbs_tmod]
    exact Nat.mod_lt _ (by omega)
  rw [nI_Z, nI_Z b, iZ_sub, nI_Z g, qRem_Z (by omega) (by omega), show (0 : Int32) = iZ 0 from rfl, iZ_eq (by omega) (by omega)]
  exact ⟨fun q => Int.dvd_of_tmod_eq_zero q, fun q => Int.tmod_eq_zero_of_dvd q⟩
/-! the class -/
theorem c_lcm {a b : Nat} (hd : 2 ≤ d) (ha : 1 ≤ a ∧ a ≤ 99999) (hb : 1 ≤ b ∧ b ≤ 99999) (hQ : QL (lN (Nat.lcm a b)) w) : qCall (some s) d 166 [.long (lN a), .long (lN b)] w (qQl QL) := by
  obtain ⟨d, rfl, hd1⟩ := dS hd
  have g1 : 1 ≤ Nat.gcd a b := Nat.gcd_pos_of_pos_left _ ha.1
  have g2 : Nat.gcd a b ≤ a := Nat.gcd_le_left _ ha.1
  refine A_X_common (c_gcd hd1 (by omega) (by omega) ⟨?_, ?_⟩)
  · rw [eqL0 (by omega)]; omega
  · rw [lN_div' (by omega) (by omega) (by omega), lN_mul]
    have e : a / Nat.gcd a b * b = Nat.lcm a b := by
      unfold Nat.lcm
      rw [Nat.mul_comm a b, Nat.mul_div_assoc b (Nat.gcd_dvd_left a b), Nat.mul_comm]
    rw [e]; exact hQ
theorem c_spanOfChild {q set : Nat} (hd : 3 ≤ d) (hX : rX w N K T Z) (hq : 1 ≤ q ∧ q ≤ 999) (hs : set < 4096) (hQ : ∀ w', fr (fun c => c = 65) w w' → (∀ p, p < N 0 0 → set.testBit p = true → w'.1 65 p = nI (Nat.gcd q (N 10 p))) → Q (nI (chS N set q (N 0 0))) w') : qCall (some s) d 192 [.ref 61, .int (nI q), .int (nI set)] w (qQi Q) := by
  obtain ⟨d, rfl, hd1⟩ := dS hd
  have o := hX.okn
  have o0 := o.p12
  refine A_Searches_spanOfChild ?_
  refine lpU (i := 0) (n := N 0 0) (I := fun k w' => fr (fun c => c = 65) w w' ∧ ∀ p, p < k → set.testBit p = true → w'.1 65 p = nI (Nat.gcd q (N 10 p))) (P := fun k w' => qAt s d c_Searches_spanOfChild (qQi Q) 5 [some (.ref 61), some (.int (nI q)), some (.int (nI set)), some (.long (lN (chS N set q k))), none, some (.int (nI k))] [] w') ?_ ?_ (Nat.zero_le _) ⟨fr_rf _ _, fun p hp => absurd hp (Nat.not_lt_zero _)⟩
  · intro w' ⟨f, h⟩
    have hX' : rX w' N K T Z := hX.keep f (fun c => ⟨fun _ _ => by omega, by omega⟩)
    have b := chS_b (S := N) (set := set) (k := N 0 0) hq.1
    refine A_Searches_spanOfChild_5 ?_
    rw [hX'.n.ppl, nI_leI (by omega) (by omega), lN_i]
    exact ⟨fun _ => hQ w' f h, fun g => absurd (Nat.le_refl _) g⟩
  · intro k w' hk ⟨f, h⟩ ih
    have hX' : rX w' N K T Z := hX.keep f (fun c => ⟨fun _ _ => by omega, by omega⟩)
    have b := chS_b (S := N) (set := set) (k := k) hq.1
    have on := o.num k hk
    have gb := gcd_b hq.1 on.1 on.2
    have gq : Nat.gcd q (N 10 k) ≤ q := Nat.gcd_le_left _ hq.1
    refine A_Searches_spanOfChild_5 ?_
    rw [hX'.n.ppl, nI_leI (by omega) (by omega), nI_1]
    refine ⟨fun g => by omega, fun _ => c_isOfB (by omega) (by omega) (fun g => b1 ?_) (fun g => b0 ?_)⟩
    · rw [mem12_nI (by omega)] at g
      rw [qIx_nI (by omega), hX'.n.num k hk, nI_l (by omega), nI_l (by omega)]
      refine ⟨qIn_nI (by omega) (by decide), c_gcd (by omega) (by omega) (by omega) ⟨qIn_nI (by omega) (by decide), qIn_nI (by omega) (by decide), ?_⟩⟩
      rw [pI_e, lN_i, nI_l (by omega)]
      refine c_lcm (by omega) (by omega) (by omega) ?_
      have e : chS N set q (k + 1) = Nat.lcm (chS N set q k) (Nat.gcd q (N 10 k)) := by
        show (if set.testBit k then _ else _) = _
        rw [if_pos g]
      rw [← e]
      refine ih _ ⟨fr_I f rfl, fun p hp hb => ?_⟩
      by_cases ep : p = k
      · subst ep; rw [pI_e]
      · rw [pI_f ep]; exact h p (by omega) hb
    · rw [mem12_nI (by omega)] at g
      have e : chS N set q (k + 1) = chS N set q k := by
        show (if set.testBit k then _ else _) = _
        rw [if_neg (by rw [g]; exact fun x => Bool.noConfusion x)]
      rw [← e]
      refine ih _ ⟨f, fun p hp hb => ?_⟩
      by_cases ep : p = k
      · subst ep; rw [g] at hb; exact Bool.noConfusion hb
      · exact h p (by omega) hb
theorem c_isChild {q v B F : Nat} (hd : 2 ≤ d) (hX : rX w N K T Z) (hq : 1 ≤ q ∧ q ≤ 999) (hv : v < q) (hB : B < 4096) (hF : F < 4096) (h65 : ∀ p, p < N 0 0 → (B ||| F).testBit p = true → w.1 65 p = nI (Nat.gcd q (N 10 p))) (hQ : Q (tI (chI N B F q v)) w) : qCall (some s) d 193 [.ref 61, .int (nI v), .int (nI B), .int (nI F)] w (qQi Q) := by
  obtain ⟨d, rfl, hd1⟩ := dS hd
  have o := hX.okn
  have o0 := o.p12
  have hBF : B ||| F < 4096 := Nat.or_lt_two_pow (n := 12) hB hF
  refine A_Searches_isChild ?_
  refine lpN (i := 0) (n := N 0 0) (P := fun k => (∀ p, p < k → (B ||| F).testBit p = true → chM N q v p = B.testBit p) → qAt s d c_Searches_isChild (qQi Q) 3 [some (.ref 61), some (.int (nI v)), some (.int (nI B)), some (.int (nI F)), some (.int (nI k)), none] [] w) ?_ ?_ (Nat.zero_le _) (fun p hp => absurd hp (Nat.not_lt_zero _))
  · intro h
    refine A_Searches_isChild_3 ?_
    rw [hX.n.ppl, nI_leI (by omega) (by omega)]
    rw [chI_t.mpr h] at hQ
    exact ⟨fun _ => hQ, fun g => absurd (Nat.le_refl _) g⟩
  · intro k hk ih h
    have on := o.num k hk
    have of := o.fst k hk
    have gb := gcd_b hq.1 on.1 on.2
    refine A_Searches_isChild_3 ?_
    rw [hX.n.ppl, nI_leI (by omega) (by omega), nI_1, nI_or, qIx_nI (by omega)]
    refine ⟨fun g => by omega, fun _ => c_isOfB (by omega) (by omega) (fun g => b1 ?_) (fun g => b0 ?_)⟩
    · rw [mem12_nI (by omega)] at g
      rw [h65 k hk g, hX.n.fst k hk, rem0i (by omega) (by omega) gb.1 (by omega), eq0 (by omega)]
      have good : chM N q v k = B.testBit k → qAt s d c_Searches_isChild (qQi Q) 3 [some (.ref 61), some (.int (nI v)), some (.int (nI B)), some (.int (nI F)), some (.int (nI (k + 1))), none] [] w := by
        intro e
        refine ih (fun p hp hb => ?_)
        by_cases ep : p = k
        · subst ep; exact e
        · exact h p (by omega) hb
      have bad : ¬ chM N q v k = B.testBit k → Q 0 w := by
        intro e
        rw [chI_f hk g e] at hQ; exact hQ
      refine ⟨qIn_nI (by omega) (by decide), qIn_nI (by omega) (by decide), by omega, fun g2 => ?_, fun g2 => ?_⟩
      · have e : chM N q v k = false := decide_eq_false g2
        rw [e] at good bad
        refine c_isOfB (by omega) (by omega) (fun g3 => ⟨fun x => absurd x (by decide), fun _ => ?_⟩) (fun g3 => ⟨fun _ => ?_, fun x => absurd rfl x⟩)
        · rw [mem12_nI (by omega)] at g3; exact bad (by rw [g3]; exact fun x => Bool.noConfusion x)
        · rw [mem12_nI (by omega)] at g3; exact good (by rw [g3])
      · have e : chM N q v k = true := decide_eq_true g2
        rw [e] at good bad
        refine c_isOfB (by omega) (by omega) (fun g3 => ⟨fun _ => ?_, fun x => absurd rfl x⟩) (fun g3 => ⟨fun x => absurd x (by decide), fun _ => ?_⟩)
        · rw [mem12_nI (by omega)] at g3; exact good (by rw [g3])
        · rw [mem12_nI (by omega)] at g3; exact bad (by rw [g3]; exact fun x => Bool.noConfusion x)
    · rw [mem12_nI (by omega)] at g
      refine ih (fun p hp hb => ?_)
      by_cases ep : p = k
      · subst ep; rw [g] at hb; exact Bool.noConfusion hb
      · exact h p (by omega) hb
theorem c_leastChild {m B F : Nat} (hd : 4 ≤ d) (hX : rX w N K T Z) (hm : m ≤ 999) (hB : B < 4096) (hF : F < 4096) (hQ : ∀ w', fr (fun c => c = 65) w w' → Q (chL N B F m 1) w') : qCall (some s) d 191 [.ref 61, .int (nI B), .int (nI F), .int (nI m)] w (qQi Q) := by
  obtain ⟨d, rfl, hd1⟩ := dS hd
  have hBF : B ||| F < 4096 := Nat.or_lt_two_pow (n := 12) hB hF
  refine A_Searches_leastChild ?_
  have loop : ∀ f q w1, q + f = m + 1 → 1 ≤ q → fr (fun c => c = 65) w w1 → (∀ w', fr (fun c => c = 65) w w' → Q (chL N B F f q) w') → qAt s d c_Searches_leastChild (qQi Q) 3 [some (.ref 61), some (.int (nI B)), some (.int (nI F)), some (.int (nI m)), some (.int (nI q)), none, none] [] w1 := by
    intro f
    induction f with
    | zero =>
      intro q w1 hq h1 f1 hQ
      refine A_Searches_leastChild_3 ?_
      rw [nI_ltI (by omega) (by omega)]
      exact ⟨fun _ => hQ w1 f1, fun g => absurd (by omega) g⟩
    | succ f ih =>
      intro q w1 hq h1 f1 hQ
      have hX1 : rX w1 N K T Z := hX.keep f1 (fun c => ⟨fun _ _ => by omega, by omega⟩)
      have b := chS_b (S := N) (set := B ||| F) (k := N 0 0) h1
      refine A_Searches_leastChild_3 ?_
      rw [nI_ltI (by omega) (by omega), nI_or]
      refine ⟨fun g => by omega, fun _ => c_spanOfChild (by omega) hX1 ⟨h1, by omega⟩ hBF (fun w2 f2 h65 => ?_)⟩
      have hX2 : rX w2 N K T Z := hX1.keep f2 (fun c => ⟨fun _ _ => by omega, by omega⟩)
      have f12 := fr_tr f1 f2
      refine lpN (i := 0) (n := chS N (B ||| F) q (N 0 0)) (P := fun v => (∀ u, u < v → chI N B F q u = false) → qAt s d c_Searches_leastChild (qQi Q) 23 [some (.ref 61), some (.int (nI B)), some (.int (nI F)), some (.int (nI m)), some (.int (nI q)), some (.int (nI (chS N (B ||| F) q (N 0 0)))), some (.int (nI v))] [] w2) ?_ ?_ (Nat.zero_le _) (fun u hu => absurd hu (Nat.not_lt_zero _))
      · intro h
        refine A_Searches_leastChild_23 ?_
        rw [nI_leI (by omega) (by omega), nI_1]
        refine ⟨fun _ => ?_, fun g => absurd (Nat.le_refl _) g⟩
        rw [chL_n (by rw [chQ_s h1]; exact find_none h)] at hQ
        exact ih (q + 1) w2 (by omega) (by omega) f12 hQ
      · intro v hv ihv h
        refine A_Searches_leastChild_23 ?_
        rw [nI_leI (by omega) (by omega), nI_1 v]
        refine ⟨fun g => by omega, fun _ => c_isChild (q := q) (by omega) hX2 ⟨h1, by omega⟩ (by omega) hB hF h65 ?_⟩
        cases e : chI N B F q v with
        | false =>
          refine ⟨fun _ => ihv (fun u hu => ?_), fun x => absurd rfl x⟩
          by_cases eu : u = v
          · subst eu; exact e
          · exact h u (by omega)
        | true =>
          refine ⟨fun x => absurd x (by decide), fun _ => ?_⟩
          rw [chL_y (by rw [chQ_s h1]; exact find_some hv e h)] at hQ
          rw [show (1000 : Int32) = nI 1000 from rfl, nI_mul', nI_add]
          exact hQ w2 f12
  exact loop m 1 w (by omega) (by omega) (fr_rf _ _) hQ
def vCh (N : vS) (a b f m : Int32) : Prop := (¬ a = b ∧ vTold (N 0 0) a ∧ vTold (N 0 0) b) ∧ (1 ≤ m ∧ m ≤ 999) ∧ (0 ≤ f ∧ f < nI (2 ^ N 0 0)) ∧ (qIx f).testBit (qIx a) = false ∧ (qIx f).testBit (qIx b) = false
def fCh (N : vS) (a b f m : Int32) : Int32 := chL N (2 ^ qIx a ||| 2 ^ qIx b) (qIx f) (qIx m) 1
theorem and_pair {F x y : Nat} : F &&& (2 ^ x ||| 2 ^ y) = 0 ↔ F.testBit x = false ∧ F.testBit y = false := by
  refine ⟨fun h => ?_, fun h => ?_⟩
  · have hx := congrArg (fun n => n.testBit x) h
    have hy := congrArg (fun n => n.testBit y) h
    simp only [Nat.testBit_and, pair_bit, decide_true, Bool.true_or, Bool.or_true, Bool.and_true, Nat.zero_testBit] at hx hy
    exact ⟨hx, hy⟩
  · apply Nat.eq_of_testBit_eq
    intro i
    rw [Nat.testBit_and, pair_bit, Nat.zero_testBit]
    by_cases e1 : x = i
    · subst e1; rw [h.1]; rfl
    · by_cases e2 : y = i
      · subst e2; rw [h.2]; rfl
      · rw [decide_eq_false e1, decide_eq_false e2]; exact Bool.and_false _
theorem in_pow {P : Nat} {f : Int32} (hP : P ≤ 12) (h : 0 ≤ f ∧ f < nI (2 ^ P)) : ∃ n, n < 2 ^ P ∧ n < 4096 ∧ f = nI n ∧ qIx f = n := by
  have hp := p12 hP
  obtain ⟨n, -, hn, e, e2⟩ := nI_rng 0 (2 ^ P) h.1 (Int32.le_of_lt h.2) (by omega) (by decide)
  have h2 := h.2
  rw [e, nI_ltI (by omega) (by omega)] at h2
  exact ⟨n, h2, by omega, e, e2⟩
theorem c_child {a b f m : Int32} (hd : 5 ≤ d) (hX : rX w N K T Z) (hy : ∀ w', vCh N a b f m → rX w' N K T Z → fr (fun c => c < 72) w w' → Q (fCh N a b f m) w') (hn : ¬ vCh N a b f m → Q (-1) w) : qCall (some s) d 190 [.ref 1, .int a, .int b, .int f, .int m] w (qQi Q) := by
  obtain ⟨d, rfl, hd1⟩ := dS hd
  have r := hX.n
  have o := hX.okn
  have o0 := o.p12
  refine A_X_child (c_isPair (by omega) r.ppl o0 (fun g1 => b1 ⟨fun g => hn (fun q => absurd g (Int32.not_lt.mpr q.2.1.1)), fun g2 => ⟨fun g3 => ?_, fun g => hn (fun q => g q.2.1.2)⟩⟩) (fun g => b0 (hn (fun q => g q.1))))
  obtain ⟨x, hx, ea, ea2⟩ := vTold_x o0 g1.2.1
  obtain ⟨y, hy', eb, eb2⟩ := vTold_x o0 g1.2.2
  obtain ⟨k, hk1, hk2, em, em2⟩ := nI_rng 1 999 (Int32.not_lt.mp g2) g3
  have at52 : (0 ≤ f ∧ f < nI (2 ^ N 0 0)) → qAt s d c_X_child (qQi Q) 52 [some (.ref 1), none, none, some (.int f), some (.int m), some (.int (qShl (1 : Int32) a ||| qShl (1 : Int32) b))] [] w := by
    intro gf
    obtain ⟨F, hF, hF2, ef, ef2⟩ := in_pow o0 gf
    have eqv : vCh N a b f m ↔ F.testBit x = false ∧ F.testBit y = false := by
      unfold vCh
      rw [ea2, eb2, ef2]
      exact ⟨fun q => q.2.2.2, fun q => ⟨g1, ⟨Int32.not_lt.mp g2, g3⟩, gf, q⟩⟩
    have ev : fCh N a b f m = chL N (2 ^ x ||| 2 ^ y) F k 1 := by
      unfold fCh
      rw [ea2, eb2, ef2, em2]
    rw [ev] at hy
    rw [eqv] at hn
    have hz := fun w' h => hy w' (eqv.mpr h)
    subst ea eb em ef
    have e1 : ∀ i, i < 12 → qShl (1 : Int32) (nI i) = nI (2 ^ i) := fun i hi => qShl_n (i := i) (by omega)
    rw [e1 x (by omega), e1 y (by omega), nI_or]
    have hB : 2 ^ x ||| 2 ^ y < 4096 := pair_lt (by omega) (by omega)
    refine A_X_child_52 ?_
    rw [nI_and, eq0 (Nat.lt_of_le_of_lt Nat.and_le_left (by omega)), and_pair]
    refine ⟨fun g => c_leastChild (by omega) hX (by omega) hB hF2 (fun w' f' => ?_), fun g => hn g⟩
    exact hz w' g (hX.keep f' (fun c => ⟨fun _ _ => by omega, by omega⟩)) (fr_wk f' (fun c hc => by omega))
  have hp := p12 o0
  refine ⟨fun g4 => at52 ?_, fun g4 => c_isSet (by omega) r.ppl o0 (fun g5 => b1 (at52 ⟨Int32.le_of_lt g5.1, g5.2⟩)) (fun g5 => b0 (hn (fun q => g5 ?_)))⟩
  · rw [g4]
    exact ⟨Int32.le_refl _, (nI_ltI (a := 0) (by decide) (by omega)).mpr (by omega)⟩
  · refine ⟨?_, q.2.2.1.2⟩
    have h0 := q.2.2.1.1
    rcases Int32.le_iff_lt_or_eq.mp h0 with e | e
    · exact e
    · exact absurd e.symm g4
/-! the reference -/
theorem m_meets {q v p : Nat} (hd : 2 ≤ d) (hT : tkA w T S) (oS : okS S) (hq : 1 ≤ q ∧ q ≤ 999) (hv : v < q) (hp : p < S 0 0) (hQ : Q (tI (chM S q v p)) w) : qCall (some s) d 320 [.ref 72, .int (nI q), .int (nI v), .int (nI p)] w (qQi Q) := by
  obtain ⟨d, rfl, hd1⟩ := dS hd
  have o0 := oS.p12
  have on := oS.num p hp
  have of := oS.fst p hp
  have gb := gcd_b hq.1 on.1 on.2
  refine A_Mo_meets ⟨qIn_nI (by omega) (by decide), qIn_nI (by omega) (by decide), ?_⟩
  rw [qIx_nI (by omega), (hT p hp).num, nI_l (by omega), nI_l (by omega)]
  refine m_common hd1 (by omega) (by omega) ?_
  rw [(hT p hp).fst, rem0 (by omega) (by omega) gb.1 (by omega), eqL0 (by omega)]
  unfold chM at hQ
  refine ⟨by omega, fun g => ?_, fun g => ?_⟩
  · rw [decide_eq_false g] at hQ; exact hQ
  · rw [decide_eq_true g] at hQ; exact hQ
def chO (S : vS) (F q v : Nat) : Bool := (List.range (S 0 0)).all fun p => !F.testBit p || !chM S q v p
theorem chO_t {F q v : Nat} : chO S F q v = true ↔ ∀ p, p < S 0 0 → F.testBit p = true → chM S q v p = false := by
  unfold chO
  rw [List.all_eq_true]
  refine ⟨fun h p hp hb => ?_, fun h p hp => ?_⟩
  · have := h p (List.mem_range.mpr hp)
    rw [hb] at this
    cases e : chM S q v p with
    | false => rfl
    | true => rw [e] at this; exact Bool.noConfusion this
  · have hp := List.mem_range.mp hp
    cases hb : F.testBit p with
    | false => rfl
    | true => rw [h p hp hb]; rfl
theorem m_isChild {q v F : Nat} (hd : 3 ≤ d) (hX : rM w N K T Z) (hT : tkA w T N) (hq : 1 ≤ q ∧ q ≤ 999) (hv : v < q) (hF : F < 4096) (hQ : Q (tI (chO N F q v)) w) : qCall (some s) d 321 [.ref 72, .int (nI q), .int (nI v), .int (nI F)] w (qQi Q) := by
  obtain ⟨d, rfl, hd1⟩ := dS hd
  have oS := hX.okn
  have o0 := oS.p12
  refine A_Mo_isChild ?_
  refine lpN (i := 0) (n := N 0 0) (P := fun k => (∀ p, p < k → F.testBit p = true → chM N q v p = false) → qAt s d c_Mo_isChild (qQi Q) 3 [some (.ref 72), some (.int (nI q)), some (.int (nI v)), some (.int (nI F)), some (.int (nI k))] [] w) ?_ ?_ (Nat.zero_le _) (fun p hp => absurd hp (Nat.not_lt_zero _))
  · intro h
    refine A_Mo_isChild_3 ⟨qIn_nI (j := 0) (by decide) (by decide), ?_⟩
    rw [qIx_0, hX.n.ppl, nI_leI (by omega) (by omega)]
    rw [chO_t.mpr h] at hQ
    exact ⟨fun _ => hQ, fun g => absurd (Nat.le_refl _) g⟩
  · intro k hk ih h
    refine A_Mo_isChild_3 ⟨qIn_nI (j := 0) (by decide) (by decide), ?_⟩
    rw [qIx_0, hX.n.ppl, nI_leI (by omega) (by omega), nI_1]
    refine ⟨fun g => by omega, fun _ => m_has (by omega) (by omega) (by omega) (fun g => b1 (m_meets (by omega) hT oS hq hv hk ?_)) (fun g => b0 (ih (fun p hp hb => ?_)))⟩
    · cases e : chM N q v k with
      | false =>
        refine ⟨fun _ => ih (fun p hp hb => ?_), fun x => absurd rfl x⟩
        by_cases ep : p = k
        · subst ep; exact e
        · exact h p (by omega) hb
      | true =>
        refine ⟨fun x => absurd x (by decide), fun _ => ?_⟩
        have : chO N F q v = false := by
          cases e2 : chO N F q v with
          | false => rfl
          | true => rw [chO_t.mp e2 k hk g] at e; exact e.symm
        rw [this] at hQ; exact hQ
    · by_cases ep : p = k
      · subst ep; rw [g] at hb; exact Bool.noConfusion hb
      · exact h p (by omega) hb
theorem chI_o {x y F q v : Nat} (hx : x < S 0 0) (hy : y < S 0 0) (h1 : F.testBit x = false) (h2 : F.testBit y = false) : chI S (2 ^ x ||| 2 ^ y) F q v = (chM S q v x && (chM S q v y && chO S F q v)) := by
  have key : chI S (2 ^ x ||| 2 ^ y) F q v = true ↔ (chM S q v x && (chM S q v y && chO S F q v)) = true := by
    rw [chI_t, Bool.and_eq_true, Bool.and_eq_true, chO_t]
    refine ⟨fun h => ⟨?_, ?_, fun p hp hb => ?_⟩, fun h p hp hb => ?_⟩
    · rw [h x hx (by rw [Nat.testBit_or, pair_bit, decide_eq_true rfl]; rfl), pair_bit, decide_eq_true rfl]; rfl
    · rw [h y hy (by rw [Nat.testBit_or, pair_bit, decide_eq_true (p := y = y) rfl, Bool.or_true]; rfl), pair_bit, decide_eq_true (p := y = y) rfl, Bool.or_true]
    · rw [h p hp (by rw [Nat.testBit_or, hb, Bool.or_true]), pair_bit]
      rw [decide_eq_false (fun e => by subst e; rw [h1] at hb; exact Bool.noConfusion hb), decide_eq_false (fun e => by subst e; rw [h2] at hb; exact Bool.noConfusion hb)]; rfl
    · rw [pair_bit]
      by_cases e1 : x = p
      · subst e1; rw [h.1, decide_eq_true rfl]; rfl
      · by_cases e2 : y = p
        · subst e2; rw [h.2.1, decide_eq_true (p := y = y) rfl, Bool.or_true]
        · rw [Nat.testBit_or, pair_bit, decide_eq_false e1, decide_eq_false e2] at hb
          rw [decide_eq_false e1, decide_eq_false e2]
          exact h.2.2 p hp hb
  cases e1 : chI S (2 ^ x ||| 2 ^ y) F q v <;> cases e2 : (chM S q v x && (chM S q v y && chO S F q v))
  · rfl
  · rw [key.mpr e2] at e1; exact Bool.noConfusion e1
  · rw [key.mp e1] at e2; exact Bool.noConfusion e2
  · rfl
theorem m_child {a b f m : Int32} (hd : 6 ≤ d) (hX : rM w N K T Z) (hy : ∀ w', vCh N a b f m → rM w' N K T Z → fr (fun c => 72 ≤ c) w w' → Q (fCh N a b f m) w') (hn : ¬ vCh N a b f m → Q (-1) w) : qCall (some s) d 319 [.ref 72, .int a, .int b, .int f, .int m] w (qQi Q) := by
  obtain ⟨d, rfl, hd1⟩ := dS hd
  have r := hX.n
  have o := hX.okn
  have o0 := o.p12
  have hp := p12 o0
  refine A_Mo_child (m_isPerson (by omega) r.ppl o0 (fun g1 => b1 (m_isPerson (by omega) r.ppl o0 (fun g2 => b1 ⟨fun g => hn (fun q => q.1.1 g), fun g3 => m_isInB (by omega) (fun g4 => b1 ⟨qIn_nI (j := 0) (by decide) (by decide), ?_⟩) (fun g => b0 (hn (fun q => g q.2.1)))⟩) (fun g => b0 (hn (fun q => g q.1.2.2))))) (fun g => b0 (hn (fun q => g q.1.2.1))))
  rw [qIx_0, r.ppl, qShl_P o0]
  have key : (0 ≤ f ∧ f ≤ nI (2 ^ N 0 0) - 1) ↔ (0 ≤ f ∧ f < nI (2 ^ N 0 0)) := by
    obtain ⟨k, hk⟩ : ∃ k, 2 ^ N 0 0 = k + 1 := ⟨2 ^ N 0 0 - 1, by omega⟩
    rw [hk, nI_pred]
    have e0 : (0 : Int32).toInt = 0 := by decide
    rw [Int32.le_iff_toInt_le, Int32.le_iff_toInt_le, Int32.lt_iff_toInt_lt, nI_toInt (by omega), nI_toInt (by omega), e0]
    omega
  refine m_isInB (by omega) (fun g5 => b1 ?_) (fun g => b0 (hn (fun q => g (key.mpr q.2.2.1))))
  have gf := key.mp g5
  obtain ⟨x, hx, ea, ea2⟩ := vTold_x o0 g1
  obtain ⟨y, hy', eb, eb2⟩ := vTold_x o0 g2
  obtain ⟨k, hk1, hk2, em, em2⟩ := nI_rng 1 999 g4.1 g4.2
  obtain ⟨F, hF, hF2, ef, ef2⟩ := in_pow o0 gf
  have eqv : vCh N a b f m ↔ F.testBit x = false ∧ F.testBit y = false := by
    unfold vCh
    rw [ea2, eb2, ef2]
    exact ⟨fun q => q.2.2.2, fun q => ⟨⟨g3, g1, g2⟩, g4, gf, q⟩⟩
  have ev : fCh N a b f m = chL N (2 ^ x ||| 2 ^ y) F k 1 := by
    unfold fCh
    rw [ea2, eb2, ef2, em2]
  rw [ev] at hy
  rw [eqv] at hn
  have hz := fun w' h => hy w' (eqv.mpr h)
  subst ea eb em ef
  refine m_has (by omega) (by omega) (by omega) (fun g => n1 (hn (fun q => by rw [q.1] at g; exact Bool.noConfusion g))) (fun g6 => n0 (m_has (by omega) (by omega) (by omega) (fun g => b1 (hn (fun q => by rw [q.2] at g; exact Bool.noConfusion g))) (fun g7 => b0 (m_take' (by omega) hX (fun w2 f2 hX2 hT => ?_)))))
  have oo : ∀ q v, chI N (2 ^ x ||| 2 ^ y) F q v = (chM N q v x && (chM N q v y && chO N F q v)) := fun q v => chI_o hx hy' g6 g7
  have hz2 := hz w2 ⟨g6, g7⟩ hX2 (fr_wk f2 (fun c hc => by omega))
  have loop : ∀ f q, q + f = k + 1 → 1 ≤ q → Q (chL N (2 ^ x ||| 2 ^ y) F f q) w2 → qAt s d c_Mo_child (qQi Q) 76 [some (.ref 72), some (.int (nI x)), some (.int (nI y)), some (.int (nI F)), some (.int (nI k)), some (.int (nI q)), none] [] w2 := by
    intro f
    induction f with
    | zero =>
      intro q hq h1 hQ
      refine A_Mo_child_76 ?_
      rw [nI_ltI (by omega) (by omega)]
      exact ⟨fun _ => hQ, fun g => absurd (by omega) g⟩
    | succ f ih =>
      intro q hq h1 hQ
      refine A_Mo_child_76 ?_
      rw [nI_ltI (by omega) (by omega)]
      refine ⟨fun g => by omega, fun _ => ?_⟩
      refine lpN (i := 0) (n := q) (P := fun v => (∀ u, u < v → chI N (2 ^ x ||| 2 ^ y) F q u = false) → qAt s d c_Mo_child (qQi Q) 86 [some (.ref 72), some (.int (nI x)), some (.int (nI y)), some (.int (nI F)), some (.int (nI k)), some (.int (nI q)), some (.int (nI v))] [] w2) ?_ ?_ (Nat.zero_le _) (fun u hu => absurd hu (Nat.not_lt_zero _))
      · intro h
        refine A_Mo_child_86 ?_
        rw [nI_leI (by omega) (by omega), nI_1]
        refine ⟨fun _ => ?_, fun g => absurd (Nat.le_refl _) g⟩
        rw [chL_n (find_none h)] at hQ
        exact ih (q + 1) (by omega) (by omega) hQ
      · intro v hv ihv h
        have bad : chI N (2 ^ x ||| 2 ^ y) F q v = false → qAt s d c_Mo_child (qQi Q) 86 [some (.ref 72), some (.int (nI x)), some (.int (nI y)), some (.int (nI F)), some (.int (nI k)), some (.int (nI q)), some (.int (nI (v + 1)))] [] w2 := by
          intro e
          refine ihv (fun u hu => ?_)
          by_cases eu : u = v
          · subst eu; exact e
          · exact h u (by omega)
        have ov := oo q v
        refine A_Mo_child_86 ?_
        rw [nI_leI (by omega) (by omega), nI_1 v]
        refine ⟨fun g => by omega, fun _ => m_meets (by omega) hT o ⟨h1, by omega⟩ hv hx ?_⟩
        cases e : chM N q v x with
        | false => exact ⟨fun _ => bad (by rw [ov, e]; rfl), fun z => absurd rfl z⟩
        | true =>
          refine ⟨fun z => absurd z (by decide), fun _ => m_meets (by omega) hT o ⟨h1, by omega⟩ hv hy' ?_⟩
          cases e2 : chM N q v y with
          | false => exact ⟨fun _ => bad (by rw [ov, e, e2]; rfl), fun z => absurd rfl z⟩
          | true =>
            refine ⟨fun z => absurd z (by decide), fun _ => m_isChild (by omega) hX2 hT ⟨h1, by omega⟩ hv hF2 ?_⟩
            cases e3 : chO N F q v with
            | false => exact ⟨fun _ => bad (by rw [ov, e, e2, e3]; rfl), fun z => absurd rfl z⟩
            | true =>
              refine ⟨fun z => absurd z (by decide), fun _ => ?_⟩
              rw [chL_y (find_some hv (by rw [ov, e, e2, e3]; rfl) h)] at hQ
              rw [show (1000 : Int32) = nI 1000 from rfl, nI_mul', nI_add]
              exact hQ
  exact loop k 1 (by omega) (by omega) hz2
end Child
