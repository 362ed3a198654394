/-! next and together of the class: by days, and as they are called. -/
section ByDay
variable {s : Nat × (Nat → Int32)} {d : Nat} {w : qW} {Q : Int32 → qW → Prop} {QL : Int64 → qW → Prop} {R : qW → Prop} {N S K : vS} {T : Nat → vT} {Z : vZ}
/-- all of a set are due -/
def duA (S : vS) (set t : Nat) : Bool := (List.range (S 0 0)).all (fun p => !set.testBit p || due S p t)
theorem duA_t {set t : Nat} : duA S set t = true ↔ ∀ p, p < S 0 0 → set.testBit p = true → due S p t = true := by
  unfold duA
  rw [List.all_eq_true]
  constructor
  · intro h p hp hb
    have := h p (List.mem_range.mpr hp)
    rw [hb] at this
    simpa using this
  · intro h p hp
    cases hb : set.testBit p with
    | false => rfl
    | true => rw [h p (List.mem_range.mp hp) hb]; rfl
theorem all_day {set x : Nat} (hd : ¬ S 1 0 = 0) : allSpk T S set x = (duA S set (x % S 1 0) && opB T S set (x % S 2 0)) := by
  rw [Bool.eq_iff_iff, Bool.and_eq_true, duA_t, opB_t]
  unfold allSpk spk spkD
  rw [List.all_eq_true, if_neg hd]
  constructor
  · intro g
    refine ⟨fun p hp hb => ?_, fun p hp hb => ?_⟩
    · have := g p (List.mem_range.mpr hp)
      rw [hb] at this
      simp at this
      exact this.1
    · have := g p (List.mem_range.mpr hp)
      rw [hb] at this
      simp at this
      exact this.2
  · rintro ⟨g1, g2⟩ p hp
    cases hb : set.testBit p with
    | false => rfl
    | true => rw [g1 p (List.mem_range.mp hp) hb, g2 p (List.mem_range.mp hp) hb]; rfl
theorem c_rarestOf {set : Nat} (hd : 3 ≤ d) (hX : rX w N K T Z) (h0 : 0 < set) (hs : set < 2 ^ N 0 0) (hQ : ∀ r, r < N 0 0 → set.testBit r = true → Q (nI r) w) : qCall (some s) d 101 [.ref 53, .int (nI set)] w (qQi Q) := by
  obtain ⟨d, rfl, hd1⟩ := dS hd
  have r := hX.n
  have o := hX.okn
  have o0 := o.p12
  have hs2 : set < 4096 := by have := p12 o0; omega
  obtain ⟨l1, l2, l3⟩ := lowB_spec h0 hs2
  have l4 : lowB set < N 0 0 := by
    rcases Nat.lt_or_ge (lowB set) (N 0 0) with g | g
    · exact g
    · rw [bit_hi hs g] at l2; cases l2
  refine A_Meetings_rarestOf (c_lowestOf hd1 h0 hs2 ?_)
  refine lpN (i := lowB set) (n := N 0 0) (P := fun i => ∀ q, q < N 0 0 → set.testBit q = true → qAt s d c_Meetings_rarestOf (qQi Q) 7 [some (.ref 53), some (.int (nI set)), some (.int (nI q)), some (.int (nI i))] [] w) ?_ ?_ (by omega) _ l4 l2
  · intro q hq hb
    refine A_Meetings_rarestOf_7 ?_
    rw [r.ppl]
    exact ⟨fun _ => hQ q hq hb, fun g => absurd (Int32.le_refl _) g⟩
  · intro i hi ih q hq hb
    refine A_Meetings_rarestOf_7 ?_
    rw [r.ppl, nI_leI (by omega) (by omega), nI_1]
    refine ⟨fun g => absurd g (by omega), fun _ => c_isOfB (by omega) (by omega) (fun g1 => b1 ⟨qIn_nI (by omega) (by decide), qIn_nI (by omega) (by decide), fun _ => ih q hq hb, fun _ => ?_⟩) (fun g1 => b0 (ih q hq hb))⟩
    rw [mem12_nI (by omega)] at g1
    exact ih i hi g1
theorem c_areDue {set t : Nat} (hd : 2 ≤ d) (hX : rX w N K T Z) (hs : set < 4096) (ht : t ≤ 99999) (hQ : Q (tI (duA N set t)) w) : qCall (some s) d 105 [.ref 53, .int (nI set), .int (nI t)] w (qQi Q) := by
  obtain ⟨d, rfl, hd1⟩ := dS hd
  have r := hX.n
  have o := hX.okn
  have o0 := o.p12
  refine A_Meetings_areDue ?_
  refine lpN (i := 0) (n := N 0 0) (P := fun i => (List.range i).all (fun p => !set.testBit p || due N p t) = true → qAt s d c_Meetings_areDue (qQi Q) 2 [some (.ref 53), some (.int (nI set)), some (.int (nI t)), some (.int (nI i)), none] [] w) ?_ ?_ (Nat.zero_le _) rfl
  · intro ha
    unfold duA at hQ
    rw [ha] at hQ
    refine A_Meetings_areDue_2 ?_
    rw [r.ppl]
    exact ⟨fun _ => hQ, fun g => absurd (Int32.le_refl _) g⟩
  · intro i hi ih ha
    have on := o.num i hi
    have of := o.fst i hi
    have no : set.testBit i = true → due N i t = false → Q 0 w := by
      intro g1 g2
      have : duA N set t = false := by
        unfold duA
        rw [List.all_eq_false]
        exact ⟨i, List.mem_range.mpr hi, by rw [g1, g2]; decide⟩
      rw [this] at hQ
      exact hQ
    refine A_Meetings_areDue_2 ?_
    rw [r.ppl, nI_leI (by omega) (by omega), nI_1, qIx_nI (by omega)]
    refine ⟨fun g => absurd g (by omega), fun _ => ⟨qIn_nI (by omega) (by decide), c_isOfB (by omega) (by omega) (fun g1 => b1 ?_) (fun g1 => b0 (ih ?_))⟩⟩
    · rw [mem12_nI (by omega)] at g1
      rw [r.fst i hi, r.num i hi]
      have hb2 : (((t : Int) - (N 11 i : Int)).tmod (N 10 i : Int)).natAbs < N 10 i := by
        rw [Int.natAbs_tmod]
        exact Nat.mod_lt _ (by omega)
      have e1 : (nI t - nI (N 11 i) < (0 : Int32)) ↔ ¬ N 11 i ≤ t := by
        rw [nI_Z, nI_Z (N 11 i), iZ_sub, show (0 : Int32) = iZ 0 from rfl, iZ_lt (by omega) (by omega)]
        omega
      have e2 : (qRem (nI t - nI (N 11 i)) (nI (N 10 i)) = (0 : Int32)) ↔ (N 10 i : Int) ∣ (t : Int) - (N 11 i : Int) := by
        rw [nI_Z, nI_Z (N 11 i), nI_Z (N 10 i), iZ_sub, qRem_Z (by omega) (by omega), show (0 : Int32) = iZ 0 from rfl, iZ_eq (by omega) (by omega)]
        exact ⟨fun q => Int.dvd_of_tmod_eq_zero q, fun q => Int.tmod_eq_zero_of_dvd q⟩
      rw [e1, e2, eq0 (by omega)]
      have du := due_iff (S := N) (p := i) (h := t) on.1
      refine ⟨fun g2 => no g1 ?_, fun g2 => ⟨qIn_nI (by omega) (by decide), by omega, fun g3 => ih ?_, fun g3 => no g1 ?_⟩⟩
      · cases hd : due N i t with
        | false => rfl
        | true => exact absurd (du.mp hd).1 g2
      · rw [all_succ, ha, du.mpr ⟨by omega, g3⟩, Bool.or_true]; rfl
      · cases hd : due N i t with
        | false => rfl
        | true => exact absurd (du.mp hd).2 g3
    · rw [mem12_nI (by omega)] at g1
      rw [all_succ, ha, g1]; rfl
/-- the first hour from h on at t of its day -/
def inD (dy h t : Nat) : Nat := if h - h % dy + t < h then h - h % dy + t + dy else h - h % dy + t
theorem inD_ok {dy h t : Nat} (hd : 1 ≤ dy) (ht : t < dy) : h ≤ inD dy h t ∧ inD dy h t < h + dy ∧ inD dy h t % dy = t := by
  have e := Nat.div_add_mod h dy
  have hm := Nat.mod_lt h hd
  have e2 : h - h % dy = dy * (h / dy) := by omega
  unfold inD
  rw [e2]
  by_cases g : dy * (h / dy) + t < h
  · rw [if_pos g]
    refine ⟨by omega, by omega, ?_⟩
    rw [Nat.add_mod_right, Nat.mul_add_mod, Nat.mod_eq_of_lt ht]
  · rw [if_neg g]
    refine ⟨by omega, by omega, ?_⟩
    rw [Nat.mul_add_mod, Nat.mod_eq_of_lt ht]
theorem inD_row {dy h t x : Nat} (hd : 1 ≤ dy) (ht : t < dy) (hx : h ≤ x) (hm : x % dy = t) : ∃ j, x = inD dy h t + j * dy := by
  obtain ⟨h1, h2, h3⟩ := inD_ok (h := h) hd ht
  have ge : inD dy h t ≤ x := by
    rcases Nat.lt_or_ge x (inD dy h t) with g | g
    · exfalso
      have := Nat.sub_mod_eq_zero_of_mod_eq (h3.trans hm.symm)
      have d1 := Nat.dvd_of_mod_eq_zero this
      have := Nat.le_of_dvd (by omega) d1
      omega
    · exact g
  have h4 := Nat.sub_mod_eq_zero_of_mod_eq (hm.trans h3.symm)
  obtain ⟨j, hj⟩ := Nat.dvd_of_mod_eq_zero h4
  exact ⟨j, by rw [Nat.mul_comm]; omega⟩
theorem c_inDay {h t : Nat} (hd : 1 ≤ d) (hX : rX w N K T Z) (hdy : ¬ N 1 0 = 0) (hh : h < 2 ^ 60) (ht : t < N 1 0) (hQ : QL (lN (inD (N 1 0) h t)) w) : qCall (some s) d 106 [.ref 53, .long (lN h), .int (nI t)] w (qQl QL) := by
  obtain ⟨d, rfl, hd1⟩ := dS hd
  have od := hX.okn.day
  have hm := Nat.mod_le h (N 1 0)
  refine A_Meetings_inDay ?_
  unfold inD at hQ
  rw [hX.n.day, nI_l (by omega), nI_l (by omega), qRemL_lN (by omega) (by omega) (by omega), lN_sub hm, lN_add, lN_add, lg_ge, pk_lLE (by omega) (by omega), eqL0 (by omega)]
  refine ⟨by omega, fun g => ?_, fun g => ?_⟩
  · rw [if_neg (by omega)] at hQ; exact hQ
  · rw [if_pos (by omega)] at hQ; exact hQ
theorem c_firstOpen {x : Nat} {op : Nat → Bool} (hd : 1 ≤ d) (hX : rX w N K T Z) (hx : x < 2 ^ 60) (hn : (∀ j, ¬ op ((x + j * N 1 0) % N 2 0) = true) → QL (-1) w) (hy : ∀ j, j < N 2 0 → op ((x + j * N 1 0) % N 2 0) = true → (∀ i, i < j → ¬ op ((x + i * N 1 0) % N 2 0) = true) → QL (lN (x + j * N 1 0)) w) : qCall (some s) d 107 [.ref 53, .long (lN x), .long (lN (bitsOf op (N 2 0)))] w (qQl QL) := by
  obtain ⟨d, rfl, hd1⟩ := dS hd
  have r := hX.n
  have oc := hX.okn.clk
  have od := hX.okn.day
  have ob := bits60 op oc.2
  refine A_Meetings_firstOpen ?_
  refine lpN (i := 0) (n := N 2 0) (P := fun i => (∀ j, j < i → ¬ op ((x + j * N 1 0) % N 2 0) = true) → qAt s d c_Meetings_firstOpen (qQl QL) 3 [some (.ref 53), some (.long (lN x)), none, some (.long (lN (bitsOf op (N 2 0)))), none, some (.int (nI i)), none, none] [] w) ?_ ?_ (Nat.zero_le _) (fun j hj => absurd hj (Nat.not_lt_zero _))
  · intro no
    refine A_Meetings_firstOpen_3 ?_
    rw [r.clk]
    refine ⟨fun _ => hn (fun j q => ?_), fun g => absurd (Int32.le_refl _) g⟩
    refine no (j % N 2 0) (Nat.mod_lt _ (by omega)) ?_
    have e : (x + j % N 2 0 * N 1 0) % N 2 0 = (x + j * N 1 0) % N 2 0 := by
      rw [Nat.add_mod, Nat.mul_mod, Nat.mod_mod, ← Nat.mul_mod, ← Nat.add_mod]
    rw [e]; exact q
  · intro i hi ih no
    have hm : (x + i * N 1 0) % N 2 0 < N 2 0 := Nat.mod_lt _ (by omega)
    have hid : i * N 1 0 ≤ 60 * 999 := Nat.mul_le_mul (by omega) (by omega)
    refine A_Meetings_firstOpen_3 ?_
    rw [r.clk, r.day, nI_leI (by omega) (by omega), nI_l (by omega), nI_l (by omega), nI_l (by omega), lN_mul, lN_add, qRemL_lN (by omega) (by omega) (by omega), lN_i, qLbit (by omega) (by omega), bitsOf_bit, decide_eq_true hm, Bool.true_and, nI_1, eqL0 (by omega)]
    refine ⟨fun g => absurd g (by omega), fun _ => ⟨by omega, fun q => ih (fun j hj => ?_), fun q => hy i hi ?_ no⟩⟩
    · by_cases e : j = i
      · subst e; rw [q]; decide
      · exact no j (by omega)
    · cases h : op ((x + i * N 1 0) % N 2 0) with
      | true => rfl
      | false => exact absurd h q
/-- the next hour, by days -/
def nxD (T : Nat → vT) (S : vS) (set h : Nat) (r : Int64) : Prop := (r = -1 ∧ ∀ x, h ≤ x → ¬ allSpk T S set x = true) ∨ ∃ x, h ≤ x ∧ allSpk T S set x = true ∧ (∀ y, h ≤ y → y < x → ¬ allSpk T S set y = true) ∧ r = if x ≤ tLast then lN x else -2
theorem nxD_u {set h : Nat} {r r' : Int64} (a : nxD T S set h r) (b : nxD T S set h r') : r = r' := by
  rcases a with ⟨a1, a2⟩ | ⟨x, h1, h2, h3, h4⟩
  · rcases b with ⟨b1, b2⟩ | ⟨x', h1', h2', h3', h4'⟩
    · rw [a1, b1]
    · exact absurd h2' (a2 x' h1')
  · rcases b with ⟨b1, b2⟩ | ⟨x', h1', h2', h3', h4'⟩
    · exact absurd h2 (b2 x h1)
    · have : x = x' := by
        rcases Nat.lt_trichotomy x x' with g | g | g
        · exact absurd h2 (h3' x h1 g)
        · exact g
        · exact absurd h2' (h3 x' h1' g)
      rw [h4, h4', this]
theorem due_gap {p i t : Nat} (hn : 1 ≤ S 10 p) (hi : due S p i = true) (h1 : i < t) (h2 : t < i + S 10 p) : due S p t = false := by
  cases hd : due S p t with
  | false => rfl
  | true =>
    have a := (due_iff hn).mp hi
    have b := (due_iff hn).mp hd
    exfalso
    have c := Int.dvd_sub b.2 a.2
    have e : (t : Int) - (S 11 p : Int) - ((i : Int) - (S 11 p : Int)) = ((t - i : Nat) : Int) := by omega
    rw [e] at c
    have := Nat.le_of_dvd (by omega) (Int.natCast_dvd_natCast.mp c)
    omega
theorem c_firstByDay {set h : Nat} (hd : 4 ≤ d) (hX : rX w N K T Z) (h0 : 0 < set) (hs : set < 2 ^ N 0 0) (hdy : ¬ N 1 0 = 0) (hh : h ≤ tLast) (hQ : ∀ r, nxD T N set h r → QL r w) : qCall (some s) d 100 [.ref 53, .int (nI set), .long (lN h), .long (lN (bitsOf (opB T N set) (N 2 0)))] w (qQl QL) := by
  obtain ⟨d, rfl, hd1⟩ := dS hd
  have r := hX.n
  have o := hX.okn
  have o0 := o.p12
  have oc := o.clk
  have od := o.day
  have hL := tL
  have hs2 : set < 4096 := by have := p12 o0; omega
  refine A_Meetings_firstByDay (c_rarestOf hd1 hX h0 hs ?_)
  intro rr hr hb
  have on := o.num rr hr
  have of := o.fst rr hr
  rw [qIx_nI (by omega), r.fst rr hr]
  refine ⟨qIn_nI (by omega) (by decide), ?_⟩
  have loop : ∀ k i (F : Int64), N 1 0 - i ≤ k → i ≤ 99999 → due N rr i = true → ((F = -1 ∧ ∀ x, h ≤ x → x % N 1 0 < i → ¬ allSpk T N set x = true) ∨ (∃ x, F = lN x ∧ h ≤ x ∧ x < 2 ^ 61 ∧ allSpk T N set x = true ∧ ∀ y, h ≤ y → y < x → y % N 1 0 < i → ¬ allSpk T N set y = true)) → qAt s d c_Meetings_firstByDay (qQl QL) 24 [some (.ref 53), some (.int (nI set)), some (.long (lN h)), none, some (.long (lN (bitsOf (opB T N set) (N 2 0)))), none, some (.int (nI rr)), some (.long F), none, some (.int (nI i)), none, none] [] w := by
    intro k
    induction k with
    | zero =>
      intro i F hk hi hdu hF
      refine A_Meetings_firstByDay_24 ?_
      rw [r.day, nI_leI (by omega) (by omega), kL, lg_le]
      refine ⟨fun _ => ?_, fun g => absurd (by omega) g⟩
      rcases hF with ⟨e, no⟩ | ⟨x, e, h1, h2, h3, h4⟩
      · rw [e]
        exact ⟨fun _ => hQ _ (Or.inl ⟨rfl, fun x hx => no x hx (Nat.lt_of_lt_of_le (Nat.mod_lt _ (by omega)) (by omega))⟩), fun g => absurd (by decide) g⟩
      · rw [e, pk_lLE (by omega) (by omega)]
        have no : ∀ y, h ≤ y → y < x → ¬ allSpk T N set y = true := fun y hy1 hy2 => h4 y hy1 hy2 (Nat.lt_of_lt_of_le (Nat.mod_lt _ (by omega)) (by omega))
        exact ⟨fun g => hQ _ (Or.inr ⟨x, h1, h3, no, by rw [if_pos g]⟩), fun g => hQ _ (Or.inr ⟨x, h1, h3, no, by rw [if_neg g]⟩)⟩
    | succ k ih =>
      intro i F hk hi hdu hF
      refine A_Meetings_firstByDay_24 ?_
      rw [r.day, nI_leI (by omega) (by omega), kL, lg_le]
      refine ⟨fun g => ?_, fun g => ?_⟩
      · rcases hF with ⟨e, no⟩ | ⟨x, e, h1, h2, h3, h4⟩
        · rw [e]
          exact ⟨fun _ => hQ _ (Or.inl ⟨rfl, fun x hx => no x hx (Nat.lt_of_lt_of_le (Nat.mod_lt _ (by omega)) (by omega))⟩), fun g => absurd (by decide) g⟩
        · rw [e, pk_lLE (by omega) (by omega)]
          have no : ∀ y, h ≤ y → y < x → ¬ allSpk T N set y = true := fun y hy1 hy2 => h4 y hy1 hy2 (Nat.lt_of_lt_of_le (Nat.mod_lt _ (by omega)) (by omega))
          exact ⟨fun g => hQ _ (Or.inr ⟨x, h1, h3, no, by rw [if_pos g]⟩), fun g => hQ _ (Or.inr ⟨x, h1, h3, no, by rw [if_neg g]⟩)⟩
      · -- hours at i of their day
        have hiD : i < N 1 0 := by omega
        obtain ⟨d1, d2, d3⟩ := inD_ok (h := h) (show 1 ≤ N 1 0 by omega) hiD
        have gap : ∀ y, y % N 1 0 < i + N 10 rr → allSpk T N set y = true → y % N 1 0 < i ∨ y % N 1 0 = i := by
          intro y hy hA
          rcases Nat.lt_trichotomy (y % N 1 0) i with q | q | q
          · exact Or.inl q
          · exact Or.inr q
          · exfalso
            rw [all_day hdy, Bool.and_eq_true] at hA
            have := duA_t.mp hA.1 rr hr hb
            rw [due_gap on.1 hdu q hy] at this
            cases this
        have nxt : ∀ F', ((F' = -1 ∧ ∀ x, h ≤ x → x % N 1 0 < i + N 10 rr → ¬ allSpk T N set x = true) ∨ (∃ x, F' = lN x ∧ h ≤ x ∧ x < 2 ^ 61 ∧ allSpk T N set x = true ∧ ∀ y, h ≤ y → y < x → y % N 1 0 < i + N 10 rr → ¬ allSpk T N set y = true)) → qCall (some s) d 21 [.int (1 : Int32), .int (nI (N 10 rr))] w (qQi fun x2 w1 => qAt s d c_Meetings_firstByDay (qQl QL) 24 [some (.ref 53), some (.int (nI set)), some (.long (lN h)), none, some (.long (lN (bitsOf (opB T N set) (N 2 0)))), none, some (.int (nI rr)), some (.long F'), none, some (.int (nI i + x2)), none, none] [] w1) := by
          intro F' hF'
          refine c_max (a := 1) (by omega) (by decide) (by omega) ?_
          rw [Nat.max_eq_right on.1, nI_add]
          refine ih (i + N 10 rr) F' (by omega) (by omega) ?_ hF'
          have := (due_iff on.1).mp hdu
          refine (due_iff on.1).mpr ⟨by omega, ?_⟩
          have e : ((i + N 10 rr : Nat) : Int) - (N 11 rr : Int) = ((i : Int) - (N 11 rr : Int)) + (N 10 rr : Int) := by omega
          rw [e]
          exact Int.dvd_add this.2 (Int.dvd_refl _)
        have at65 : ∀ (V : Int64), ((V = -1 ∧ ∀ x, h ≤ x → x % N 1 0 = i → ¬ allSpk T N set x = true) ∨ (∃ x, V = lN x ∧ h ≤ x ∧ x < 2 ^ 61 ∧ allSpk T N set x = true ∧ ∀ y, h ≤ y → y < x → y % N 1 0 = i → ¬ allSpk T N set y = true)) → qAt s d c_Meetings_firstByDay (qQl QL) 65 [some (.ref 53), some (.int (nI set)), some (.long (lN h)), none, some (.long (lN (bitsOf (opB T N set) (N 2 0)))), none, some (.int (nI rr)), some (.long F), none, some (.int (nI i)), none, none] [.long V] w := by
          intro V hV
          refine A_Meetings_firstByDay_65 ?_
          rw [qIx_nI (by omega), r.num rr hr, lg_eq, lg_eq]
          have in12 : qIn (nI rr) 12 := qIn_nI (by omega) (by decide)
          refine ⟨fun g1 => ⟨in12, nxt F ?_⟩, fun g1 => ⟨fun g2 => A_Meetings_firstByDay_93 ?_, fun g2 => ?_⟩⟩
          · rcases hV with ⟨e, no⟩ | ⟨x, e, q1, q2, q3, q4⟩
            · rcases hF with ⟨e', no'⟩ | ⟨x, e', p1, p2, p3, p4⟩
              · exact Or.inl ⟨e', fun x hx hxm hA => (gap x hxm hA).elim (fun q => no' x hx q hA) (fun q => no x hx q hA)⟩
              · exact Or.inr ⟨x, e', p1, p2, p3, fun y hy1 hy2 hym hA => (gap y hym hA).elim (fun q => p4 y hy1 hy2 q hA) (fun q => no y hy1 q hA)⟩
            · exfalso
              rw [e] at g1
              have g1 : lN x = -(lN 1) := g1
              rw [lN_eqn (by omega) (by omega) (by omega)] at g1
              exact g1
          · rw [qIx_nI (by omega), r.num rr hr]
            refine ⟨in12, nxt V ?_⟩
            rcases hV with ⟨e, no⟩ | ⟨x, e, q1, q2, q3, q4⟩
            · exact absurd e g1
            · rcases hF with ⟨e', no'⟩ | ⟨x', e', p1, p2, p3, p4⟩
              · exact Or.inr ⟨x, e, q1, q2, q3, fun y hy1 hy2 hym hA => (gap y hym hA).elim (fun q => no' y hy1 q hA) (fun q => q4 y hy1 hy2 q hA)⟩
              · exfalso
                rw [e'] at g2
                have g2 : lN x' = -(lN 1) := g2
                rw [lN_eqn (by omega) (by omega) (by omega)] at g2
                exact g2
          · rcases hV with ⟨e, no⟩ | ⟨x, e, q1, q2, q3, q4⟩
            · exact absurd e g1
            · rcases hF with ⟨e', no'⟩ | ⟨x', e', p1, p2, p3, p4⟩
              · exact absurd e' g2
              · rw [e, e', lg_ge, pk_lLE (by omega) (by omega)]
                refine ⟨fun g3 => ⟨in12, nxt (lN x') (Or.inr ⟨x', rfl, p1, p2, p3, fun y hy1 hy2 hym hA => (gap y hym hA).elim (fun q => p4 y hy1 hy2 q hA) (fun q => q4 y hy1 (by omega) q hA)⟩)⟩, fun g3 => A_Meetings_firstByDay_93 ?_⟩
                rw [qIx_nI (by omega), r.num rr hr]
                exact ⟨in12, nxt (lN x) (Or.inr ⟨x, rfl, q1, q2, q3, fun y hy1 hy2 hym hA => (gap y hym hA).elim (fun q => p4 y hy1 (by omega) q hA) (fun q => q4 y hy1 hy2 q hA)⟩)⟩
        refine c_areDue (by omega) hX hs2 (by omega) (tI_b (fun gd => ?_) (fun gd => ?_))
        · refine c_inDay (by omega) hX hdy (by omega) hiD ?_
          refine c_firstOpen (by omega) hX (by omega) (fun no => at65 _ (Or.inl ⟨rfl, fun x hx hxm hA => ?_⟩)) (fun j hj ho no => at65 _ (Or.inr ⟨_, rfl, ?_, ?_, ?_, fun y hy1 hy2 hym hA => ?_⟩))
          · obtain ⟨j, ej⟩ := inD_row (show 1 ≤ N 1 0 by omega) hiD hx hxm
            rw [all_day hdy, Bool.and_eq_true] at hA
            exact no j (by rw [← ej]; exact hA.2)
          · omega
          · have hid : j * N 1 0 ≤ 60 * 999 := Nat.mul_le_mul (by omega) (by omega)
            omega
          · rw [all_day hdy, Bool.and_eq_true, Nat.add_mul_mod_self_right, d3]
            exact ⟨gd, ho⟩
          · obtain ⟨j', ej⟩ := inD_row (show 1 ≤ N 1 0 by omega) hiD hy1 hym
            have hji : j' < j := by
              rcases Nat.lt_or_ge j' j with q1 | q1
              · exact q1
              · exfalso
                have := Nat.mul_le_mul_right (N 1 0) q1
                omega
            rw [all_day hdy, Bool.and_eq_true] at hA
            exact no j' hji (by rw [← ej]; exact hA.2)
        · refine at65 _ (Or.inl ⟨rfl, fun x hx hxm hA => ?_⟩)
          rw [all_day hdy, Bool.and_eq_true, hxm, gd] at hA
          exact absurd hA.1 (by decide)
  refine loop (N 1 0) (N 11 rr) (-1) (by omega) (by omega) ?_ (Or.inl ⟨rfl, fun x hx hxm hA => ?_⟩)
  · exact (due_iff on.1).mpr ⟨Nat.le_refl _, ⟨0, by omega⟩⟩
  · rw [all_day hdy, Bool.and_eq_true] at hA
    have := (due_iff on.1).mp (duA_t.mp hA.1 rr hr hb)
    omega
end ByDay
