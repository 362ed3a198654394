/-! together of the reference. -/
section Ref2
variable {s : Nat × (Nat → Int32)} {d : Nat} {w : qW} {Q : Int32 → qW → Prop} {QL : Int64 → qW → Prop} {R : qW → Prop} {N S K : vS} {T : Nat → vT} {Z : vZ}
theorem no_pa {set x : Nat} (oS : okS S) (hd0 : S 1 0 = 0) (hp : ¬ paF S set = none) : allSpk T S set x = false := by
  cases hp2 : paF S set with
  | none => exact absurd hp2 hp
  | some k =>
    obtain ⟨hk, hk2⟩ := paF_lt hp2
    cases hA : allSpk T S set x with
    | false => rfl
    | true =>
      exfalso
      have hA := (all_iff oS hd0).mp hA
      unfold paP at hk2
      rw [Bool.and_eq_true, decide_eq_true_eq, Bool.and_eq_true, Bool.and_eq_true] at hk2
      obtain ⟨⟨k1, k2⟩, ⟨k3, k4⟩, k5⟩ := hk2
      have a := slv_mem.mp hA.1 (k / 12) (by omega) k3
      have b := slv_mem.mp hA.1 (k % 12) k2 k4
      have ga : ((Nat.gcd (S 10 (k / 12)) (S 10 (k % 12)) : Nat) : Int) ∣ (x : Int) - (S 11 (k / 12) : Int) := Int.dvd_trans (Int.natCast_dvd_natCast.mpr (Nat.gcd_dvd_left _ _)) a
      have gb : ((Nat.gcd (S 10 (k / 12)) (S 10 (k % 12)) : Nat) : Int) ∣ (x : Int) - (S 11 (k % 12) : Int) := Int.dvd_trans (Int.natCast_dvd_natCast.mpr (Nat.gcd_dvd_right _ _)) b
      have c := Int.dvd_sub gb ga
      have e : (x : Int) - (S 11 (k % 12) : Int) - ((x : Int) - (S 11 (k / 12) : Int)) = (S 11 (k / 12) : Int) - (S 11 (k % 12) : Int) := by omega
      rw [e] at c
      unfold cgN at k5
      rw [decide_eq_true c] at k5
      exact absurd k5 (by decide)
theorem cnt_true : ∀ n, cnt (fun _ => true) n = n
  | 0 => rfl
  | n + 1 => by rw [cnt_1 (f := fun _ => true) rfl, cnt_true n]
theorem gD_in {l : List Nat} {j : Nat} (h : j < l.length) : l.getD j 0 = l[j] := by
  rw [List.getD_eq_getElem?_getD, List.getElem?_eq_getElem h]; rfl
theorem gD_l {l r : List Nat} {j : Nat} (h : j < l.length) : (l ++ r).getD j 0 = l.getD j 0 := by
  rw [List.getD_eq_getElem?_getD, List.getD_eq_getElem?_getD, List.getElem?_append_left h]
theorem gD_e {l : List Nat} {x : Nat} : (l ++ [x]).getD l.length 0 = x := by
  rw [List.getD_eq_getElem?_getD, List.getElem?_append_right (Nat.le_refl _), Nat.sub_self]; rfl
/-- the members of a set -/
def mbL (S : vS) (set : Nat) (k : Nat) : List Nat := (List.range k).filter (fun p => set.testBit p)
theorem mbL_s {set k : Nat} : mbL S set (k + 1) = if set.testBit k then mbL S set k ++ [k] else mbL S set k := by
  unfold mbL
  rw [List.range_succ, List.filter_append]
  cases h : set.testBit k <;> simp [h]
theorem mbL_len {set k : Nat} : (mbL S set k).length ≤ k := by
  unfold mbL
  exact Nat.le_trans (List.length_filter_le _ _) (by rw [List.length_range]; exact Nat.le_refl _)
theorem mbL_lt {set k j : Nat} (h : j < (mbL S set k).length) : (mbL S set k).getD j 0 < k ∧ set.testBit ((mbL S set k).getD j 0) = true := by
  have hm : (mbL S set k).getD j 0 ∈ mbL S set k := by
    rw [gD_in h]
    exact List.getElem_mem h
  unfold mbL at hm
  rw [List.mem_filter, List.mem_range] at hm
  exact hm
theorem mbL_all {set k : Nat} {f : Nat → Bool} : (∀ j, j < (mbL S set k).length → f ((mbL S set k).getD j 0) = true) ↔ ∀ p, p < k → set.testBit p = true → f p = true := by
  constructor
  · intro h p hp hb
    have hm : p ∈ mbL S set k := by
      unfold mbL
      rw [List.mem_filter, List.mem_range]
      exact ⟨hp, hb⟩
    obtain ⟨j, hj, e⟩ := List.getElem_of_mem hm
    have := h j hj
    rw [gD_in hj, e] at this
    exact this
  · intro h j hj
    obtain ⟨h1, h2⟩ := mbL_lt hj
    exact h _ h1 h2
theorem m_countIn {set h n : Nat} (hd : 2 ≤ d) (hR : rQ w N K T Z S) (hs : set < 4096) (hd0 : ¬ S 1 0 = 0) (hh : h < 2 ^ 60) (hn : n ≤ 60000) (hQ : ∀ w', fr (fun c => c = 87) w w' → Q (nI (tgF T S set h n)) w') : qCall (some s) d 283 [.ref 72, .int (nI set), .long (lN h), .int (nI n)] w (qQi Q) := by
  obtain ⟨d, rfl, hd1⟩ := dS hd
  have o := hR.ok
  have o0 := o.p12
  have oc := o.clk
  have od := o.day
  refine A_Mo_countIn ?_
  refine lpU (i := 0) (n := S 0 0) (I := fun i w2 => fr (fun c => c = 87) w w2 ∧ ∀ j, j < (mbL S set i).length → w2.1 87 j = nI ((mbL S set i).getD j 0)) (P := fun i w2 => qAt s d c_Mo_countIn (qQi Q) 9 [some (.ref 72), some (.int (nI set)), some (.long (lN h)), none, some (.int (nI n)), some (.int (nI 0)), some (.int (nI (mbL S set i).length)), some (.int (nI i)), none, none, none, none] [] w2) ?_ ?_ (Nat.zero_le _) ⟨fr_rf _ _, fun j hj => absurd hj (Nat.not_lt_zero _)⟩
  · intro w2 ⟨f, hm⟩
    have hR2 := hR.keep f (fun c h1 h2 => by omega)
    have hQ := hQ w2 f
    have lb := mbL_len (S := S) (set := set) (k := S 0 0)
    refine A_Mo_countIn_9 ?_
    have e1 : w2.1 73 1 = nI (S 1 0) := hR2.day
    have e2 : w2.1 73 2 = nI (S 2 0) := hR2.clk
    have e0 : w2.1 73 0 = nI (S 0 0) := hR2.ppl
    have hm1 : h % S 1 0 < S 1 0 := Nat.mod_lt _ (by omega)
    have hm2 : h % S 2 0 < S 2 0 := Nat.mod_lt _ (by omega)
    rw [qIx_0, show qIx (1 : Int32) = 1 from rfl, show qIx (2 : Int32) = 2 from rfl, e0, e1, e2, nI_l (by omega), nI_l (by omega), qRemL_lN (by omega) (by omega) (by omega), qRemL_lN (by omega) (by omega) (by omega), lN_i, lN_i, eqL0 (by omega), eqL0 (by omega)]
    refine ⟨qIn_0 (by decide) (by decide), fun _ => ⟨qIn_nI (j := 1) (by decide) (by decide), by omega, qIn_nI (j := 2) (by decide) (by decide), by omega, ?_⟩, fun g => absurd (Int32.le_refl _) g⟩
    have main := lpN (i := 0) (n := n) (P := fun k => qAt s d c_Mo_countIn (qQi Q) 77 [some (.ref 72), none, none, none, some (.int (nI n)), some (.int (nI (tgF T S set h k))), some (.int (nI (mbL S set (S 0 0)).length)), some (.int (nI ((h + k) % S 1 0))), some (.int (nI ((h + k) % S 2 0))), some (.int (nI k)), none, none] [] w2) ?_ ?_ (Nat.zero_le _)
    · exact main
    · exact A_Mo_countIn_77 ⟨fun _ => hQ, fun g => absurd (Int32.le_refl _) g⟩
    · intro k hk ih
      have ht : (h + k) % S 1 0 < S 1 0 := Nat.mod_lt _ (by omega)
      have hc : (h + k) % S 2 0 < S 2 0 := Nat.mod_lt _ (by omega)
      have tb := tgF_le T S set h k
      refine A_Mo_countIn_77 ⟨fun g => absurd g (nI_ge hk (by omega)), fun _ => ?_⟩
      -- behind the members
      have fin : ∀ b : Bool, b = allSpk T S set (h + k) → qAt s d c_Mo_countIn (qQi Q) 170 [some (.ref 72), none, none, none, some (.int (nI n)), none, some (.int (nI (mbL S set (S 0 0)).length)), some (.int (nI ((h + k) % S 1 0))), some (.int (nI ((h + k) % S 2 0))), some (.int (nI k)), none, none] [.int (tI b), .int (nI (tgF T S set h k))] w2 := by
        intro b hb
        have et : tgF T S set h (k + 1) = tgF T S set h k + b.toNat := by rw [hb]; rfl
        have at194 : qAt s d c_Mo_countIn (qQi Q) 194 [some (.ref 72), none, none, none, some (.int (nI n)), some (.int (nI (tgF T S set h k) + tI b)), some (.int (nI (mbL S set (S 0 0)).length)), none, some (.int (nI ((h + k) % S 2 0))), some (.int (nI k)), none, none] [.int (nI ((h + (k + 1)) % S 1 0))] w2 := by
          refine A_Mo_countIn_194 ?_
          rw [show qIx (2 : Int32) = 2 from rfl, e2, nI_1, nI_1, nI_eq (by omega) (by omega), nI_add, ← et]
          have ms : (h + (k + 1)) % S 2 0 = if (h + k) % S 2 0 + 1 < S 2 0 then (h + k) % S 2 0 + 1 else 0 := mod_succ (h := h + k) (by omega)
          rw [ms] at ih
          refine ⟨qIn_nI (j := 2) (by decide) (by decide), fun g => ?_, fun g => ?_⟩
          · rw [if_pos (by omega)] at ih; exact ih
          · rw [if_neg (by omega)] at ih; exact ih
        refine A_Mo_countIn_170 ?_
        rw [show qIx (1 : Int32) = 1 from rfl, e1, nI_1, nI_eq (by omega) (by omega)]
        have ms : (h + (k + 1)) % S 1 0 = if (h + k) % S 1 0 + 1 < S 1 0 then (h + k) % S 1 0 + 1 else 0 := mod_succ (h := h + k) (by omega)
        rw [ms] at at194
        refine ⟨qIn_nI (j := 1) (by decide) (by decide), fun g => ?_, fun g => ?_⟩
        · rw [if_pos (by omega)] at at194; exact at194
        · rw [if_neg (by omega)] at at194; exact at194
      have hall : (∀ j, j < (mbL S set (S 0 0)).length → (due S ((mbL S set (S 0 0)).getD j 0) ((h + k) % S 1 0) && !brd T S ((mbL S set (S 0 0)).getD j 0) ((h + k) % S 2 0)) = true) ↔ allSpk T S set (h + k) = true := by
        rw [mbL_all (f := fun p => due S p ((h + k) % S 1 0) && !brd T S p ((h + k) % S 2 0)), all_day hd0, Bool.and_eq_true, duA_t, opB_t]
        constructor
        · intro q
          exact ⟨fun p hp hb => ((Bool.and_eq_true _ _).mp (q p hp hb)).1, fun p hp hb => by have := ((Bool.and_eq_true _ _).mp (q p hp hb)).2; simpa using this⟩
        · rintro ⟨q1, q2⟩ p hp hb
          rw [q1 p hp hb, q2 p hp hb]; rfl
      have inner := lpN (i := 0) (n := (mbL S set (S 0 0)).length) (P := fun j => ∀ b : Bool, (b = true → ∀ i, i < j → (due S ((mbL S set (S 0 0)).getD i 0) ((h + k) % S 1 0) && !brd T S ((mbL S set (S 0 0)).getD i 0) ((h + k) % S 2 0)) = true) → (b = false → allSpk T S set (h + k) = false) → qAt s d c_Mo_countIn (qQi Q) 90 [some (.ref 72), none, none, none, some (.int (nI n)), some (.int (nI (tgF T S set h k))), some (.int (nI (mbL S set (S 0 0)).length)), some (.int (nI ((h + k) % S 1 0))), some (.int (nI ((h + k) % S 2 0))), some (.int (nI k)), some (.int (tI b)), some (.int (nI j))] [] w2) ?_ ?_ (Nat.zero_le _) true (fun _ i hi => absurd hi (Nat.not_lt_zero _)) (fun h => Bool.noConfusion h)
      · exact inner
      · intro b hb1 hb2
        refine A_Mo_countIn_90 ⟨fun _ => tI_b (fun gb => ?_) (fun gb => ?_), fun g => absurd (Int32.le_refl _) g⟩
        · exact fin true (hall.mp (hb1 gb)).symm
        · exact fin false (hb2 gb).symm
      · intro j hj ihj b hb1 hb2
        obtain ⟨p1, p2⟩ := mbL_lt hj
        have tk := hR2.tk _ p1
        have ej := hm j hj
        refine A_Mo_countIn_90 ⟨fun g => absurd g (nI_ge hj (by omega)), fun _ => tI_b (fun gb => ?_) (fun gb => ?_)⟩
        · generalize hp : (mbL S set (S 0 0)).getD j 0 = p at *
          have nof : (due S p ((h + k) % S 1 0) && !brd T S p ((h + k) % S 2 0)) = false → allSpk T S set (h + k) = false := by
            intro q
            cases hA : allSpk T S set (h + k) with
            | false => rfl
            | true =>
              have := hall.mpr hA j hj
              rw [hp, q] at this
              cases this
          rw [qIx_nI (by omega), ej, show (999 : Int32) = nI 999 from rfl, show (60 : Int32) = nI 60 from rfl, nI_mul', nI_mul', nI_add, nI_add, qIx_nI (by omega), qIx_nI (by omega), tk.dun _ ht, tk.cls _ hc, nI_1]
          refine ⟨qIn_nI (by omega) (by decide), qIn_nI (by omega) (by decide), tI_b (fun q1 => ⟨qIn_nI (by omega) (by decide), qIn_nI (by omega) (by decide), tI_n (fun q2 => ?_) (fun q2 => ?_)⟩) (fun q1 => ?_)⟩
          · exact ihj false (fun q => Bool.noConfusion q) (fun _ => nof (by rw [q2]; simp))
          · refine ihj true (fun _ i hi => ?_) (fun q => Bool.noConfusion q)
            by_cases e : i = j
            · subst e; rw [hp, q1, q2]; rfl
            · exact hb1 gb i (by omega)
          · exact ihj false (fun q => Bool.noConfusion q) (fun _ => nof (by rw [q1]; rfl))
        · subst gb
          exact b0 (fin false (hb2 rfl).symm)
  · intro i w2 hi ⟨f, hm⟩ ih
    have hR2 := hR.keep f (fun c h1 h2 => by omega)
    have lb := mbL_len (S := S) (set := set) (k := i)
    refine A_Mo_countIn_9 ?_
    have e0 : w2.1 73 0 = nI (S 0 0) := hR2.ppl
    rw [qIx_0, e0, nI_leI (by omega) (by omega), qIx_nI (by omega), nI_1, nI_1]
    refine ⟨qIn_0 (by decide) (by decide), fun g => absurd g (by omega), fun _ => m_has (by omega) (by omega) (by omega) (fun g1 => n1 ⟨qIn_nI (by omega) (by decide), ?_⟩) (fun g1 => n0 ?_)⟩
    · have e : mbL S set (i + 1) = mbL S set i ++ [i] := by rw [mbL_s, if_pos g1]
      have ih := ih (qPutI w2 87 (mbL S set i).length (nI i))
      rw [e, List.length_append, List.length_singleton] at ih
      refine ih ⟨fr_I f rfl, fun j hj => ?_⟩
      by_cases ej : j = (mbL S set i).length
      · subst ej
        rw [pI_e, gD_e]
      · rw [pI_f ej, gD_l (by omega)]
        exact hm j (by omega)
    · have e : mbL S set (i + 1) = mbL S set i := by rw [mbL_s, if_neg (by rw [g1]; decide)]
      have ih := ih w2
      rw [e] at ih
      exact ih ⟨f, hm⟩
theorem m_tog0 {set h n : Nat} (hd : 4 ≤ d) (hR : rQ w N K T Z S) (hs : set < 4096) (hd0 : S 1 0 = 0) (hp : paF S set = none) (hn : 1 ≤ n) (hh : h + n ≤ tLast + 1) (hQ : ∀ w', frM w w' → QL (lN (tgF T S set h n)) w') : qAt s d c_Mo_togetherOf (qQl QL) 90 [some (.ref 72), some (.int (nI set)), some (.long (lN h)), none, none, none, some (.long (lN 0)), none, some (.long (lN (h + n - 1))), none, some (.int (nI 1)), some (.int (nI 0)), none, none] [] w := by
  have o := hR.ok
  have o0 := o.p12
  have oc := o.clk
  have hL := tL
  have hB := tB
  have hn2 : n ≤ tLast + 1 := by omega
  refine lpU (i := 0) (n := S 2 0) (I := fun c w2 => frM w w2) (P := fun c w2 => ∀ v, v = cnt (fun q => allSpk T S set (h + q) && decide ((h + q) % S 2 0 < c)) n → qAt s d c_Mo_togetherOf (qQl QL) 90 [some (.ref 72), some (.int (nI set)), some (.long (lN h)), none, none, none, some (.long (lN v)), none, some (.long (lN (h + n - 1))), none, some (.int (nI 1)), some (.int (nI c)), none, none] [] w2) ?_ ?_ (Nat.zero_le _) (frM_rf w) 0 ?_
  · intro w2 f v hv
    have hR2 := hR.frM f
    refine A_Mo_togetherOf_90 ?_
    have ec : w2.1 73 2 = nI (S 2 0) := hR2.clk
    rw [show qIx (2 : Int32) = 2 from rfl, ec]
    refine ⟨qIn_nI (j := 2) (by decide) (by decide), fun _ => ?_, fun g => absurd (Int32.le_refl _) g⟩
    have e : cnt (fun q => allSpk T S set (h + q) && decide ((h + q) % S 2 0 < S 2 0)) n = tgF T S set h n := cnt_congr (fun q _ => by rw [decide_eq_true (Nat.mod_lt _ (by omega)), Bool.and_true])
    rw [hv, e]
    exact hQ w2 f
  · intro c w2 hc f ih v hv
    have hR2 := hR.frM f
    have spl : cnt (fun q => allSpk T S set (h + q) && decide ((h + q) % S 2 0 < c + 1)) n = cnt (fun q => allSpk T S set (h + q) && decide ((h + q) % S 2 0 < c)) n + cnt (fun q => allSpk T S set (h + q) && decide ((h + q) % S 2 0 = c)) n := by
      rw [← cnt_disj]
      · refine cnt_congr (fun q _ => ?_)
        cases hA : allSpk T S set (h + q) with
        | false => rfl
        | true =>
          rw [Bool.true_and, Bool.true_and, Bool.true_and]
          rcases Nat.lt_trichotomy ((h + q) % S 2 0) c with g | g | g
          · rw [decide_eq_true g, decide_eq_true (by omega)]; rfl
          · rw [decide_eq_true (show (h + q) % S 2 0 < c + 1 by omega), decide_eq_true g, Bool.or_true]
          · rw [decide_eq_false (by omega), decide_eq_false (by omega), decide_eq_false (by omega)]; rfl
      · intro q _
        by_cases g2 : (h + q) % S 2 0 < c
        · rw [decide_eq_false (show ¬ (h + q) % S 2 0 = c by omega)]; simp
        · rw [decide_eq_false g2]; simp
    refine A_Mo_togetherOf_90 ?_
    have ec : w2.1 73 2 = nI (S 2 0) := hR2.clk
    have zero : (∀ x, h ≤ x → x < h + n → x % S 2 0 = c → ¬ allSpk T S set x = true) → v = cnt (fun q => allSpk T S set (h + q) && decide ((h + q) % S 2 0 < c + 1)) n := by
      intro q
      rw [spl, hv]
      have : cnt (fun q => allSpk T S set (h + q) && decide ((h + q) % S 2 0 = c)) n = 0 := cnt_false (fun i hi => by
        by_cases g2 : (h + i) % S 2 0 = c
        · cases hA : allSpk T S set (h + i) with
          | false => rfl
          | true => exact absurd hA (q (h + i) (by omega) (by omega) g2)
        · rw [decide_eq_false g2, Bool.and_false])
      omega
    rw [show qIx (2 : Int32) = 2 from rfl, ec, nI_leI (by omega) (by omega), nI_1]
    refine ⟨qIn_nI (j := 2) (by decide) (by decide), fun g => absurd g (by omega), fun _ => ⟨fun q => absurd q (by decide), fun _ => m_isOpen (by omega) hR2 hs hc (tI_b (fun go => ?_) (fun go => ?_))⟩⟩
    · rw [Bool.and_eq_true] at go
      refine m_findHours (by omega) hR2 hs hc hp go.2 ?_
      intro w3 b3 f3 h3
      have f3' := frM_tr f f3
      have hR3 := hR.frM f3'
      rcases h3 with ⟨e, no⟩ | ⟨e, st, sp, hm, hj⟩
      · rw [e]
        exact n0 (ih w3 f3' v (zero (fun x _ hx hxm hA => no x (by omega) ((slv_c hc).mpr ⟨hxm, ((all_iff o hd0).mp hA).1⟩))))
      · rw [e]
        have l1 : lsF S set h (S 0 0) ≤ tLast := lsF_le.mpr ⟨by omega, fun i hi hb => by have := o.fst i hi; omega⟩
        refine n1 (m_begin (by omega) hR3 hs (by omega) (m_from (by omega) hm hj l1 ?_))
        intro y hy1 hy2 hy3
        have rw3 := fun x (hx : x ≤ tLast) => all_rowc (T := T) (h := h) o hd0 hc hj go.1 hx
        have hps : sp ≤ tBey := by rcases hm.2.2 with q | q <;> omega
        have hp1 := hj.pos
        rw [lg_gt, pk_lLT (by omega) (by omega), hm.2.1, eqL0 (by omega)]
        have ap0 : h ≤ apF st sp (lsF S set h (S 0 0)) := Nat.le_trans (lsF_le.mp (Nat.le_refl _)).1 (apF_ge hp1)
        refine ⟨fun g => ih w3 f3' v (zero (fun x hx1 hx2 hxm hA => ?_)), fun g => ⟨by omega, ?_⟩⟩
        · obtain ⟨j, ej⟩ := (rw3 x (by omega)).mp ⟨hx1, hxm, hA⟩
          have : apF st sp (lsF S set h (S 0 0)) ≤ x := by rw [ej]; exact Nat.le_add_right _ _
          rcases Nat.lt_or_ge tLast y with g3 | g3
          · have := hy3 g3; omega
          · have := hy2 g3; omega
        · have yL : y ≤ tLast := by omega
          have ey := hy2 yL
          rw [← ey] at rw3 ap0
          have hdv : (h + n - 1 - y) / sp ≤ h + n - 1 - y := Nat.div_le_self _ _
          rw [lN_sub (by omega), lN_div' (by omega) (by omega) (by omega), show (1 : Int64) = lN 1 from rfl, lN_add, lN_add]
          refine ih w3 f3' _ ?_
          rw [spl, hv]
          congr 1
          have hM : ∀ j, j < (h + n - 1 - y) / sp + 1 ↔ y + j * sp < h + n := fun j => by
            rw [row_len hp1 (by omega)]
            have : h + n - 1 + 1 = h + n := by omega
            rw [this]
          have eq := cnt_row (f := fun x => allSpk T S set x && decide (x % S 2 0 = c)) (n := n) ap0 (fun x hx1 hx2 hx3 => by
            have hx3 : (allSpk T S set x && decide (x % S 2 0 = c)) = true := hx3
            rw [Bool.and_eq_true, decide_eq_true_eq] at hx3
            exact (rw3 x (by omega)).mp ⟨hx1, hx3.2, hx3.1⟩) hp1 hM
          have e2 : cnt (fun j => (fun x => allSpk T S set x && decide (x % S 2 0 = c)) (y + j * sp)) ((h + n - 1 - y) / sp + 1) = (h + n - 1 - y) / sp + 1 := by
            rw [cnt_congr (g := fun _ => true) (fun j hj => ?_), cnt_true]
            have hb := (hM j).mp hj
            obtain ⟨p1, p2, p3⟩ := (rw3 (y + j * sp) (by omega)).mpr ⟨j, rfl⟩
            show (allSpk T S set (y + j * sp) && decide ((y + j * sp) % S 2 0 = c)) = true
            rw [p3, decide_eq_true p2]; rfl
          rw [e2] at eq
          exact eq.symm
    · refine ih w2 f v (zero (fun x _ _ hxm hA => ?_))
      obtain ⟨q1, q2⟩ := all_rc o hd0 hA
      rw [hxm] at q1 q2
      rw [q1, q2] at go
      cases go
  · exact (cnt_false (fun q _ => by rw [decide_eq_false (Nat.not_lt_zero _), Bool.and_false])).symm
theorem m_togetherOf {set h n : Nat} (hd : 5 ≤ d) (hR : rQ w N K T Z S) (hs : set < 4096) (hn : 1 ≤ n) (hh : h + n ≤ tLast + 1) (hQ : ∀ w', rQ w' N K T Z S → fr (fun c => c = 72 ∨ c = 87) w w' → QL (lN (tgF T S set h n)) w') : qCall (some s) d 282 [.ref 72, .int (nI set), .long (lN h), .long (lN n)] w (qQl QL) := by
  obtain ⟨d, rfl, hd1⟩ := dS hd
  have o := hR.ok
  have od := o.day
  have hL := tL
  refine A_Mo_togetherOf ⟨qIn_nI (j := 1) (by decide) (by decide), ?_⟩
  rw [show qIx (1 : Int32) = 1 from rfl, hR.day, show (nI (S 1 0) ≤ (0 : Int32)) ↔ S 1 0 ≤ 0 from nI_leI (b := 0) (by omega) (by omega)]
  refine ⟨fun gd => m_areJoined (by omega) hR.x hR.al hR.tk o hs ?_, fun gd => m_turnRound (by omega) hR (by omega) ?_⟩
  · rw [lN_add, show (1 : Int64) = lN 1 from rfl, lN_sub (by omega)]
    by_cases gp : paF S set = none
    · rw [decide_eq_true gp]
      refine m_tog0 (by omega) hR hs (by omega) gp hn hh ?_
      intro w2 f2
      exact hQ w2 (hR.frM f2) (fr_wk (fr_frM f2) (fun c hc => Or.inl hc))
    · rw [decide_eq_false gp]
      have z : tgF T S set h n = 0 := cnt_false (fun i _ => no_pa o (by omega) gp)
      have hz := hQ w hR (fr_rf _ _)
      rw [z] at hz
      refine A_Mo_togetherOf_90 ?_
      have oc := o.clk
      have ec : w.1 73 2 = nI (S 2 0) := hR.clk
      rw [show qIx (2 : Int32) = 2 from rfl, ec]
      exact ⟨qIn_nI (j := 2) (by decide) (by decide), fun _ => hz, fun _ => ⟨fun _ => hz, fun g => absurd rfl g⟩⟩
  · obtain ⟨r1, r2, r3⟩ := rdD_ok (T := T) o (show ¬ S 1 0 = 0 by omega)
    have hm : n % rdD S < rdD S := Nat.mod_lt _ (by omega)
    have hdv : n / rdD S ≤ n := Nat.div_le_self _ _
    have per : ∀ i, (fun i => allSpk T S set (h + i)) (i + rdD S) = (fun i => allSpk T S set (h + i)) i := fun i => by
      show allSpk T S set (h + (i + rdD S)) = allSpk T S set (h + i)
      rw [← Nat.add_assoc, r3]
    have cp := cnt_per (f := fun i => allSpk T S set (h + i)) per (n / rdD S) (n % rdD S)
    rw [Nat.div_add_mod] at cp
    have cp : tgF T S set h n = n / rdD S * tgF T S set h (rdD S) + tgF T S set h (n % rdD S) := cp
    have b1 := tgF_le T S set h (rdD S)
    have b2 := tgF_le T S set h (n % rdD S)
    rw [nI_l (by omega), lg_ge, pk_lLE (by omega) (by omega), eqL0 (by omega), qRemL_lN (by omega) (by omega) (by omega), lN_i, lN_i, lN_div' (by omega) (by omega) (by omega)]
    refine ⟨fun g => ⟨by omega, m_countIn (by omega) hR hs (by omega) (by omega) (by omega) ?_⟩, fun g => m_countIn (by omega) hR hs (by omega) (by omega) (by omega) ?_⟩
    · intro w2 f2
      have hR2 := hR.keep f2 (fun c h1 h2 => by omega)
      refine ⟨by omega, m_countIn (by omega) hR2 hs (by omega) (by omega) (by omega) ?_⟩
      intro w3 f3
      rw [nI_l (by omega), nI_l (by omega), lN_mul, lN_add, ← cp]
      exact hQ w3 (hR2.keep f3 (fun c h1 h2 => by omega)) (fr_wk (fr_tr f2 f3) (fun c hc => Or.inr hc))
    · intro w2 f2
      rw [nI_l (by have := tgF_le T S set h n; omega)]
      exact hQ w2 (hR.keep f2 (fun c h1 h2 => by omega)) (fr_wk f2 (fun c hc => Or.inr hc))
theorem m_together {set : Int32} {h n : Int64} (hd : 6 ≤ d) (hX : rM w N K T Z) (hy : ∀ w', vTog N set h n → rM w' N K T Z → fr (fun c => 72 ≤ c) w w' → QL (lN (tgF T N (qIx set) h.toNatClampNeg n.toNatClampNeg)) w') (hn : ¬ vTog N set h n → QL (-1) w) : qCall (some s) d 280 [.ref 72, .int set, .long h, .long n] w (qQl QL) := by
  obtain ⟨d, rfl, hd1⟩ := dS hd
  have o0 := hX.okn.p12
  have hL := tL
  refine A_Mo_together (m_isSet (by omega) hX.n.ppl o0 (fun g1 => b1 (m_areHours (by omega) (fun g2 => n1 ?_) (fun g => n0 (hn (fun q => g q.2))))) (fun g => b0 (hn (fun q => g q.1))))
  have g : vTog N set h n := ⟨g1, g2⟩
  obtain ⟨m, h1, h2, h3, e, e2⟩ := vSet_x o0 g1
  obtain ⟨a, b, ea, eb, ea2, eb2, h4, h5⟩ := vHours_x g2
  rw [e2, ea2, eb2] at hy
  subst e ea eb
  refine m_take' hd1 hX ?_
  intro w2 f2 hX2 t2
  refine m_togetherOf hd1 (rQ_of hX2 t2) h3 h4 (by omega) ?_
  intro w3 hR3 f3
  exact hy w3 g hR3.x (fr_tr (fr_wk f2 (fun c hc => by omega)) (fr_wk f3 (fun c hc => by omega)))
end Ref2
