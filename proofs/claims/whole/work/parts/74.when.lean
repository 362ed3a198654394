/-! When all of a set are due, without a day: as a row of numbers a step apart; counted. -/
section When
variable {N S K : vS} {T : Nat → vT}
def memK (S : vS) (set : Nat) : Nat → jL
  | 0 => []
  | k + 1 => if set.testBit k then memK S set k ++ [(S 11 k, S 10 k)] else memK S set k
theorem memK_of {set : Nat} {q : Nat × Nat} : ∀ {k : Nat}, q ∈ memK S set k ↔ ∃ i, i < k ∧ set.testBit i = true ∧ q = (S 11 i, S 10 i)
  | 0 => ⟨fun h => (by cases h), fun ⟨i, hi, _⟩ => absurd hi (Nat.not_lt_zero _)⟩
  | k + 1 => by
    unfold memK
    by_cases g : set.testBit k = true
    · rw [if_pos g, List.mem_append, memK_of (k := k), List.mem_singleton]
      constructor
      · rintro (⟨i, h1, h2, h3⟩ | h)
        · exact ⟨i, by omega, h2, h3⟩
        · exact ⟨k, by omega, g, h⟩
      · rintro ⟨i, h1, h2, h3⟩
        by_cases e : i = k
        · subst e; exact Or.inr h3
        · exact Or.inl ⟨i, by omega, h2, h3⟩
    · rw [if_neg g, memK_of (k := k)]
      constructor
      · rintro ⟨i, h1, h2, h3⟩; exact ⟨i, by omega, h2, h3⟩
      · rintro ⟨i, h1, h2, h3⟩
        have : ¬ i = k := fun e => g (e ▸ h2)
        exact ⟨i, by omega, h2, h3⟩
theorem slv_mem {set k h : Nat} : slv (memK S set k) h ↔ ∀ i, i < k → set.testBit i = true → (S 10 i : Int) ∣ (h : Int) - (S 11 i : Int) := by
  unfold slv
  constructor
  · intro g i hi hb
    exact g _ (memK_of.mpr ⟨i, hi, hb, rfl⟩)
  · intro g q hq
    obtain ⟨i, hi, hb, e⟩ := memK_of.mp hq
    rw [e]
    exact g i hi hb
theorem cg_of {set i j : Nat} (oS : okS S) (h : paF S set = none) (hi : i < S 0 0) (hj : j < S 0 0) (hij : ¬ i = j) (bi : set.testBit i = true) (bj : set.testBit j = true) : cgN S i j = true := by
  have o0 := oS.p12
  unfold paF at h
  rw [List.find?_eq_none] at h
  rcases Nat.lt_or_ge i j with g | g
  · have := h (12 * i + j) (List.mem_range.mpr (by omega))
    rw [paP_t (by omega) ⟨g, hj⟩, bi, bj] at this
    cases hc : cgN S i j with
    | true => rfl
    | false => rw [hc] at this; exact absurd rfl this
  · have := h (12 * j + i) (List.mem_range.mpr (by omega))
    rw [paP_t (by omega) ⟨by omega, hi⟩, bi, bj] at this
    rw [cgN_comm]
    cases hc : cgN S j i with
    | true => rfl
    | false => rw [hc] at this; exact absurd rfl this
theorem mem_comp {set p : Nat} (oS : okS S) (h : paF S set = none) (hp : p < S 0 0) (bp : set.testBit p = true) : ∀ q, q ∈ memK S set p → ((Nat.gcd q.2 (S 10 p) : Nat) : Int) ∣ (q.1 : Int) - (S 11 p : Int) := by
  intro q hq
  obtain ⟨i, hi, bi, e⟩ := memK_of.mp hq
  rw [e]
  exact of_decide_eq_true (cg_of oS h (by omega) hp (by omega) bi bp)
/-- from here on all are there -/
def lsF (S : vS) (set h : Nat) : Nat → Nat
  | 0 => h
  | k + 1 => if set.testBit k then max (lsF S set h k) (S 11 k) else lsF S set h k
theorem lsF_le {set h x : Nat} : ∀ {k : Nat}, lsF S set h k ≤ x ↔ h ≤ x ∧ ∀ i, i < k → set.testBit i = true → S 11 i ≤ x
  | 0 => ⟨fun g => ⟨g, fun i hi => absurd hi (Nat.not_lt_zero _)⟩, fun g => g.1⟩
  | k + 1 => by
    unfold lsF
    by_cases g : set.testBit k = true
    · rw [if_pos g]
      have := lsF_le (set := set) (h := h) (x := x) (k := k)
      constructor
      · intro q
        have q1 := this.mp (by omega)
        refine ⟨q1.1, fun i hi hb => ?_⟩
        by_cases e : i = k
        · subst e; omega
        · exact q1.2 i (by omega) hb
      · rintro ⟨q1, q2⟩
        have q3 := this.mpr ⟨q1, fun i hi hb => q2 i (by omega) hb⟩
        have q4 := q2 k (by omega) g
        omega
    · rw [if_neg g, lsF_le (k := k)]
      constructor
      · rintro ⟨q1, q2⟩
        refine ⟨q1, fun i hi hb => ?_⟩
        have : ¬ i = k := fun e => g (e ▸ hb)
        exact q2 i (by omega) hb
      · rintro ⟨q1, q2⟩
        exact ⟨q1, fun i hi hb => q2 i (by omega) hb⟩
/-- none of a set is barred at a clock -/
def opB (T : Nat → vT) (S : vS) (set c : Nat) : Bool := (List.range (S 0 0)).all (fun p => !set.testBit p || !brd T S p c)
theorem opB_t {set c : Nat} : opB T S set c = true ↔ ∀ p, p < S 0 0 → set.testBit p = true → brd T S p c = false := by
  unfold opB
  rw [List.all_eq_true]
  constructor
  · intro h p hp hb
    have := h p (List.mem_range.mpr hp)
    rw [hb] at this
    simpa using this
  · intro h p hp
    cases hb : set.testBit p with
    | false => rfl
    | true => rw [h p (List.mem_range.mp hp) hb]; rfl
theorem due_iff {p h : Nat} (hn : 1 ≤ S 10 p) : due S p h = true ↔ S 11 p ≤ h ∧ (S 10 p : Int) ∣ (h : Int) - (S 11 p : Int) := by
  unfold due
  rw [decide_eq_true_eq]
  constructor
  · rintro ⟨h1, h2⟩
    refine ⟨h1, ?_⟩
    have := Int.natCast_dvd_natCast.mpr (Nat.dvd_of_mod_eq_zero h2)
    rw [Int.natCast_sub h1] at this
    exact this
  · rintro ⟨h1, h2⟩
    refine ⟨h1, ?_⟩
    rw [← Int.natCast_sub h1] at h2
    exact Nat.mod_eq_zero_of_dvd (Int.natCast_dvd_natCast.mp h2)
/-- without a day -/
theorem all_iff {set h : Nat} (oS : okS S) (hd : S 1 0 = 0) : allSpk T S set h = true ↔ slv (memK S set (S 0 0)) h ∧ (∀ i, i < S 0 0 → set.testBit i = true → S 11 i ≤ h) ∧ opB T S set (h % S 2 0) = true := by
  rw [slv_mem, opB_t]
  unfold allSpk spk spkD
  rw [List.all_eq_true]
  constructor
  · intro g
    have g2 : ∀ i, i < S 0 0 → set.testBit i = true → due S i h = true ∧ brd T S i (h % S 2 0) = false := by
      intro i hi hb
      have := g i (List.mem_range.mpr hi)
      rw [hb, if_pos hd] at this
      simpa using this
    exact ⟨fun i hi hb => ((due_iff (oS.num i hi).1).mp (g2 i hi hb).1).2, fun i hi hb => ((due_iff (oS.num i hi).1).mp (g2 i hi hb).1).1, fun i hi hb => (g2 i hi hb).2⟩
  · rintro ⟨g1, g2, g3⟩ i hi
    have hi := List.mem_range.mp hi
    cases hb : set.testBit i with
    | false => rfl
    | true =>
      rw [if_pos hd, (due_iff (oS.num i hi).1).mpr ⟨g2 i hi hb, g1 i hi hb⟩, g3 i hi hb]
      rfl
/-- the first of a row that isn't ahead of L -/
def apF (st sp L : Nat) : Nat := if st < L then st + (L - st + sp - 1) / sp * sp else st
theorem ceil_le {L st sp t : Nat} (hsp : 1 ≤ sp) (h : st < L) : L ≤ st + t * sp ↔ (L - st + sp - 1) / sp ≤ t := by
  have e : (L - st + sp - 1) / sp ≤ t ↔ (L - st + sp - 1) / sp < t + 1 := by omega
  rw [e, Nat.div_lt_iff_lt_mul (by omega), Nat.add_mul, Nat.one_mul]
  omega
theorem apF_ge {st sp L : Nat} (hsp : 1 ≤ sp) : L ≤ apF st sp L := by
  unfold apF
  by_cases g : st < L
  · rw [if_pos g]; exact (ceil_le hsp g).mpr (Nat.le_refl _)
  · rw [if_neg g]; omega
theorem apF_iff {J : jL} {st sp L x : Nat} (h : jv J st sp) (hx : x ≤ tLast) : (L ≤ x ∧ slv J x) ↔ ∃ j, x = apF st sp L + j * sp := by
  have hp := h.pos
  have hl := h.lt
  have hle := h.le
  rcases Nat.lt_or_ge tLast sp with g | g
  · rw [h.big g x hx]
    unfold apF
    by_cases q : st < L
    · rw [if_pos q]
      constructor
      · rintro ⟨h1, h2⟩; omega
      · rintro ⟨j, hj⟩
        exfalso
        have c1 : 1 ≤ (L - st + sp - 1) / sp := (Nat.one_le_div_iff (by omega)).mpr (by omega)
        have c2 : sp ≤ (L - st + sp - 1) / sp * sp := Nat.le_mul_of_pos_left _ c1
        omega
    · rw [if_neg q]
      constructor
      · rintro ⟨h1, h2⟩; exact ⟨0, by omega⟩
      · rintro ⟨j, hj⟩
        have : j = 0 := by
          rcases Nat.eq_zero_or_pos j with e | e
          · exact e
          · have := Nat.le_mul_of_pos_left sp e
            omega
        subst this
        omega
  · rw [h.so g x]
    have hx2 : ((sp : Int) ∣ (x : Int) - (st : Int)) ↔ ∃ t, x = st + t * sp := by
      constructor
      · rintro ⟨c, hc⟩
        have c0 : 0 ≤ c := by
          rcases Int.lt_or_le c 0 with q | q
          · exfalso
            have := Int.mul_le_mul_of_nonneg_left (show c ≤ -1 by omega) (show (0 : Int) ≤ sp by omega)
            omega
          · exact q
        refine ⟨c.toNat, ?_⟩
        have e : ((c.toNat * sp : Nat) : Int) = (sp : Int) * c := by
          rw [Int.natCast_mul, Int.toNat_of_nonneg c0, Int.mul_comm]
        omega
      · rintro ⟨t, ht⟩
        refine ⟨(t : Int), ?_⟩
        rw [ht, Int.natCast_add, Int.natCast_mul, Int.mul_comm]
        omega
    rw [hx2]
    unfold apF
    by_cases q : st < L
    · rw [if_pos q]
      constructor
      · rintro ⟨h1, t, ht⟩
        have := (ceil_le hp q).mp (ht ▸ h1)
        refine ⟨t - (L - st + sp - 1) / sp, ?_⟩
        have e : t = (L - st + sp - 1) / sp + (t - (L - st + sp - 1) / sp) := by omega
        rw [ht]
        conv => lhs; rw [e]
        rw [Nat.add_mul]
        omega
      · rintro ⟨j, hj⟩
        have e : x = st + ((L - st + sp - 1) / sp + j) * sp := by rw [hj, Nat.add_mul]; omega
        exact ⟨by rw [e]; exact (ceil_le hp q).mpr (by omega), _, e⟩
    · rw [if_neg q]
      constructor
      · rintro ⟨h1, t, ht⟩; exact ⟨t, ht⟩
      · rintro ⟨j, hj⟩; exact ⟨by omega, j, hj⟩
/-- hours counted through a row -/
theorem cnt_row {f : Nat → Bool} {A a sp : Nat} (ha : A ≤ a) : ∀ {n M : Nat}, (∀ x, A ≤ x → x < A + n → f x = true → ∃ j, x = a + j * sp) → 1 ≤ sp → (∀ j, j < M ↔ a + j * sp < A + n) → cnt (fun i => f (A + i)) n = cnt (fun j => f (a + j * sp)) M
  | 0, M, _, _, hM => by
    have : M = 0 := by
      rcases Nat.eq_zero_or_pos M with e | e
      · exact e
      · have := (hM 0).mp e
        omega
    subst this
    rfl
  | n + 1, M, hf, hsp, hM => by
    have mono : ∀ j k, j < k → a + j * sp < a + k * sp := fun j k h => by
      have := Nat.mul_lt_mul_of_pos_right h (show 0 < sp by omega)
      omega
    have ih := fun M' h => cnt_row (f := f) ha (n := n) (M := M') (fun x h1 h2 h3 => hf x h1 (by omega) h3) hsp h
    cases hMc : M with
    | zero =>
      subst hMc
      have z0 : ¬ a + 0 * sp < A + (n + 1) := fun q => absurd ((hM 0).mpr q) (Nat.lt_irrefl _)
      have h1 := ih 0 (fun j => ⟨fun q => absurd q (Nat.not_lt_zero _), fun q => by
        rcases Nat.eq_zero_or_pos j with e | e
        · subst e; omega
        · have := mono 0 j e; omega⟩)
      have h2 : f (A + n) = false := by
        cases hfn : f (A + n) with
        | false => rfl
        | true =>
          obtain ⟨j, hj⟩ := hf (A + n) (by omega) (by omega) hfn
          have : a ≤ a + j * sp := Nat.le_add_right _ _
          omega
      rw [cnt_0 (f := fun i => f (A + i)) h2, h1]
    | succ M' =>
      subst hMc
      have l1 := (hM M').mp (by omega)
      have l2 : ¬ a + (M' + 1) * sp < A + (n + 1) := fun q => absurd ((hM (M' + 1)).mpr q) (Nat.lt_irrefl _)
      by_cases e : a + M' * sp = A + n
      · have h1 := ih M' (fun j => ⟨fun q => by have := mono j M' q; omega, fun q => by
          rcases Nat.lt_or_ge j M' with g | g
          · exact g
          · exfalso
            rcases Nat.lt_or_ge M' j with g2 | g2
            · have := mono M' j g2; omega
            · have : j = M' := by omega
              subst this; omega⟩)
        show cnt (fun i => f (A + i)) n + (f (A + n)).toNat = cnt (fun j => f (a + j * sp)) M' + (f (a + M' * sp)).toNat
        rw [h1, e]
      · have h1 := ih (M' + 1) (fun j => ⟨fun q => by
            rcases Nat.lt_or_ge j M' with g | g
            · have := mono j M' g; omega
            · have : j = M' := by omega
              subst this; omega, fun q => by
            rcases Nat.lt_or_ge j (M' + 1) with g | g
            · exact g
            · exfalso
              rcases Nat.lt_or_ge (M' + 1) j with g2 | g2
              · have := mono (M' + 1) j g2; omega
              · have : j = M' + 1 := by omega
                subst this; omega⟩)
        have h2 : f (A + n) = false := by
          cases hfn : f (A + n) with
          | false => rfl
          | true =>
            obtain ⟨j, hj⟩ := hf (A + n) (by omega) (by omega) hfn
            have q := (hM j).mpr (by omega)
            exfalso
            rcases Nat.lt_or_ge j M' with g | g
            · have := mono j M' g; omega
            · have : j = M' := by omega
              subst this; omega
        rw [cnt_0 (f := fun i => f (A + i)) h2, h1]
theorem row_len {a sp last : Nat} (hsp : 1 ≤ sp) (h : a ≤ last) (j : Nat) : j < (last - a) / sp + 1 ↔ a + j * sp < last + 1 := by
  have e : j < (last - a) / sp + 1 ↔ j ≤ (last - a) / sp := by omega
  rw [e, Nat.le_div_iff_mul_le (by omega)]
  omega
theorem cnt_false {f : Nat → Bool} : ∀ {n : Nat}, (∀ i, i < n → f i = false) → cnt f n = 0
  | 0, _ => rfl
  | n + 1, h => by rw [cnt_0 (h n (by omega))]; exact cnt_false (fun i hi => h i (by omega))
/-- what comes again -/
theorem cnt_per {f : Nat → Bool} {r : Nat} (hp : ∀ i, f (i + r) = f i) : ∀ k m, cnt f (r * k + m) = k * cnt f r + cnt f m
  | 0, m => by simp
  | k + 1, m => by
    have e : r * (k + 1) + m = r + (r * k + m) := by rw [Nat.mul_succ]; omega
    rw [e, cnt_add]
    have e2 : cnt (fun i => f (r + i)) (r * k + m) = cnt f (r * k + m) := cnt_congr (fun i _ => by rw [Nat.add_comm, hp])
    rw [e2, cnt_per hp k m, Nat.add_mul]
    omega
end When
