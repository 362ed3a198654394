/-! pairs: what is asked, and the class. -/
section Pairs
variable {s : Nat × (Nat → Int32)} {d : Nat} {w : qW} {Q : Int32 → qW → Prop} {R : qW → Prop} {N S K : vS} {T : Nat → vT} {Z : vZ}
/-- the best of those below m, and the first of them -/
def scn (f : Nat → Int) (g : Nat → Bool) : Nat → Int × Nat
  | 0 => (-1, 0)
  | m + 1 => if g m = true ∧ (scn f g m).1 < f m then (f m, m) else scn f g m
theorem scn_y {f : Nat → Int} {g : Nat → Bool} {m : Nat} (h : g m = true ∧ (scn f g m).1 < f m) : scn f g (m + 1) = (f m, m) := if_pos h
theorem scn_n {f : Nat → Int} {g : Nat → Bool} {m : Nat} (h : ¬ (g m = true ∧ (scn f g m).1 < f m)) : scn f g (m + 1) = scn f g m := if_neg h
theorem scn_o {f : Nat → Int} {g : Nat → Bool} : ∀ {m : Nat}, (∀ j, j < m → g j = false) → scn f g m = (-1, 0)
  | 0, _ => rfl
  | m + 1, h => by
    rw [scn_n (fun q => by rw [h m (by omega)] at q; exact Bool.noConfusion q.1)]
    exact scn_o (fun j hj => h j (by omega))
theorem scn_c {f : Nat → Int} {g : Nat → Bool} : ∀ {m : Nat}, (scn f g m = (-1, 0)) ∨ ((scn f g m).2 < m ∧ g (scn f g m).2 = true ∧ (scn f g m).1 = f (scn f g m).2)
  | 0 => Or.inl rfl
  | m + 1 => by
    by_cases h : g m = true ∧ (scn f g m).1 < f m
    · rw [scn_y h]; exact Or.inr ⟨by show m < m + 1; omega, h.1, rfl⟩
    · rw [scn_n h]
      rcases scn_c (f := f) (g := g) (m := m) with q | q
      · exact Or.inl q
      · exact Or.inr ⟨by omega, q.2⟩
theorem scn_ge {f : Nat → Int} {g : Nat → Bool} : ∀ {m j : Nat}, j < m → g j = true → f j ≤ (scn f g m).1
  | 0, j, h, _ => absurd h (Nat.not_lt_zero _)
  | m + 1, j, h, hg => by
    by_cases q : g m = true ∧ (scn f g m).1 < f m
    · rw [scn_y q]
      by_cases e : j = m
      · subst e; exact Int.le_refl _
      · have := scn_ge (f := f) (g := g) (m := m) (j := j) (by omega) hg
        show f j ≤ f m
        omega
    · rw [scn_n q]
      by_cases e : j = m
      · subst e
        have : ¬ (scn f g j).1 < f j := fun x => q ⟨hg, x⟩
        omega
      · exact scn_ge (by omega) hg
def cut (L i j : Nat) : Nat := andn L (2 ^ i ||| 2 ^ j)
def bV (C : Nat → Nat → Nat) : Nat → Nat → Int × Nat
  | 0, _ => (0, 0)
  | k + 1, L => scn (fun j => (C (lowB L) j : Int) + (bV C k (cut L (lowB L) j)).1) (fun j => decide (lowB L < j) && L.testBit j) 12
def pF (C : Nat → Nat → Nat) (k L j : Nat) : Int := (C (lowB L) j : Int) + (bV C k (cut L (lowB L) j)).1
def pG (L j : Nat) : Bool := decide (lowB L < j) && L.testBit j
theorem bV_s (C : Nat → Nat → Nat) (k L : Nat) : bV C (k + 1) L = scn (pF C k L) (pG L) 12 := rfl
/-- with whom is x paired, when the lowest is paired with j -/
def dpO (W : Nat → Nat → Nat) (L j x : Nat) : Nat := if x = lowB L then j else if x = j then lowB L else W (cut L (lowB L) j) x
def dpW (C : Nat → Nat → Nat) : Nat → Nat → Nat → Nat
  | 0, _, _ => 0
  | k + 1, L, x => dpO (dpW C k) L (bV C (k + 1) L).2 x
theorem flt_s (f : Nat → Bool) (m : Nat) : ((List.range (m + 1)).filter f).length = ((List.range m).filter f).length + if f m = true then 1 else 0 := by
  rw [List.range_succ, List.filter_append, List.length_append]
  by_cases h : f m = true
  · rw [if_pos h, List.filter_cons_of_pos h]; rfl
  · rw [if_neg h, List.filter_cons_of_neg h]; rfl
theorem flt_1 {f g : Nat → Bool} {i : Nat} (h : ∀ x, ¬ x = i → f x = g x) (hf : f i = true) (hg : g i = false) : ∀ m, ((List.range m).filter f).length = ((List.range m).filter g).length + if i < m then 1 else 0
  | 0 => rfl
  | m + 1 => by
    have ih := flt_1 h hf hg m
    rw [flt_s, flt_s, ih]
    by_cases e : m = i
    · subst e
      rw [if_neg (Nat.lt_irrefl _), if_pos (Nat.lt_succ_self _), if_pos hf, if_neg (by rw [hg]; exact fun q => Bool.noConfusion q)]
    · rw [h m e]
      by_cases l : i < m
      · rw [if_pos l, if_pos (show i < m + 1 by omega)]; omega
      · rw [if_neg l, if_neg (show ¬ i < m + 1 by omega)]; omega
theorem cntB_1 {n i : Nat} (hn : n < 4096) (hi : i < 12) (hb : n.testBit i = true) : cntB (andn n (2 ^ i)) + 1 = cntB n := by
  have h := flt_1 (f := fun x => n.testBit x) (g := fun x => (andn n (2 ^ i)).testBit x) (i := i) (fun x hx => by
    show n.testBit x = (andn n (2 ^ i)).testBit x
    rw [andn_bit, one_bit, decide_eq_false (fun q => hx q.symm), Bool.not_false, Bool.and_true]) hb (andn_i n i) 12
  rw [if_pos hi] at h
  unfold cntB
  exact h.symm
theorem cut_bit (L i j x : Nat) : (cut L i j).testBit x = (L.testBit x && !(decide (i = x) || decide (j = x))) := by
  unfold cut
  rw [andn_bit, pair_bit]
theorem cut_2 (L i j : Nat) : cut L i j = andn (andn L (2 ^ i)) (2 ^ j) := by
  apply Nat.eq_of_testBit_eq
  intro x
  rw [cut_bit, andn_bit, andn_bit, one_bit, one_bit]
  cases L.testBit x <;> cases decide (i = x) <;> cases decide (j = x) <;> rfl
theorem cut_lt {L i j : Nat} (h : L < 4096) : cut L i j < 4096 := andn_lt (n := 12) h
theorem cut_c {L i j k : Nat} (hL : L < 4096) (hi : i < 12) (hj : j < 12) (hij : ¬ i = j) (bi : L.testBit i = true) (bj : L.testBit j = true) (hc : cntB L = 2 * (k + 1)) : cntB (cut L i j) = 2 * k := by
  have h1 := cntB_1 hL hi bi
  have lt : andn L (2 ^ i) < 4096 := andn_lt (n := 12) hL
  have bj2 : (andn L (2 ^ i)).testBit j = true := by
    rw [andn_bit, one_bit, bj, decide_eq_false hij]; rfl
  have h2 := cntB_1 lt hj bj2
  rw [cut_2]
  omega
theorem cnt0 {L : Nat} (hL : L < 4096) (h : cntB L = 0) : L = 0 := by
  rcases Nat.eq_zero_or_pos L with e | e
  · exact e
  · have := (cntB_P (P := 12) (by omega) (n := L) hL e).1
    omega
theorem cnt_pos {L k : Nat} (h : cntB L = 2 * (k + 1)) : 0 < L := by
  rcases Nat.eq_zero_or_pos L with e | e
  · rw [e] at h
    have : cntB 0 = 0 := by decide +kernel
    omega
  · exact e
theorem two {L k : Nat} (hL : L < 4096) (h : cntB L = 2 * (k + 1)) : ∃ j, j < 12 ∧ pG L j = true := by
  have l := lowB_spec (cnt_pos h) hL
  have h1 := cntB_1 hL l.1 l.2.1
  have lt : andn L (2 ^ lowB L) < 4096 := andn_lt (n := 12) hL
  have p : 0 < andn L (2 ^ lowB L) := by
    rcases Nat.eq_zero_or_pos (andn L (2 ^ lowB L)) with e | e
    · rw [e] at h1
      have : cntB 0 = 0 := by decide +kernel
      omega
    · exact e
  have l2 := lowB_spec p lt
  refine ⟨lowB (andn L (2 ^ lowB L)), l2.1, ?_⟩
  have b := l2.2.1
  rw [andn_bit, one_bit, Bool.and_eq_true, Bool.not_eq_true', decide_eq_false_iff_not] at b
  unfold pG
  rw [Bool.and_eq_true, decide_eq_true_eq]
  refine ⟨?_, b.1⟩
  rcases Nat.lt_or_ge (lowB L) (lowB (andn L (2 ^ lowB L))) with g | g
  · exact g
  · have : lowB (andn L (2 ^ lowB L)) < lowB L := by omega
    rw [l.2.2 _ this] at b
    exact Bool.noConfusion b.1
theorem pG_x {L j : Nat} (h : pG L j = true) : lowB L < j ∧ L.testBit j = true := by
  unfold pG at h
  rw [Bool.and_eq_true, decide_eq_true_eq] at h
  exact h
theorem bV_b {C : Nat → Nat → Nat} (hC : ∀ i j, C i j ≤ 100000) : ∀ {k L : Nat}, L < 4096 → cntB L = 2 * k → 0 ≤ (bV C k L).1 ∧ (bV C k L).1 ≤ 100000 * k
  | 0, L, _, _ => ⟨Int.le_refl _, Int.le_refl _⟩
  | k + 1, L, hL, hc => by
    have l := lowB_spec (cnt_pos hc) hL
    have ih : ∀ j, j < 12 → pG L j = true → 0 ≤ (bV C k (cut L (lowB L) j)).1 ∧ (bV C k (cut L (lowB L) j)).1 ≤ 100000 * k := by
      intro j hj hg
      have x := pG_x hg
      exact bV_b hC (cut_lt hL) (cut_c hL l.1 hj (by omega) l.2.1 x.2 hc)
    rw [bV_s]
    obtain ⟨j, hj, hg⟩ := two hL hc
    have ge := scn_ge (f := pF C k L) (g := pG L) hj hg
    have i1 := ih j hj hg
    have p1 : 0 ≤ pF C k L j := by unfold pF; omega
    rcases scn_c (f := pF C k L) (g := pG L) (m := 12) with q | ⟨q1, q2, q3⟩
    · rw [q] at ge
      have : pF C k L j ≤ -1 := ge
      omega
    · have i2 := ih _ q1 q2
      have c2 := hC (lowB L) (scn (pF C k L) (pG L) 12).2
      have pe : ∀ y, pF C k L y = (C (lowB L) y : Int) + (bV C k (cut L (lowB L) y)).1 := fun _ => rfl
      rw [q3, pe]
      omega
/-- the best and its first partner -/
theorem bV_p {C : Nat → Nat → Nat} (hC : ∀ i j, C i j ≤ 100000) {k L : Nat} (hL : L < 4096) (hc : cntB L = 2 * (k + 1)) : (bV C (k + 1) L).2 < 12 ∧ pG L (bV C (k + 1) L).2 = true := by
  have b := bV_b hC hL hc
  rw [bV_s] at b ⊢
  rcases scn_c (f := pF C k L) (g := pG L) (m := 12) with q | ⟨q1, q2, q3⟩
  · rw [q] at b
    have : (0 : Int) ≤ -1 := b.1
    omega
  · exact ⟨q1, q2⟩
def vPa (N : vS) (set n who : Int32) : Prop := vSet (N 0 0) set ∧ cntB (qIx set) ≤ 8 ∧ cntB (qIx set) % 2 = 0 ∧ (1 ≤ n ∧ n ≤ 100000) ∧ (who = -1 ∨ mem12 who (qIx set) = true)
def pC (T : Nat → vT) (N : vS) (n : Nat) (i j : Nat) : Nat := tgF T N (2 ^ i ||| 2 ^ j) 0 n
def fPa (T : Nat → vT) (N : vS) (set n who : Int32) : Int32 := if who = -1 then iZ (bV (pC T N (qIx n)) (cntB (qIx set) / 2) (qIx set)).1 else nI (dpW (pC T N (qIx n)) (cntB (qIx set) / 2) (qIx set) (qIx who))
end Pairs
