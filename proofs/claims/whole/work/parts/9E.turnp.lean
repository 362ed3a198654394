/-! turn: what is asked: hours of their own, by a search for ways that can be changed, and by Hall's condition. -/
section TurnP
theorem cnt_ge {f : Nat → Bool} {i : Nat} : ∀ {n : Nat}, i < n → f i = true → 1 ≤ cnt f n
  | 0, h, _ => absurd h (Nat.not_lt_zero _)
  | n + 1, h, e => by
    unfold cnt
    by_cases q : i = n
    · subst q; rw [e]; exact Nat.le_add_left 1 _
    · have := cnt_ge (f := f) (n := n) (i := i) (by omega) e
      omega
theorem cnt_ex {f : Nat → Bool} : ∀ {n : Nat}, 1 ≤ cnt f n → ∃ i, i < n ∧ f i = true
  | 0, h => absurd h (by unfold cnt; decide)
  | n + 1, h => by
    cases e : f n with
    | true => exact ⟨n, Nat.lt_succ_self _, e⟩
    | false =>
      rw [cnt_0 e] at h
      obtain ⟨i, hi, ei⟩ := cnt_ex h
      exact ⟨i, by omega, ei⟩
theorem cnt_pt {f g : Nat → Bool} {h : Nat} : ∀ {n : Nat}, h < n → (∀ i, i < n → ¬ i = h → f i = g i) → cnt f n + (g h).toNat = cnt g n + (f h).toNat
  | 0, hh, _ => absurd hh (Nat.not_lt_zero _)
  | n + 1, hh, e => by
    unfold cnt
    by_cases q : h = n
    · subst q
      rw [cnt_congr (f := f) (g := g) (fun i hi => e i (by omega) (by omega))]
      omega
    · have := cnt_pt (f := f) (g := g) (n := n) (h := h) (by omega) (fun i hi => e i (by omega))
      rw [e n (Nat.lt_succ_self _) (fun k => q k.symm)]
      omega
theorem cnt_mono {f g : Nat → Bool} : ∀ {n : Nat}, (∀ i, i < n → f i = true → g i = true) → cnt f n ≤ cnt g n
  | 0, _ => Nat.le_refl _
  | n + 1, h => by
    have := cnt_mono (f := f) (g := g) (n := n) (fun i hi => h i (by omega))
    unfold cnt
    cases e : f n with
    | false => exact Nat.le_trans this (Nat.le_add_right _ _)
    | true => rw [h n (Nat.lt_succ_self _) e]; exact Nat.add_le_add_right this _
theorem cnt_inj {A B : Nat → Bool} {m : Nat} {f : Nat → Nat} : ∀ {n : Nat}, (∀ p, p < n → A p = true → f p < m ∧ B (f p) = true) → (∀ p q, p < n → q < n → A p = true → A q = true → f p = f q → p = q) → cnt A n ≤ cnt B m := by
  intro n
  induction n generalizing B with
  | zero => intro _ _; exact Nat.zero_le _
  | succ n ih =>
    intro h1 h2
    cases e : A n with
    | false =>
      rw [cnt_0 e]
      exact ih (fun p hp => h1 p (by omega)) (fun p q hp hq => h2 p q (by omega) (by omega))
    | true =>
      have hn := h1 n (Nat.lt_succ_self _) e
      have k := ih (B := fun i => B i && !decide (i = f n)) (fun p hp ap => ?_) (fun p q hp hq => h2 p q (by omega) (by omega))
      · have r := cnt_pt (f := fun i => B i && !decide (i = f n)) (g := B) (h := f n) (n := m) hn.1 (fun i _ hi => by
          show (B i && !decide (i = f n)) = B i
          rw [decide_eq_false hi, Bool.not_false, Bool.and_true])
        rw [hn.2, decide_eq_true rfl, Bool.not_true, Bool.and_false] at r
        rw [cnt_1 e]
        have r2 : cnt (fun i => B i && !decide (i = f n)) m + 1 = cnt B m + 0 := r
        omega
      · have hp1 := h1 p (by omega) ap
        have ne : ¬ f p = f n := fun q => by
          have := h2 p n (by omega) (Nat.lt_succ_self _) ap e q
          omega
        refine ⟨hp1.1, ?_⟩
        show (B (f p) && !decide (f p = f n)) = true
        rw [hp1.2, decide_eq_false ne]; rfl
theorem cnt_two {f : Nat → Bool} {n i j : Nat} (h : cnt f n ≤ 1) (hi : i < n) (hj : j < n) (ei : f i = true) (ej : f j = true) : i = j := by
  by_cases q : j = i
  · exact q.symm
  · have r := cnt_pt (f := fun x => f x && !decide (x = i)) (g := f) (h := i) (n := n) hi (fun x _ hx => by
      show (f x && !decide (x = i)) = f x
      rw [decide_eq_false hx, Bool.not_false, Bool.and_true])
    rw [ei, decide_eq_true rfl, Bool.not_true, Bool.and_false] at r
    have r2 : cnt (fun x => f x && !decide (x = i)) n + 1 = cnt f n + 0 := r
    have g := cnt_ge (f := fun x => f x && !decide (x = i)) hj (by
      show (f j && !decide (j = i)) = true
      rw [ej, decide_eq_false q]; rfl)
    omega
theorem cntB_cnt (n : Nat) : cntB n = cnt (fun i => n.testBit i) 12 := by
  unfold cntB
  have h : ∀ k, ((List.range k).filter (fun i => n.testBit i)).length = cnt (fun i => n.testBit i) k := by
    intro k
    induction k with
    | zero => rfl
    | succ k ih =>
      rw [List.range_succ, List.filter_append, List.length_append, ih]
      show _ = cnt (fun i => n.testBit i) k + (n.testBit k).toNat
      congr 1
      show (List.filter (fun i => n.testBit i) [k]).length = (n.testBit k).toNat
      cases e : n.testBit k with
      | true => rw [List.filter_cons_of_pos (p := fun i => n.testBit i) e]; rfl
      | false => rw [List.filter_cons_of_neg (p := fun i => n.testBit i) (by rw [e]; exact fun q => Bool.noConfusion q)]; rfl
  exact h 12
theorem orp_bit (V h j : Nat) : (V ||| 2 ^ h).testBit j = (V.testBit j || decide (h = j)) := by
  rw [Nat.testBit_or, Nat.testBit_two_pow]
/-! holders -/
abbrev tH : Type := Nat → Option Nat
def tU (H : tH) (h q : Nat) : tH := fun j => if j = h then some q else H j
theorem tU_e (H : tH) (h q : Nat) : tU H h q h = some q := if_pos rfl
theorem tU_f {H : tH} {h q j : Nat} (n : ¬ j = h) : tU H h q j = H j := if_neg n
def hsl (n : Nat) : List Nat := (List.range 64).filter (fun i => n.testBit i)
theorem hsl_m {n h : Nat} : h ∈ hsl n ↔ h < 64 ∧ n.testBit h = true := by
  unfold hsl
  rw [List.mem_filter, List.mem_range]
def tkL (rc : tH → Nat → Nat → Bool × tH × Nat) (q : Nat) : List Nat → tH → Nat → Bool × tH × Nat
  | [], H, V => (false, H, V)
  | h :: r, H, V => if V.testBit h = true then tkL rc q r H V else
    match H h with
    | none => (true, tU H h q, V ||| 2 ^ h)
    | some p => if (rc H (V ||| 2 ^ h) p).1 = true then (true, tU (rc H (V ||| 2 ^ h) p).2.1 h q, (rc H (V ||| 2 ^ h) p).2.2) else tkL rc q r (rc H (V ||| 2 ^ h) p).2.1 (rc H (V ||| 2 ^ h) p).2.2
def tk (O : Nat → Nat) (F : Nat) : Nat → tH → Nat → Nat → Bool × tH × Nat
  | 0, H, V, _ => (false, H, V)
  | f + 1, H, V, q => tkL (tk O F f) q (hsl (O q &&& F)) H V
def tkc (H : tH) (p : Nat) : Nat := cnt (fun h => decide (H h = some p)) 64
theorem tkc_U {H : tH} {h q p : Nat} (hh : h < 64) : tkc (tU H h q) p + (decide (H h = some p)).toNat = tkc H p + (decide (p = q)).toNat := by
  have r := cnt_pt (f := fun j => decide (tU H h q j = some p)) (g := fun j => decide (H j = some p)) (h := h) (n := 64) hh (fun j _ hj => by
    show decide (tU H h q j = some p) = decide (H j = some p)
    rw [tU_f hj])
  have e : decide (tU H h q h = some p) = decide (p = q) := by
    rw [tU_e]
    refine decide_eq_decide.mpr ⟨fun x => ?_, fun x => by rw [x]⟩
    cases x; rfl
  unfold tkc
  rw [← e]
  exact r
def tVd (O : Nat → Nat) (F : Nat) (H : tH) : Prop := ∀ h p, h < 64 → H h = some p → p < 12 ∧ (O p &&& F).testBit h = true
def tHd (H : tH) (V : Nat) : Prop := ∀ h, h < 64 → V.testBit h = true → ∃ p, H h = some p
theorem tV12 {O : Nat → Nat} {F : Nat} {H : tH} {V : Nat} (h1 : tVd O F H) (h2 : ∀ p, tkc H p ≤ 1) (h3 : tHd H V) : cnt (fun h => V.testBit h) 64 ≤ 12 := by
  have r := cnt_inj (A := fun h => V.testBit h) (B := fun _ => true) (m := 12) (n := 64) (f := fun h => (H h).getD 0) (fun h hh e => ?_) (fun h j hh hj e1 e2 e => ?_)
  · rw [cnt_true] at r; exact r
  · obtain ⟨p, hp⟩ := h3 h hh e
    show (H h).getD 0 < 12 ∧ true = true
    rw [hp]
    exact ⟨(h1 h p hh hp).1, rfl⟩
  · obtain ⟨p, hp⟩ := h3 h hh e1
    obtain ⟨q, hq⟩ := h3 j hj e2
    have e : (H h).getD 0 = (H j).getD 0 := e
    rw [hp, hq] at e
    have e : p = q := e
    subst e
    exact cnt_two (h2 p) hh hj (decide_eq_true hp) (decide_eq_true hq)
def tFl (O : Nat → Nat) (F : Nat) (H : tH) (V V1 : Nat) (l : List Nat) : Prop := (∀ h, V.testBit h = true → V1.testBit h = true) ∧ tHd H V1 ∧ (∀ h, h ∈ l → V1.testBit h = true) ∧ ∀ h p j, h < 64 → V1.testBit h = true → V.testBit h = false → H h = some p → j < 64 → (O p &&& F).testBit j = true → V1.testBit j = true
def tTr (O : Nat → Nat) (F : Nat) (H : tH) (V q : Nat) (H1 : tH) : Prop := (∀ h, V.testBit h = true → H1 h = H h) ∧ tVd O F H1 ∧ ∀ p, tkc H1 p = tkc H p + (decide (p = q)).toNat
theorem tkL_ok {O : Nat → Nat} {F f q : Nat} {H : tH} (hq : q < 12) (h1 : tVd O F H) (h2 : ∀ p, tkc H p ≤ 1)
    (ih : ∀ V p, p < 12 → tHd H V → 13 ≤ cnt (fun h => V.testBit h) 64 + f → ((tk O F f H V p).1 = false → (tk O F f H V p).2.1 = H ∧ tFl O F H V (tk O F f H V p).2.2 (hsl (O p &&& F))) ∧ ((tk O F f H V p).1 = true → tTr O F H V p (tk O F f H V p).2.1)) :
    ∀ l V, (∀ h, h ∈ l → h < 64 ∧ (O q &&& F).testBit h = true) → tHd H V → 13 ≤ cnt (fun h => V.testBit h) 64 + (f + 1) → ((tkL (tk O F f) q l H V).1 = false → (tkL (tk O F f) q l H V).2.1 = H ∧ tFl O F H V (tkL (tk O F f) q l H V).2.2 l) ∧ ((tkL (tk O F f) q l H V).1 = true → tTr O F H V q (tkL (tk O F f) q l H V).2.1)
  | [], V, hl, hv, hf => ⟨fun _ => ⟨rfl, fun _ x => x, hv, fun h x => absurd x List.not_mem_nil, fun h p j _ x y => by
      have x : V.testBit h = true := x
      rw [x] at y; exact Bool.noConfusion y⟩, fun x => Bool.noConfusion x⟩
  | h :: r, V, hl, hv, hf => by
    have hh := hl h List.mem_cons_self
    have hr := fun j (x : j ∈ r) => hl j (List.mem_cons_of_mem _ x)
    by_cases c : V.testBit h = true
    · have e : tkL (tk O F f) q (h :: r) H V = tkL (tk O F f) q r H V := by
        conv => lhs; unfold tkL
        rw [if_pos c]
      rw [e]
      have k := tkL_ok hq h1 h2 ih r V hr hv hf
      refine ⟨fun x => ?_, k.2⟩
      obtain ⟨a1, a2, a3, a4, a5⟩ := k.1 x
      refine ⟨a1, a2, a3, fun j hj => ?_, a5⟩
      rcases List.mem_cons.mp hj with g | g
      · rw [g]; exact a2 h c
      · exact a4 j g
    · have c0 : V.testBit h = false := by
        cases e : V.testBit h with
        | false => rfl
        | true => exact absurd e c
      have cV : cnt (fun j => (V ||| 2 ^ h).testBit j) 64 = cnt (fun j => V.testBit j) 64 + 1 := by
        have r := cnt_pt (f := fun j => (V ||| 2 ^ h).testBit j) (g := fun j => V.testBit j) (h := h) (n := 64) hh.1 (fun j _ hj => by
          show (V ||| 2 ^ h).testBit j = V.testBit j
          rw [orp_bit, decide_eq_false (fun q => hj q.symm), Bool.or_false])
        rw [c0, orp_bit, decide_eq_true rfl, Bool.or_true] at r
        exact r
      cases eH : H h with
      | none =>
        have e : tkL (tk O F f) q (h :: r) H V = (true, tU H h q, V ||| 2 ^ h) := by
          conv => lhs; unfold tkL
          rw [if_neg c, eH]
        rw [e]
        refine ⟨fun x => Bool.noConfusion x, fun _ => ⟨fun j hj => ?_, fun j p hj hp => ?_, fun p => ?_⟩⟩
        · exact tU_f (fun q => by rw [q, c0] at hj; exact Bool.noConfusion hj)
        · have hp : tU H h q j = some p := hp
          by_cases ej : j = h
          · rw [ej, tU_e] at hp
            cases hp
            rw [ej]
            exact ⟨hq, hh.2⟩
          · rw [tU_f ej] at hp
            exact h1 j p hj hp
        · have := tkc_U (H := H) (q := q) (p := p) hh.1
          rw [eH, decide_eq_false (fun x => by cases x)] at this
          exact this
      | some p =>
        have hp := h1 h p hh.1 eH
        have hv2 : tHd H (V ||| 2 ^ h) := by
          intro j hj x
          rw [orp_bit, Bool.or_eq_true, decide_eq_true_eq] at x
          rcases x with x | x
          · exact hv j hj x
          · rw [← x]; exact ⟨p, eH⟩
        have k := ih (V ||| 2 ^ h) p hp.1 hv2 (by rw [cV]; omega)
        by_cases b : (tk O F f H (V ||| 2 ^ h) p).1 = true
        · have e : tkL (tk O F f) q (h :: r) H V = (true, tU (tk O F f H (V ||| 2 ^ h) p).2.1 h q, (tk O F f H (V ||| 2 ^ h) p).2.2) := by
            conv => lhs; unfold tkL
            rw [if_neg c, eH]
            show (if _ then _ else _) = _
            rw [if_pos b]
          rw [e]
          obtain ⟨k1, k2, k3⟩ := k.2 b
          have eh : (tk O F f H (V ||| 2 ^ h) p).2.1 h = some p := by rw [k1 h (by rw [orp_bit, decide_eq_true rfl, Bool.or_true])]; exact eH
          refine ⟨fun x => Bool.noConfusion x, fun _ => ⟨fun j hj => ?_, fun j p' hj hp' => ?_, fun x => ?_⟩⟩
          · show tU _ h q j = H j
            rw [tU_f (fun q => by rw [q, c0] at hj; exact Bool.noConfusion hj)]
            exact k1 j (by rw [orp_bit, hj]; rfl)
          · have hp' : tU (tk O F f H (V ||| 2 ^ h) p).2.1 h q j = some p' := hp'
            by_cases ej : j = h
            · rw [ej, tU_e] at hp'
              cases hp'
              rw [ej]
              exact ⟨hq, hh.2⟩
            · rw [tU_f ej] at hp'
              exact k2 j p' hj hp'
          · have u := tkc_U (H := (tk O F f H (V ||| 2 ^ h) p).2.1) (q := q) (p := x) hh.1
            rw [eh, k3 x] at u
            have e2 : decide (some p = some x) = decide (x = p) := decide_eq_decide.mpr ⟨fun y => by cases y; rfl, fun y => by rw [y]⟩
            rw [e2] at u
            show tkc (tU _ h q) x = _
            omega
        · have b0 : (tk O F f H (V ||| 2 ^ h) p).1 = false := by
            cases e : (tk O F f H (V ||| 2 ^ h) p).1 with
            | false => rfl
            | true => exact absurd e b
          obtain ⟨k0, k1, k2, k3, k4⟩ := k.1 b0
          have e : tkL (tk O F f) q (h :: r) H V = tkL (tk O F f) q r H (tk O F f H (V ||| 2 ^ h) p).2.2 := by
            conv => lhs; unfold tkL
            rw [if_neg c, eH]
            show (if _ then _ else _) = _
            rw [if_neg b, k0]
          rw [e]
          have sub : ∀ j, V.testBit j = true → (tk O F f H (V ||| 2 ^ h) p).2.2.testBit j = true := fun j hj => k1 j (by rw [orp_bit, hj]; rfl)
          have m := tkL_ok hq h1 h2 ih r (tk O F f H (V ||| 2 ^ h) p).2.2 hr k2 (by
            have := cnt_mono (f := fun j => V.testBit j) (g := fun j => (tk O F f H (V ||| 2 ^ h) p).2.2.testBit j) (n := 64) (fun j _ => sub j)
            omega)
          refine ⟨fun x => ?_, fun x => ?_⟩
          · obtain ⟨a1, a2, a3, a4, a5⟩ := m.1 x
            refine ⟨a1, fun j hj => a2 j (sub j hj), a3, fun j hj => ?_, fun j p' j' hj v1 v0 hp' hj' hn => ?_⟩
            · rcases List.mem_cons.mp hj with g | g
              · rw [g]; exact a2 h (k1 h (by rw [orp_bit, decide_eq_true rfl, Bool.or_true]))
              · exact a4 j g
            · cases e1 : (tk O F f H (V ||| 2 ^ h) p).2.2.testBit j with
              | false => exact a5 j p' j' hj v1 e1 hp' hj' hn
              | true =>
                refine a2 j' ?_
                by_cases ej : j = h
                · rw [ej, eH] at hp'
                  cases hp'
                  exact k3 j' (hsl_m.mpr ⟨hj', hn⟩)
                · exact k4 j p' j' hj e1 (by rw [orp_bit, v0, decide_eq_false (fun q => ej q.symm)]; rfl) hp' hj' hn
          · obtain ⟨a1, a2, a3⟩ := m.2 x
            exact ⟨fun j hj => a1 j (sub j hj), a2, a3⟩
theorem tk_ok {O : Nat → Nat} {F : Nat} {H : tH} (h1 : tVd O F H) (h2 : ∀ p, tkc H p ≤ 1) : ∀ f V q, q < 12 → tHd H V → 13 ≤ cnt (fun h => V.testBit h) 64 + f → ((tk O F f H V q).1 = false → (tk O F f H V q).2.1 = H ∧ tFl O F H V (tk O F f H V q).2.2 (hsl (O q &&& F))) ∧ ((tk O F f H V q).1 = true → tTr O F H V q (tk O F f H V q).2.1)
  | 0, V, q, hq, hv, hf => by
    have := tV12 h1 h2 hv
    omega
  | f + 1, V, q, hq, hv, hf => tkL_ok hq h1 h2 (fun V p => tk_ok h1 h2 f V p) (hsl (O q &&& F)) V (fun h x => hsl_m.mp x) hv hf
/-! all of a set -/
def tAll (O : Nat → Nat) (L F : Nat) : Nat → Nat → tH → Bool
  | 0, _, _ => true
  | k + 1, i, H => if L.testBit i = true then (if (tk O F 13 H 0 i).1 = true then tAll O L F k (i + 1) (tk O F 13 H 0 i).2.1 else false) else tAll O L F k (i + 1) H
def tCan (O : Nat → Nat) (L F : Nat) : Bool := tAll O L F 12 0 (fun _ => none)
def tNb (O : Nat → Nat) (A : Nat) : Nat := bitsOf (fun h => (List.range 12).any (fun p => A.testBit p && (O p).testBit h)) 64
theorem tNb_bit {O : Nat → Nat} {A h : Nat} (hh : h < 64) : (tNb O A).testBit h = true ↔ ∃ p, p < 12 ∧ A.testBit p = true ∧ (O p).testBit h = true := by
  unfold tNb
  rw [bitsOf_bit, decide_eq_true hh, Bool.true_and, List.any_eq_true]
  refine ⟨fun ⟨p, h1, h2⟩ => ?_, fun ⟨p, h1, h2, h3⟩ => ⟨p, List.mem_range.mpr h1, by rw [h2, h3]; rfl⟩⟩
  rw [Bool.and_eq_true] at h2
  exact ⟨p, List.mem_range.mp h1, h2⟩
def tHall (O : Nat → Nat) (L F : Nat) : Prop := ∀ A, (∀ p, A.testBit p = true → p < 12 ∧ L.testBit p = true) → cntB A ≤ pop (tNb O A &&& F)
def tMt (O : Nat → Nat) (L F : Nat) : Prop := ∃ g : Nat → Nat, (∀ p, p < 12 → L.testBit p = true → g p < 64 ∧ (O p &&& F).testBit (g p) = true) ∧ ∀ p q, p < 12 → q < 12 → L.testBit p = true → L.testBit q = true → g p = g q → p = q
theorem tMt_Hall {O : Nat → Nat} {L F : Nat} (h : tMt O L F) : tHall O L F := by
  obtain ⟨g, h1, h2⟩ := h
  intro A hA
  rw [cntB_cnt]
  unfold pop
  refine cnt_inj (f := g) (fun p hp a => ?_) (fun p q hp hq a b => h2 p q hp hq (hA p a).2 (hA q b).2)
  have k := h1 p hp (hA p a).2
  refine ⟨k.1, ?_⟩
  rw [Nat.testBit_and, Bool.and_eq_true] at k ⊢
  exact ⟨(tNb_bit k.1).mpr ⟨p, hp, a, k.2.1⟩, k.2.2⟩
theorem tAll_ok {O : Nat → Nat} {L F : Nat} : ∀ k i H, i + k = 12 → tVd O F H → (∀ p, tkc H p = (decide (p < i ∧ L.testBit p = true)).toNat) → (tAll O L F k i H = true → tMt O L F) ∧ (tAll O L F k i H = false → ¬ tHall O L F)
  | 0, i, H, hi, hv, hc => by
    refine ⟨fun _ => ?_, fun x => Bool.noConfusion x⟩
    have ex : ∀ p, ∃ h, p < 12 → L.testBit p = true → h < 64 ∧ H h = some p := by
      intro p
      by_cases q : p < 12 ∧ L.testBit p = true
      · have := hc p
        rw [decide_eq_true ⟨by omega, q.2⟩] at this
        obtain ⟨h, hh, e⟩ := cnt_ex (f := fun h => decide (H h = some p)) (n := 64) (by unfold tkc at this; rw [this]; decide)
        exact ⟨h, fun _ _ => ⟨hh, of_decide_eq_true e⟩⟩
      · exact ⟨0, fun a b => absurd ⟨a, b⟩ q⟩
    refine ⟨fun p => Classical.choose (ex p), fun p hp hl => ?_, fun p q hp hq lp lq e => ?_⟩
    · have c := Classical.choose_spec (ex p) hp hl
      exact ⟨c.1, (hv _ p c.1 c.2).2⟩
    · have c1 := Classical.choose_spec (ex p) hp lp
      have c2 := Classical.choose_spec (ex q) hq lq
      have e : Classical.choose (ex p) = Classical.choose (ex q) := e
      rw [e, c2.2] at c1
      have := c1.2
      cases this
      rfl
  | k + 1, i, H, hi, hv, hc => by
    have le1 : ∀ p, tkc H p ≤ 1 := fun p => by
      rw [hc p]
      cases decide (p < i ∧ L.testBit p = true) <;> decide
    unfold tAll
    by_cases l : L.testBit i = true
    · rw [if_pos l]
      have hd0 : tHd H 0 := fun h _ x => by rw [Nat.zero_testBit] at x; exact Bool.noConfusion x
      have t := tk_ok hv le1 13 0 i (by omega) hd0 (Nat.le_add_left _ _)
      by_cases b : (tk O F 13 H 0 i).1 = true
      · rw [if_pos b]
        obtain ⟨t1, t2, t3⟩ := t.2 b
        refine tAll_ok k (i + 1) _ (by omega) t2 (fun p => ?_)
        rw [t3 p, hc p]
        by_cases e : p = i
        · subst e
          rw [decide_eq_false (fun q => absurd q.1 (Nat.lt_irrefl _)), decide_eq_true rfl, decide_eq_true ⟨Nat.lt_succ_self _, l⟩]; rfl
        · rw [decide_eq_false e]
          have : (p < i ∧ L.testBit p = true) ↔ (p < i + 1 ∧ L.testBit p = true) := ⟨fun q => ⟨by omega, q.2⟩, fun q => ⟨by omega, q.2⟩⟩
          rw [decide_eq_decide.mpr this]; rfl
      · rw [if_neg b]
        have b0 : (tk O F 13 H 0 i).1 = false := by
          cases e : (tk O F 13 H 0 i).1 with
          | false => rfl
          | true => exact absurd e b
        refine ⟨fun x => Bool.noConfusion x, fun _ hall => ?_⟩
        obtain ⟨_, _, v2, v3, v4⟩ := t.1 b0
        generalize (tk O F 13 H 0 i).2.2 = V at v2 v3 v4
        have Ab : ∀ p, (bitsOf (fun p => decide (p = i) || (List.range 64).any (fun h => V.testBit h && decide (H h = some p))) 12).testBit p = true ↔ p < 12 ∧ (p = i ∨ ∃ h, h < 64 ∧ V.testBit h = true ∧ H h = some p) := by
          intro p
          rw [bitsOf_bit, Bool.and_eq_true, decide_eq_true_eq, Bool.or_eq_true, decide_eq_true_eq, List.any_eq_true]
          refine and_congr_right fun _ => or_congr_right ⟨fun ⟨h, a, c⟩ => ?_, fun ⟨h, a, c, e⟩ => ⟨h, List.mem_range.mpr a, by rw [c, decide_eq_true e]; rfl⟩⟩
          rw [Bool.and_eq_true, decide_eq_true_eq] at c
          exact ⟨h, List.mem_range.mp a, c⟩
        generalize bitsOf (fun p => decide (p = i) || (List.range 64).any (fun h => V.testBit h && decide (H h = some p))) 12 = A at Ab
        have inL : ∀ h p, h < 64 → H h = some p → p < i ∧ L.testBit p = true := by
          intro h p hh e
          have g := cnt_ge (f := fun h => decide (H h = some p)) hh (decide_eq_true e)
          have hp := hc p
          unfold tkc at hp
          rw [hp] at g
          by_cases q : p < i ∧ L.testBit p = true
          · exact q
          · rw [decide_eq_false q] at g; exact absurd g (by decide)
        have r := hall A (fun p a => ?_)
        · rw [cntB_cnt] at r
          have s1 : pop (tNb O A &&& F) ≤ cnt (fun h => V.testBit h) 64 := by
            unfold pop
            refine cnt_mono (fun h hh x => ?_)
            rw [Nat.testBit_and, Bool.and_eq_true] at x
            obtain ⟨p, hp, pa, po⟩ := (tNb_bit hh).mp x.1
            have nb : (O p &&& F).testBit h = true := by rw [Nat.testBit_and, po, x.2]; rfl
            rcases ((Ab p).mp pa).2 with q | ⟨j, hj, vj, ej⟩
            · rw [q] at nb
              exact v3 h (hsl_m.mpr ⟨hh, nb⟩)
            · exact v4 j p h hj vj (Nat.zero_testBit _) ej hh nb
          have s2 : cnt (fun h => V.testBit h) 64 ≤ cnt (fun p => A.testBit p && !decide (p = i)) 12 := by
            refine cnt_inj (f := fun h => (H h).getD 0) (fun h hh x => ?_) (fun h j hh hj x y e => ?_)
            · obtain ⟨p, ep⟩ := v2 h hh x
              have q := inL h p hh ep
              show (H h).getD 0 < 12 ∧ (A.testBit ((H h).getD 0) && !decide ((H h).getD 0 = i)) = true
              rw [ep]
              show p < 12 ∧ (A.testBit p && !decide (p = i)) = true
              rw [(Ab p).mpr ⟨by omega, Or.inr ⟨h, hh, x, ep⟩⟩, decide_eq_false (by omega)]
              exact ⟨by omega, rfl⟩
            · obtain ⟨p, ep⟩ := v2 h hh x
              obtain ⟨q, eq⟩ := v2 j hj y
              have e : (H h).getD 0 = (H j).getD 0 := e
              rw [ep, eq] at e
              have e : p = q := e
              subst e
              exact cnt_two (le1 p) hh hj (decide_eq_true ep) (decide_eq_true eq)
          have s3 := cnt_pt (f := fun p => A.testBit p && !decide (p = i)) (g := fun p => A.testBit p) (h := i) (n := 12) (by omega) (fun j _ hj => by
            show (A.testBit j && !decide (j = i)) = A.testBit j
            rw [decide_eq_false hj, Bool.not_false, Bool.and_true])
          rw [(Ab i).mpr ⟨by omega, Or.inl rfl⟩, decide_eq_true rfl, Bool.not_true, Bool.and_false] at s3
          have s3 : cnt (fun p => A.testBit p && !decide (p = i)) 12 + 1 = cnt (fun p => A.testBit p) 12 + 0 := s3
          omega
        · have q := (Ab p).mp a
          refine ⟨q.1, ?_⟩
          rcases q.2 with g | ⟨h, hh, _, e⟩
          · rw [g]; exact l
          · exact (inL h p hh e).2
    · rw [if_neg l]
      refine tAll_ok k (i + 1) H (by omega) hv (fun p => ?_)
      rw [hc p]
      have : (p < i ∧ L.testBit p = true) ↔ (p < i + 1 ∧ L.testBit p = true) := ⟨fun q => ⟨by omega, q.2⟩, fun q => ⟨by
        by_cases e : p = i
        · rw [e] at q; exact absurd q.2 l
        · omega, q.2⟩⟩
      rw [decide_eq_decide.mpr this]
theorem tCan_0 {O : Nat → Nat} {L F : Nat} : (tCan O L F = true → tMt O L F) ∧ (tCan O L F = false → ¬ tHall O L F) :=
  tAll_ok 12 0 (fun _ => none) rfl (fun h p _ e => by cases e) (fun p => by
    rw [decide_eq_false (fun q => absurd q.1 (Nat.not_lt_zero _))]
    exact cnt_false (fun i _ => rfl))
theorem tCan_Mt {O : Nat → Nat} {L F : Nat} : tCan O L F = true ↔ tMt O L F := by
  refine ⟨tCan_0.1, fun h => ?_⟩
  cases e : tCan O L F with
  | true => rfl
  | false => exact absurd (tMt_Hall h) (tCan_0.2 e)
theorem tCan_Hall {O : Nat → Nat} {L F : Nat} : tCan O L F = true ↔ tHall O L F := by
  refine ⟨fun h => tMt_Hall (tCan_0.1 h), fun h => ?_⟩
  cases e : tCan O L F with
  | true => rfl
  | false => exact absurd h (tCan_0.2 e)
theorem tMt_mono {O : Nat → Nat} {L F F' : Nat} (h : tMt O L F) (hs : ∀ i, i < 64 → F.testBit i = true → F'.testBit i = true) : tMt O L F' := by
  obtain ⟨g, h1, h2⟩ := h
  refine ⟨g, fun p hp hl => ?_, h2⟩
  have k := h1 p hp hl
  rw [Nat.testBit_and, Bool.and_eq_true] at k ⊢
  exact ⟨k.1, k.2.1, hs _ k.1 k.2.2⟩
/-- one of them is given an hour, the others still have theirs -/
theorem tMt_cut {O : Nat → Nat} {L F p : Nat} (h : tMt O L F) (hp : p < 12) (hl : L.testBit p = true) : ∃ k, k < 64 ∧ (O p &&& F).testBit k = true ∧ tMt O (andn L (2 ^ p)) (andn F (2 ^ k)) := by
  obtain ⟨g, h1, h2⟩ := h
  have k := h1 p hp hl
  refine ⟨g p, k.1, k.2, g, fun q hq lq => ?_, fun q r hq hr lq lr => ?_⟩
  · rw [andn_bit, Nat.testBit_two_pow, Bool.and_eq_true, Bool.not_eq_true', decide_eq_false_iff_not] at lq
    have kq := h1 q hq lq.1
    refine ⟨kq.1, ?_⟩
    rw [Nat.testBit_and, Bool.and_eq_true] at kq ⊢
    refine ⟨kq.2.1, ?_⟩
    rw [andn_bit, kq.2.2, Nat.testBit_two_pow, decide_eq_false (fun e => lq.2 (h2 p q hp hq hl lq.1 e))]; rfl
  · rw [andn_bit, Bool.and_eq_true] at lq lr
    exact h2 q r hq hr lq.1 lr.1
theorem tMt_n {O : Nat → Nat} {L n : Nat} (h : tMt O L (2 ^ n - 1)) : cntB L ≤ n := by
  obtain ⟨g, h1, h2⟩ := h
  rw [cntB_cnt]
  have r := cnt_inj (A := fun p => L.testBit p) (B := fun _ => true) (m := n) (n := 12) (f := g) (fun p hp hl => ?_) h2
  · rw [cnt_true] at r; exact r
  · have k := (h1 p hp hl).2
    rw [Nat.testBit_and, Bool.and_eq_true, Nat.testBit_two_pow_sub_one, decide_eq_true_eq] at k
    exact ⟨k.2, rfl⟩
/-- the lowest hour for one, so that others still have theirs -/
def tLow (O : Nat → Nat) (i L F : Nat) : Nat := ((List.range 64).find? (fun h => (O i &&& F).testBit h && tCan O L (andn F (2 ^ h)))).getD 0
def tGo (O : Nat → Nat) (who : Nat) : Nat → Nat → Nat → Nat → Nat
  | 0, _, _, _ => 0
  | k + 1, i, L, F => if L.testBit i = true then (if i = who then tLow O i (andn L (2 ^ i)) F else tGo O who k (i + 1) (andn L (2 ^ i)) (andn F (2 ^ tLow O i (andn L (2 ^ i)) F))) else tGo O who k (i + 1) L F
/-- the fewest hours -/
def tFew (O : Nat → Nat) (L : Nat) : Option Nat := (List.range 65).find? (fun n => tCan O L (2 ^ n - 1))
theorem tFew_some {O : Nat → Nat} {L n : Nat} (hn : n ≤ 64) (h1 : tCan O L (2 ^ n - 1) = true) (h2 : ∀ m, m < n → tCan O L (2 ^ m - 1) = false) : tFew O L = some n := by
  unfold tFew
  rw [List.find?_range_eq_some]
  exact ⟨h1, List.mem_range.mpr (by omega), fun j hj => by rw [h2 j hj]; rfl⟩
theorem tFew_none {O : Nat → Nat} {L : Nat} (h : tCan O L (2 ^ 64 - 1) = false) : tFew O L = none := by
  unfold tFew
  rw [List.find?_eq_none]
  intro n hn q
  have hn := List.mem_range.mp hn
  have := tMt_mono (tCan_Mt.mp q) (F' := 2 ^ 64 - 1) (fun i hi _ => by rw [Nat.testBit_two_pow_sub_one, decide_eq_true hi])
  rw [← tCan_Mt, h] at this
  exact Bool.noConfusion this
theorem tCan_le {O : Nat → Nat} {L m n : Nat} (hm : m ≤ n) (h : tCan O L (2 ^ m - 1) = true) : tCan O L (2 ^ n - 1) = true := by
  rw [tCan_Mt] at h ⊢
  refine tMt_mono h (fun i _ x => ?_)
  rw [Nat.testBit_two_pow_sub_one, decide_eq_true_eq] at x ⊢
  omega
/-! the lowest bit of a long -/
theorem low64 {n : Nat} (h0 : 0 < n) (hn : n < 2 ^ 64) : ∃ k, k < 64 ∧ n.testBit k = true ∧ ∀ i, i < k → n.testBit i = false := by
  cases e : (List.range 64).find? (fun i => n.testBit i) with
  | none =>
    rw [List.find?_eq_none] at e
    exfalso
    have : n = 0 := by
      apply Nat.eq_of_testBit_eq
      intro i
      rw [Nat.zero_testBit]
      rcases Nat.lt_or_ge i 64 with h | h
      · cases q : n.testBit i with
        | false => rfl
        | true => exact absurd q (e i (List.mem_range.mpr h))
      · exact Nat.testBit_lt_two_pow (Nat.lt_of_lt_of_le hn (Nat.pow_le_pow_right (by decide) h))
    omega
  | some k =>
    rw [List.find?_range_eq_some] at e
    obtain ⟨e1, e2, e3⟩ := e
    refine ⟨k, List.mem_range.mp e2, e1, fun i hi => ?_⟩
    have := e3 i hi
    cases q : n.testBit i with
    | false => rfl
    | true => rw [q] at this; exact Bool.noConfusion this
theorem low_form {n k : Nat} (h1 : n.testBit k = true) (h2 : ∀ i, i < k → n.testBit i = false) : ∃ m, n = 2 ^ k * (2 * m + 1) := by
  have e : n % 2 ^ k = 0 := by
    apply Nat.eq_of_testBit_eq
    intro i
    rw [Nat.testBit_mod_two_pow, Nat.zero_testBit]
    by_cases q : i < k
    · rw [h2 i q, Bool.and_false]
    · rw [decide_eq_false q, Bool.false_and]
  have o : (n / 2 ^ k) % 2 = 1 := by
    rw [Nat.testBit_eq_decide_div_mod_eq, decide_eq_true_eq] at h1
    exact h1
  refine ⟨n / 2 ^ k / 2, ?_⟩
  have d := Nat.div_add_mod n (2 ^ k)
  rw [e, Nat.add_zero] at d
  have d2 : 2 * (n / 2 ^ k / 2) + 1 = n / 2 ^ k := by omega
  rw [d2]
  exact d.symm
theorem clr_low {n k : Nat} (h1 : n.testBit k = true) (h2 : ∀ i, i < k → n.testBit i = false) : n &&& (n - 1) = andn n (2 ^ k) := by
  obtain ⟨m, e⟩ := low_form h1 h2
  have e1 : n = 2 ^ k * (2 * m + 1) + 0 := e
  have p := Nat.two_pow_pos k
  have e2 : n - 1 = 2 ^ k * (2 * m) + (2 ^ k - 1) := by
    rw [e, Nat.mul_add, Nat.mul_one]
    omega
  apply Nat.eq_of_testBit_eq
  intro i
  rw [Nat.testBit_and, andn_bit, Nat.testBit_two_pow, e2, Nat.testBit_two_pow_mul_add _ (by omega)]
  by_cases q : i < k
  · rw [h2 i q, Bool.false_and, Bool.false_and]
  · rw [if_neg q]
    by_cases r : k = i
    · subst r
      rw [Nat.sub_self, decide_eq_true rfl, Bool.not_true, Bool.and_false, Nat.testBit_zero, Nat.mul_mod_right]
      rw [h1]; rfl
    · rw [decide_eq_false r, Bool.not_false, Bool.and_true]
      have : n.testBit i = (2 * m).testBit (i - k) := by
        rw [e1, Nat.testBit_two_pow_mul_add _ p, if_neg q]
        obtain ⟨j, hj⟩ : ∃ j, i - k = j + 1 := ⟨i - k - 1, by omega⟩
        rw [hj, Nat.testBit_succ, Nat.testBit_succ]
        congr 1
        omega
      rw [this, Bool.and_self]
theorem iso_low {n k : Nat} (hk : k < 64) (h1 : n.testBit k = true) (h2 : ∀ i, i < k → n.testBit i = false) : lN n &&& (-(lN n)) = lN (2 ^ k) := by
  apply Int64.toBitVec_inj.mp
  rw [Int64.toBitVec_and, Int64.toBitVec_neg]
  show BitVec.ofNat 64 n &&& (-(BitVec.ofNat 64 n)) = BitVec.ofNat 64 (2 ^ k)
  apply BitVec.eq_of_getLsbD_eq
  intro i hi
  rw [BitVec.getLsbD_and, BitVec.getLsbD_neg, BitVec.getLsbD_ofNat, BitVec.getLsbD_ofNat, decide_eq_true hi, Bool.true_and, Bool.true_and, Bool.true_and, Nat.testBit_two_pow]
  have ex : (∃ j, j < i ∧ (BitVec.ofNat 64 n).getLsbD j = true) ↔ k < i ∨ ∃ j, k < j ∧ j < i ∧ n.testBit j = true := by
    constructor
    · intro ⟨j, hj, e⟩
      rw [BitVec.getLsbD_ofNat, Bool.and_eq_true] at e
      rcases Nat.lt_trichotomy j k with q | q | q
      · rw [h2 j q] at e; exact Bool.noConfusion e.2
      · subst q; exact Or.inl hj
      · exact Or.inl (by omega)
    · intro q
      have q : k < i := by
        rcases q with q | ⟨j, q1, q2, _⟩
        · exact q
        · omega
      exact ⟨k, q, by rw [BitVec.getLsbD_ofNat, decide_eq_true hk, h1]; rfl⟩
  have ex2 : (∃ j, j < i ∧ (BitVec.ofNat 64 n).getLsbD j = true) ↔ k < i := by
    rw [ex]
    exact ⟨fun q => by
      rcases q with q | ⟨j, q1, q2, _⟩
      · exact q
      · omega, Or.inl⟩
  rw [decide_eq_decide.mpr ex2]
  rcases Nat.lt_trichotomy i k with q | q | q
  · rw [h2 i q, Bool.false_and, decide_eq_false (by omega)]
  · subst q
    rw [h1, decide_eq_false (Nat.lt_irrefl _), decide_eq_true rfl]; rfl
  · rw [decide_eq_true q, decide_eq_false (by omega)]
    cases n.testBit i <;> rfl
theorem hsl_low {n k : Nat} (hk : k < 64) (h1 : n.testBit k = true) (h2 : ∀ i, i < k → n.testBit i = false) : hsl n = k :: hsl (andn n (2 ^ k)) := by
  have e : List.range 64 = List.range k ++ (k :: (List.range (64 - k - 1)).map (fun t => k + 1 + t)) := by
    have h1 : 64 = k + ((64 - k - 1) + 1) := by omega
    conv => lhs; rw [h1, List.range_add, List.range_succ_eq_map]
    rw [List.map_cons, List.map_map, Nat.add_zero]
    congr 2
    apply List.map_congr_left
    intro t _
    show k + (t + 1) = k + 1 + t
    omega
  have l0 : ∀ m : Nat, (∀ i, i < k → m.testBit i = false) → (List.range k).filter (fun i => m.testBit i) = [] := by
    intro m hm
    rw [List.filter_eq_nil_iff]
    intro i hi q
    rw [hm i (List.mem_range.mp hi)] at q
    exact Bool.noConfusion q
  unfold hsl
  rw [e, List.filter_append, List.filter_append, l0 n h2, l0 (andn n (2 ^ k)) (fun i hi => by rw [andn_bit, h2 i hi]; rfl), List.nil_append, List.nil_append, List.filter_cons_of_pos h1, List.filter_cons_of_neg (by rw [andn_bit, Nat.testBit_two_pow, decide_eq_true rfl, Bool.not_true, Bool.and_false]; exact fun q => Bool.noConfusion q)]
  congr 1
  apply List.filter_congr
  intro i hi
  obtain ⟨t, _, e⟩ := List.mem_map.mp hi
  rw [andn_bit, Nat.testBit_two_pow, decide_eq_false (by omega), Bool.not_false, Bool.and_true]
theorem hsl_0 : hsl 0 = [] := by
  unfold hsl
  rw [List.filter_eq_nil_iff]
  intro i _ q
  rw [Nat.zero_testBit] at q
  exact Bool.noConfusion q
theorem pop_low {n k : Nat} (hk : k < 64) (h1 : n.testBit k = true) : pop (andn n (2 ^ k)) + 1 = pop n := by
  have r := cnt_pt (f := fun i => (andn n (2 ^ k)).testBit i) (g := fun i => n.testBit i) (h := k) (n := 64) hk (fun i _ hi => by
    show (andn n (2 ^ k)).testBit i = n.testBit i
    rw [andn_bit, Nat.testBit_two_pow, decide_eq_false (fun q => hi q.symm), Bool.not_false, Bool.and_true])
  rw [andn_bit, h1, Nat.testBit_two_pow, decide_eq_true rfl] at r
  exact r
theorem pop_m1 {k : Nat} (hk : k ≤ 64) : pop (2 ^ k - 1) = k := by
  unfold pop
  have : ∀ m, k ≤ m → cnt (fun i => (2 ^ k - 1).testBit i) m = k := by
    intro m hm
    obtain ⟨e, rfl⟩ : ∃ e, m = k + e := ⟨m - k, by omega⟩
    rw [cnt_add, cnt_congr (g := fun _ => true) (fun i hi => by rw [Nat.testBit_two_pow_sub_one, decide_eq_true hi]), cnt_true, cnt_false (fun i _ => by rw [Nat.testBit_two_pow_sub_one, decide_eq_false (by omega)])]
    rfl
  exact this 64 hk
theorem pop_0 : pop 0 = 0 := cnt_false (fun i _ => Nat.zero_testBit _)
end TurnP
