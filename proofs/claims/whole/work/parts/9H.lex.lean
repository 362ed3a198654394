/-! text: what is asked: tokens, and how they are read. -/
section Lex
def yB (Z : vZ) (k : Nat) : Nat := if k < Z.1 then Z.2.1 k else 256
def yL (c : Nat) : Bool := decide (97 ≤ c ∧ c ≤ 122) || decide (65 ≤ c ∧ c ≤ 90)
def yD (c : Nat) : Bool := decide (48 ≤ c ∧ c ≤ 57)
def yS (c : Nat) : Bool := decide (c = 32 ∨ c = 10)
def yRf (p : Nat → Bool) (Z : vZ) : Nat → Nat → Nat
  | 0, a => a
  | f + 1, a => if p (yB Z a) = true then yRf p Z f (a + 1) else a
def yR (p : Nat → Bool) (Z : vZ) (a : Nat) : Nat := yRf p Z (Z.1 - a) a
def yVf (Z : vZ) : Nat → Nat → Nat → Nat
  | 0, _, v => v
  | f + 1, a, v => if yD (yB Z a) = true then yVf Z f (a + 1) (min 10000 (v * 10 + (yB Z a - 48))) else v
def yV (Z : vZ) (a v : Nat) : Nat := yVf Z (Z.1 - a) a v
variable {Z : vZ} {p : Nat → Bool} {a : Nat}
theorem yB_lt (h : yB Z a < 256) : a < Z.1 ∧ yB Z a = Z.2.1 a := by
  unfold yB at h ⊢
  by_cases q : a < Z.1
  · rw [if_pos q]; exact ⟨q, rfl⟩
  · rw [if_neg q] at h; omega
theorem yB_in (h : a < Z.1) : yB Z a = Z.2.1 a := if_pos h
theorem yB_out (h : Z.1 ≤ a) : yB Z a = 256 := if_neg (by omega)
theorem yR_0 (h : p (yB Z a) = false) : yR p Z a = a := by
  unfold yR
  cases Z.1 - a with
  | zero => rfl
  | succ f =>
    unfold yRf
    rw [if_neg (by rw [h]; exact fun q => Bool.noConfusion q)]
theorem yR_1 (h2 : p 256 = false) (h : p (yB Z a) = true) : a < Z.1 ∧ yR p Z a = yR p Z (a + 1) := by
  have l : a < Z.1 := by
    rcases Nat.lt_or_ge a Z.1 with q | q
    · exact q
    · rw [yB_out q, h2] at h; exact Bool.noConfusion h
  refine ⟨l, ?_⟩
  unfold yR
  rw [show Z.1 - a = Z.1 - (a + 1) + 1 by omega]
  conv => lhs; unfold yRf
  rw [if_pos h]
theorem yRf_b : ∀ f a, a ≤ yRf p Z f a ∧ yRf p Z f a ≤ a + f
  | 0, a => ⟨Nat.le_refl _, Nat.le_refl _⟩
  | f + 1, a => by
    unfold yRf
    have := yRf_b f (a + 1)
    split
    · omega
    · omega
theorem yR_b (h : a ≤ Z.1) : a ≤ yR p Z a ∧ yR p Z a ≤ Z.1 := by
  have := yRf_b (p := p) (Z := Z) (Z.1 - a) a
  unfold yR
  omega
theorem yR_p (h2 : p 256 = false) (h : p (yB Z a) = true) : a + 1 ≤ yR p Z a := by
  have e := yR_1 h2 h
  rw [e.2]
  exact (yR_b (by omega)).1
theorem yV_0 {v : Nat} (h : yD (yB Z a) = false) : yV Z a v = v := by
  unfold yV
  cases Z.1 - a with
  | zero => rfl
  | succ f =>
    unfold yVf
    rw [if_neg (by rw [h]; exact fun q => Bool.noConfusion q)]
theorem yV_1 {v : Nat} (h : yD (yB Z a) = true) : yV Z a v = yV Z (a + 1) (min 10000 (v * 10 + (yB Z a - 48))) := by
  have l : a < Z.1 := by
    rcases Nat.lt_or_ge a Z.1 with q | q
    · exact q
    · rw [yB_out q] at h; exact Bool.noConfusion h
  unfold yV
  rw [show Z.1 - a = Z.1 - (a + 1) + 1 by omega]
  conv => lhs; unfold yVf
  rw [if_pos h]
theorem yVf_b : ∀ f a v, v ≤ 10000 → yVf Z f a v ≤ 10000
  | 0, _, _, h => h
  | f + 1, a, v, h => by
    unfold yVf
    split
    · exact yVf_b f _ _ (Nat.min_le_left _ _)
    · exact h
def yW (Z : vZ) (a e : Nat) : List Nat := (List.range (e - a)).map (fun i => Z.2.1 (a + i))
def yI (l : List Nat) : Nat := ((List.range 16).find? (fun k => decide (1 ≤ k) && decide (qSt k = l))).getD 0
theorem qSt_inj : ((List.range 16).all fun i => (List.range 16).all fun j => decide (i = 0) || decide (j = 0) || decide (i = j) || !decide (qSt i = qSt j)) = true := by decide +kernel
theorem yI_iff {l : List Nat} {k : Nat} (h1 : 1 ≤ k) (h2 : k ≤ 15) : yI l = k ↔ qSt k = l := by
  have inj : ∀ i j, 1 ≤ i → i ≤ 15 → 1 ≤ j → j ≤ 15 → qSt i = qSt j → i = j := by
    intro i j hi hi2 hj hj2 e
    have q := List.all_eq_true.mp (List.all_eq_true.mp qSt_inj i (List.mem_range.mpr (by omega))) j (List.mem_range.mpr (by omega))
    rw [decide_eq_false (show ¬ i = 0 by omega), decide_eq_false (show ¬ j = 0 by omega), Bool.false_or, Bool.false_or, decide_eq_true e, Bool.not_true, Bool.or_false, decide_eq_true_eq] at q
    exact q
  unfold yI
  constructor
  · intro h
    cases e : (List.range 16).find? (fun k => decide (1 ≤ k) && decide (qSt k = l)) with
    | none => rw [e] at h; have h : 0 = k := h; omega
    | some j =>
      rw [e] at h
      have h : j = k := h
      subst h
      rw [List.find?_range_eq_some] at e
      have := e.1
      rw [Bool.and_eq_true, decide_eq_true_eq, decide_eq_true_eq] at this
      exact this.2
  · intro h
    have e : (List.range 16).find? (fun k => decide (1 ≤ k) && decide (qSt k = l)) = some k := by
      rw [List.find?_range_eq_some]
      refine ⟨by rw [decide_eq_true h1, decide_eq_true h]; rfl, List.mem_range.mpr (by omega), fun j hj => ?_⟩
      by_cases q : 1 ≤ j ∧ qSt j = l
      · have := inj j k q.1 (by omega) h1 h2 (q.2.trans h.symm)
        omega
      · cases u : (decide (1 ≤ j) && decide (qSt j = l)) with
        | false => rfl
        | true =>
          rw [Bool.and_eq_true, decide_eq_true_eq, decide_eq_true_eq] at u
          exact absurd u q
    rw [e]; rfl
theorem yI_le (l : List Nat) : yI l ≤ 15 := by
  unfold yI
  cases e : (List.range 16).find? (fun k => decide (1 ≤ k) && decide (qSt k = l)) with
  | none => exact Nat.zero_le _
  | some j =>
    rw [List.find?_range_eq_some] at e
    have := List.mem_range.mp e.2.1
    show j ≤ 15
    omega
def yG (c : Nat) : Bool := decide (c ∈ qSt 0)
abbrev yK : Type := Nat × Nat × Nat
def y0 (Z : vZ) (p : Nat) : yK × Nat :=
  if yB Z p = 256 then ((0, 0, p), p)
  else if yL (yB Z p) = true then ((2, yI (yW Z p (yR yL Z p)), p), yR yL Z p)
  else if yD (yB Z p) = true then ((1, yV Z p 0, p), yR yD Z p)
  else if (yB Z p = 60 ∨ yB Z p = 62) ∧ yB Z (p + 1) = 61 then ((if yB Z p = 60 then 4 else 5, 0, p), p + 2)
  else if yG (yB Z p) = true then ((yB Z p, 0, p), p + 1) else ((3, 0, p), p + 1)
def yT (Z : vZ) (a : Nat) : yK := (y0 Z (yR yS Z a)).1
def yN (Z : vZ) (a : Nat) : Nat := (y0 Z (yR yS Z a)).2
theorem yG_b {c : Nat} (h : yG c = true) : 35 ≤ c ∧ c ≤ 62 := by
  have h : c ∈ qSt 0 := of_decide_eq_true h
  have e : ((qSt 0).all fun c => decide (35 ≤ c ∧ c ≤ 62)) = true := by decide +kernel
  exact of_decide_eq_true (List.all_eq_true.mp e c h)
theorem y0_b {p : Nat} (h : p ≤ Z.1) (hb : ∀ j, j < Z.1 → Z.2.1 j < 256) : (y0 Z p).1.2.2 = p ∧ p ≤ (y0 Z p).2 ∧ (y0 Z p).2 ≤ Z.1 ∧ (¬ (y0 Z p).1.1 = 0 → p < (y0 Z p).2) ∧ (y0 Z p).1.1 ≤ 62 ∧ (y0 Z p).1.2.1 ≤ 10000 ∧ ((y0 Z p).1.1 = 2 → (y0 Z p).1.2.1 ≤ 15) := by
  unfold y0
  by_cases c1 : yB Z p = 256
  · rw [if_pos c1]
    exact ⟨rfl, Nat.le_refl _, h, fun q => absurd rfl q, Nat.zero_le 62, Nat.zero_le 10000, fun q => by have q : (0 : Nat) = 2 := q; omega⟩
  rw [if_neg c1]
  have l : p < Z.1 := by
    rcases Nat.lt_or_ge p Z.1 with q | q
    · exact q
    · exact absurd (yB_out q) c1
  by_cases c2 : yL (yB Z p) = true
  · rw [if_pos c2]
    have b := yR_b (p := yL) (Z := Z) h
    have b2 := yR_p (p := yL) (Z := Z) rfl c2
    have := yI_le (yW Z p (yR yL Z p))
    exact ⟨rfl, b.1, b.2, fun _ => b2, (show (2 : Nat) ≤ 62 from by decide), by show yI _ ≤ _; omega, fun _ => this⟩
  rw [if_neg c2]
  by_cases c3 : yD (yB Z p) = true
  · rw [if_pos c3]
    have b := yR_b (p := yD) (Z := Z) h
    have b2 := yR_p (p := yD) (Z := Z) rfl c3
    exact ⟨rfl, b.1, b.2, fun _ => b2, (show (1 : Nat) ≤ 62 from by decide), yVf_b _ _ _ (by decide), fun q => by have q : (1 : Nat) = 2 := q; omega⟩
  rw [if_neg c3]
  by_cases c4 : (yB Z p = 60 ∨ yB Z p = 62) ∧ yB Z (p + 1) = 61
  · rw [if_pos c4]
    have l2 := (yB_lt (Z := Z) (a := p + 1) (by omega)).1
    refine ⟨rfl, by show p ≤ p + 2; omega, by show p + 2 ≤ _; omega, fun _ => by show p < p + 2; omega, ?_, Nat.zero_le 10000, fun q => ?_⟩
    · show (if yB Z p = 60 then 4 else 5) ≤ 62
      split <;> decide
    · have q : (if yB Z p = 60 then 4 else 5) = 2 := q
      split at q
      · exact absurd q (by decide)
      · exact absurd q (by decide)
  rw [if_neg c4]
  by_cases c5 : yG (yB Z p) = true
  · rw [if_pos c5]
    have g := yG_b c5
    exact ⟨rfl, Nat.le_succ _, l, fun _ => Nat.lt_succ_self _, by show yB Z p ≤ 62; omega, Nat.zero_le 10000, fun q => by have q : yB Z p = 2 := q; omega⟩
  · rw [if_neg c5]
    exact ⟨rfl, Nat.le_succ _, l, fun _ => Nat.lt_succ_self _, (show (3 : Nat) ≤ 62 from by decide), Nat.zero_le 10000, fun q => by have q : (3 : Nat) = 2 := q; omega⟩
theorem yT_b (h : a ≤ Z.1) (hb : ∀ j, j < Z.1 → Z.2.1 j < 256) : (yT Z a).2.2 ≤ Z.1 ∧ a ≤ yN Z a ∧ yN Z a ≤ Z.1 ∧ (¬ (yT Z a).1 = 0 → a < yN Z a) ∧ (yT Z a).1 ≤ 62 ∧ (yT Z a).2.1 ≤ 10000 ∧ ((yT Z a).1 = 2 → (yT Z a).2.1 ≤ 15) := by
  have r := yR_b (p := yS) h
  have b := y0_b (p := yR yS Z a) r.2 hb
  unfold yT yN
  exact ⟨by rw [b.1]; exact r.2, by omega, b.2.2.1, fun q => by have := b.2.2.2.1 q; omega, b.2.2.2.2.1, b.2.2.2.2.2.1, b.2.2.2.2.2.2⟩
/-! the grammar; a fault is told with its place -/
abbrev xR : Type := Except (Nat × Nat) (List (Nat × Nat) × Nat)
def xF (Z : vZ) (f a : Nat) : xR := .error (f, (yT Z a).2.2)
def xLf (Z : vZ) (b : Bool) (a : Nat) (o : xR) : xR :=
  if (yT Z a).1 = 1 then (if (yT Z a).2.1 ≤ 9999 then .ok ([(0, (yT Z a).2.1)], yN Z a) else xF Z 2 a)
  else if (yT Z a).1 = 2 then
    (if 6 ≤ (yT Z a).2.1 ∧ (yT Z a).2.1 ≤ 12 then (if b = decide ((yT Z a).2.1 - 6 < 4) then .ok ([(1, (yT Z a).2.1 - 6)], yN Z a) else xF Z 5 a) else xF Z 1 a)
  else o
def opP (t : yK) : Nat := if t.1 = 42 then 5 else if t.1 = 47 then 6 else if t.1 = 37 then 7 else 0
def opS (t : yK) : Nat := if t.1 = 43 then 3 else if t.1 = 45 then 4 else 0
def opA (t : yK) : Nat := if t.1 = 2 ∧ t.2.1 = 14 then 21 else 0
def opO (t : yK) : Nat := if t.1 = 2 ∧ t.2.1 = 15 then 22 else 0
def opC (t : yK) : Nat := if t.1 = 60 then 10 else if t.1 = 4 then 11 else if t.1 = 62 then 12 else if t.1 = 5 then 13 else if t.1 = 61 then 14 else if t.1 = 35 then 15 else 0
def xCh (Z : vZ) (o : Nat → xR) (op : yK → Nat) : Nat → Nat → xR
  | 0, r => .ok ([], r)
  | k + 1, r => if op (yT Z r) = 0 then .ok ([], r) else
    match o (yN Z r) with
    | .error e => .error e
    | .ok (c, r1) => match xCh Z o op k r1 with
      | .error e => .error e
      | .ok (c2, r2) => .ok (c ++ (op (yT Z r), 0) :: c2, r2)
def xCn (Z : vZ) (o : Nat → xR) (op : yK → Nat) (a : Nat) : xR :=
  match o a with
  | .error e => .error e
  | .ok (c, r) => match xCh Z o op 300 r with
    | .error e => .error e
    | .ok (c2, r2) => .ok (c ++ c2, r2)
def xSm (Z : vZ) (o : Nat → xR) (a : Nat) : xR := xCn Z (xCn Z o opP) opS a
def xOne (Z : vZ) (b : Bool) : Nat → Nat → xR
  | 0, a => xLf Z b a (if (yT Z a).1 = 40 ∨ (yT Z a).1 = 45 then xF Z 3 a else xF Z 1 a)
  | f + 1, a => xLf Z b a (if (yT Z a).1 = 45 then (match xOne Z b f (yN Z a) with
      | .error e => .error e
      | .ok (c, r) => .ok (c ++ [(2, 0)], r))
    else if (yT Z a).1 = 40 then (match xSm Z (xOne Z b f) (yN Z a) with
      | .error e => .error e
      | .ok (c, r) => if (yT Z r).1 = 41 then .ok (c, yN Z r) else xF Z 1 r)
    else xF Z 1 a)
/-- two sums and what holds between them -/
def xCp (Z : vZ) (b : Bool) (f a : Nat) : xR :=
  match xSm Z (xOne Z b f) a with
  | .error e => .error e
  | .ok (c, r) => if opC (yT Z r) = 0 then xF Z 1 r else
    match xSm Z (xOne Z b f) (yN Z r) with
    | .error e => .error e
    | .ok (c2, r2) => .ok (c ++ (c2 ++ [(opC (yT Z r), 0)]), r2)
def xNt (Z : vZ) (a : Nat) : Prop := (yT Z a).1 = 2 ∧ (yT Z a).2.1 = 13
def xAsk (Z : vZ) (b : Bool) : Nat → Nat → xR
  | 0, a => if (yT Z a).1 = 2 ∧ (yT Z a).2.1 = 13 then xF Z 3 a else xCp Z b 0 a
  | f + 1, a => if (yT Z a).1 = 2 ∧ (yT Z a).2.1 = 13 then (match xAsk Z b f (yN Z a) with
      | .error e => .error e
      | .ok (c, r) => .ok (c ++ [(20, 0)], r)) else xCp Z b (f + 1) a
def xEi (Z : vZ) (b : Bool) (a : Nat) : xR := xCn Z (xCn Z (xAsk Z b 8) opA) opO a
/-! what is read lies in the tape -/
def xB (Z : vZ) (a : Nat) (x : xR) : Prop := ∀ c r, x = .ok (c, r) → a + c.length ≤ r ∧ a < r ∧ r ≤ Z.1
variable (hb : ∀ j, j < Z.1 → Z.2.1 j < 256)
theorem xLf_b {b : Bool} {o : xR} (h : a ≤ Z.1) (hb : ∀ j, j < Z.1 → Z.2.1 j < 256) (ho : xB Z a o) : xB Z a (xLf Z b a o) := by
  intro c r e
  have t := yT_b h hb
  unfold xLf xF at e
  by_cases c1 : (yT Z a).1 = 1
  · rw [if_pos c1] at e
    split at e
    · cases e
      have := t.2.2.2.1 (by omega)
      exact ⟨this, this, t.2.2.1⟩
    · cases e
  · rw [if_neg c1] at e
    by_cases c2 : (yT Z a).1 = 2
    · rw [if_pos c2] at e
      split at e
      · split at e
        · cases e
          have := t.2.2.2.1 (by omega)
          exact ⟨this, this, t.2.2.1⟩
        · cases e
      · cases e
    · rw [if_neg c2] at e
      exact ho c r e
theorem xCh_b {o : Nat → xR} {op : yK → Nat} (hb : ∀ j, j < Z.1 → Z.2.1 j < 256) (h0 : ∀ t, t.1 = 0 → op t = 0) (ho : ∀ a, a ≤ Z.1 → xB Z a (o a)) : ∀ k r, r ≤ Z.1 → ∀ c r2, xCh Z o op k r = .ok (c, r2) → r + c.length ≤ r2 ∧ r ≤ r2 ∧ r2 ≤ Z.1
  | 0, r, h, c, r2, e => by
    unfold xCh at e
    cases e
    exact ⟨Nat.le_refl _, Nat.le_refl _, h⟩
  | k + 1, r, h, c, r2, e => by
    unfold xCh at e
    have t := yT_b h hb
    by_cases q : op (yT Z r) = 0
    · rw [if_pos q] at e
      cases e
      exact ⟨Nat.le_refl _, Nat.le_refl _, h⟩
    · rw [if_neg q] at e
      have t0 := t.2.2.2.1 (fun z => q (h0 _ z))
      cases e1 : o (yN Z r) with
      | error x => rw [e1] at e; cases e
      | ok x =>
        obtain ⟨c1, r1⟩ := x
        rw [e1] at e
        dsimp only at e
        have k1 := ho _ t.2.2.1 _ _ e1
        cases e2 : xCh Z o op k r1 with
        | error x => rw [e2] at e; cases e
        | ok x =>
          obtain ⟨c2, r2'⟩ := x
          rw [e2] at e
          dsimp only at e
          have k2 := xCh_b hb h0 ho k r1 k1.2.2 _ _ e2
          cases e
          rw [List.length_append, List.length_cons]
          omega
theorem xCn_b {o : Nat → xR} {op : yK → Nat} (hb : ∀ j, j < Z.1 → Z.2.1 j < 256) (h0 : ∀ t, t.1 = 0 → op t = 0) (ho : ∀ a, a ≤ Z.1 → xB Z a (o a)) : ∀ a, a ≤ Z.1 → xB Z a (xCn Z o op a) := by
  intro a h c r e
  unfold xCn at e
  cases e1 : o a with
  | error x => rw [e1] at e; cases e
  | ok x =>
    obtain ⟨c1, r1⟩ := x
    rw [e1] at e
    dsimp only at e
    have k1 := ho a h _ _ e1
    cases e2 : xCh Z o op 300 r1 with
    | error x => rw [e2] at e; cases e
    | ok x =>
      obtain ⟨c2, r2⟩ := x
      rw [e2] at e
      dsimp only at e
      have k2 := xCh_b hb h0 ho 300 r1 k1.2.2 _ _ e2
      cases e
      rw [List.length_append]
      omega
theorem opP_0 (t : yK) (h : t.1 = 0) : opP t = 0 := by unfold opP; rw [h]; rfl
theorem opS_0 (t : yK) (h : t.1 = 0) : opS t = 0 := by unfold opS; rw [h]; rfl
theorem opA_0 (t : yK) (h : t.1 = 0) : opA t = 0 := by unfold opA; rw [if_neg (by omega)]
theorem opO_0 (t : yK) (h : t.1 = 0) : opO t = 0 := by unfold opO; rw [if_neg (by omega)]
theorem opC_0 (t : yK) (h : t.1 = 0) : opC t = 0 := by unfold opC; rw [h]; rfl
theorem xSm_b {o : Nat → xR} (hb : ∀ j, j < Z.1 → Z.2.1 j < 256) (ho : ∀ a, a ≤ Z.1 → xB Z a (o a)) : ∀ a, a ≤ Z.1 → xB Z a (xSm Z o a) := xCn_b hb opS_0 (xCn_b hb opP_0 ho)
theorem xOne_b {b : Bool} (hb : ∀ j, j < Z.1 → Z.2.1 j < 256) : ∀ f a, a ≤ Z.1 → xB Z a (xOne Z b f a)
  | 0, a, h => by
    unfold xOne xF
    refine xLf_b h hb (fun c r e => ?_)
    split at e <;> cases e
  | f + 1, a, h => by
    unfold xOne
    refine xLf_b h hb (fun c r e => ?_)
    have t := yT_b h hb
    by_cases c1 : (yT Z a).1 = 45
    · rw [if_pos c1] at e
      have t0 := t.2.2.2.1 (by omega)
      cases e1 : xOne Z b f (yN Z a) with
      | error x => rw [e1] at e; cases e
      | ok x =>
        obtain ⟨c1, r1⟩ := x
        rw [e1] at e
        dsimp only at e
        have k := xOne_b hb f _ t.2.2.1 _ _ e1
        cases e
        rw [List.length_append]
        show a + (c1.length + 1) ≤ _ ∧ _
        omega
    · rw [if_neg c1] at e
      by_cases c2 : (yT Z a).1 = 40
      · rw [if_pos c2] at e
        have t0 := t.2.2.2.1 (by omega)
        cases e1 : xSm Z (xOne Z b f) (yN Z a) with
        | error x => rw [e1] at e; cases e
        | ok x =>
          obtain ⟨c1, r1⟩ := x
          rw [e1] at e
          dsimp only at e
          have k := xSm_b hb (xOne_b hb f) _ t.2.2.1 _ _ e1
          have t1 := yT_b k.2.2 hb
          have e : (if (yT Z r1).1 = 41 then (.ok (c1, yN Z r1) : xR) else xF Z 1 r1) = .ok (c, r) := e
          by_cases c3 : (yT Z r1).1 = 41
          · rw [if_pos c3] at e
            cases e
            have := t1.2.2.2.1 (by omega)
            omega
          · rw [if_neg c3] at e; unfold xF at e; cases e
      · rw [if_neg c2] at e; unfold xF at e; cases e
theorem xCp_b {b : Bool} {f : Nat} (hb : ∀ j, j < Z.1 → Z.2.1 j < 256) (h : a ≤ Z.1) : xB Z a (xCp Z b f a) := by
  intro c r e
  unfold xCp at e
  cases e1 : xSm Z (xOne Z b f) a with
  | error x => rw [e1] at e; cases e
  | ok x =>
    obtain ⟨c1, r1⟩ := x
    rw [e1] at e
    dsimp only at e
    have k1 := xSm_b hb (xOne_b hb f) _ h _ _ e1
    have t1 := yT_b k1.2.2 hb
    have e : (if opC (yT Z r1) = 0 then xF Z 1 r1 else match xSm Z (xOne Z b f) (yN Z r1) with
      | .error e => .error e
      | .ok (c2, r2) => .ok (c1 ++ (c2 ++ [(opC (yT Z r1), 0)]), r2)) = (.ok (c, r) : xR) := e
    by_cases q : opC (yT Z r1) = 0
    · rw [if_pos q] at e; unfold xF at e; cases e
    · rw [if_neg q] at e
      have t0 := t1.2.2.2.1 (fun z => q (opC_0 _ z))
      cases e2 : xSm Z (xOne Z b f) (yN Z r1) with
      | error x => rw [e2] at e; cases e
      | ok x =>
        obtain ⟨c2, r2⟩ := x
        rw [e2] at e
        dsimp only at e
        have k2 := xSm_b hb (xOne_b hb f) _ t1.2.2.1 _ _ e2
        cases e
        rw [List.length_append, List.length_append]
        show a + (c1.length + (c2.length + 1)) ≤ _ ∧ _
        omega
theorem xAsk_b {b : Bool} (hb : ∀ j, j < Z.1 → Z.2.1 j < 256) : ∀ f a, a ≤ Z.1 → xB Z a (xAsk Z b f a)
  | 0, a, h => by
    unfold xAsk
    split
    · intro c r e; unfold xF at e; cases e
    · exact xCp_b hb h
  | f + 1, a, h => by
    unfold xAsk
    split
    · rename_i q
      intro c r e
      have t := yT_b h hb
      have t0 := t.2.2.2.1 (by omega)
      cases e1 : xAsk Z b f (yN Z a) with
      | error x => rw [e1] at e; cases e
      | ok x =>
        obtain ⟨c1, r1⟩ := x
        rw [e1] at e
        dsimp only at e
        have k := xAsk_b hb f _ t.2.2.1 _ _ e1
        cases e
        rw [List.length_append]
        show a + (c1.length + 1) ≤ _ ∧ _
        omega
    · exact xCp_b hb h
theorem xEi_b {b : Bool} (hb : ∀ j, j < Z.1 → Z.2.1 j < 256) : ∀ a, a ≤ Z.1 → xB Z a (xEi Z b a) := xCn_b hb opO_0 (xCn_b hb opA_0 (xAsk_b hb 8))
/-! what is read is well formed -/
def xN (b : Bool) (m : Nat) (x : xR) : Prop := ∀ c r, x = .ok (c, r) → ∀ rest n t, n + t + m ≤ 50 → tyc b rest (n + 1) t → tyc b (c ++ rest) n t
theorem xCh_n {b : Bool} {o : Nat → xR} {op : yK → Nat} {m : Nat} (hop : ∀ t, ¬ op t = 0 → 3 ≤ op t ∧ op t ≤ 7) (hm : 1 ≤ m) (ho : ∀ a, xN b m (o a)) : ∀ k r c r2, xCh Z o op k r = .ok (c, r2) → ∀ rest n t, n + t + (m + 2) ≤ 50 → tyc b rest (n + 1) t → tyc b (c ++ rest) (n + 1) t
  | 0, r, c, r2, e, rest, n, t, _, h => by
    unfold xCh at e
    cases e
    exact h
  | k + 1, r, c, r2, e, rest, n, t, hn, h => by
    unfold xCh at e
    by_cases q : op (yT Z r) = 0
    · rw [if_pos q] at e
      cases e
      exact h
    · rw [if_neg q] at e
      cases e1 : o (yN Z r) with
      | error x => rw [e1] at e; cases e
      | ok x =>
        obtain ⟨c1, r1⟩ := x
        rw [e1] at e
        dsimp only at e
        cases e2 : xCh Z o op k r1 with
        | error x => rw [e2] at e; cases e
        | ok x =>
          obtain ⟨c2, r2'⟩ := x
          rw [e2] at e
          dsimp only at e
          have k2 := xCh_n hop hm ho k r1 _ _ e2 rest n t hn h
          cases e
          rw [List.append_assoc, List.cons_append]
          refine ho _ _ _ e1 _ (n + 1) t (by omega) ?_
          have hq := hop _ q
          unfold tyc
          exact ⟨by omega, Or.inr (Or.inr (Or.inr (Or.inl ⟨hq.1, hq.2, by omega, k2⟩)))⟩
theorem xCn_n {b : Bool} {o : Nat → xR} {op : yK → Nat} {m : Nat} (hop : ∀ t, ¬ op t = 0 → 3 ≤ op t ∧ op t ≤ 7) (hm : 1 ≤ m) (ho : ∀ a, xN b m (o a)) : ∀ a, xN b (m + 2) (xCn Z o op a) := by
  intro a c r e rest n t hn h
  unfold xCn at e
  cases e1 : o a with
  | error x => rw [e1] at e; cases e
  | ok x =>
    obtain ⟨c1, r1⟩ := x
    rw [e1] at e
    dsimp only at e
    cases e2 : xCh Z o op 300 r1 with
    | error x => rw [e2] at e; cases e
    | ok x =>
      obtain ⟨c2, r2⟩ := x
      rw [e2] at e
      dsimp only at e
      have k2 := xCh_n hop hm ho 300 r1 _ _ e2 rest n t hn h
      cases e
      rw [List.append_assoc]
      exact ho _ _ _ e1 _ n t (by omega) k2
theorem opP_r (t : yK) (h : ¬ opP t = 0) : 3 ≤ opP t ∧ opP t ≤ 7 := by
  unfold opP at h ⊢
  split
  · decide
  · split
    · decide
    · split
      · decide
      · rename_i a b c; rw [if_neg a, if_neg b, if_neg c] at h; exact absurd rfl h
theorem opS_r (t : yK) (h : ¬ opS t = 0) : 3 ≤ opS t ∧ opS t ≤ 7 := by
  unfold opS at h ⊢
  split
  · decide
  · split
    · decide
    · rename_i a b; rw [if_neg a, if_neg b] at h; exact absurd rfl h
theorem opC_r (t : yK) (h : ¬ opC t = 0) : 10 ≤ opC t ∧ opC t ≤ 15 := by
  unfold opC at h ⊢
  split
  · decide
  · split
    · decide
    · split
      · decide
      · split
        · decide
        · split
          · decide
          · split
            · decide
            · rename_i a b c d e f; rw [if_neg a, if_neg b, if_neg c, if_neg d, if_neg e, if_neg f] at h; exact absurd rfl h
theorem xSm_n {b : Bool} {o : Nat → xR} {m : Nat} (hm : 1 ≤ m) (ho : ∀ a, xN b m (o a)) : ∀ a, xN b (m + 2 + 2) (xSm Z o a) := xCn_n opS_r (by omega) (xCn_n opP_r hm ho)
theorem xLf_n {b : Bool} {o : xR} {m : Nat} (hm : 1 ≤ m) (hw : (yT Z a).1 = 2 → (yT Z a).2.1 ≤ 15) (ho : xN b m o) : xN b m (xLf Z b a o) := by
  intro c r e rest n t hn h
  unfold xLf xF at e
  by_cases c1 : (yT Z a).1 = 1
  · rw [if_pos c1] at e
    by_cases c2 : (yT Z a).2.1 ≤ 9999
    · rw [if_pos c2] at e
      cases e
      show tyc b (_ :: rest) n t
      unfold tyc
      exact ⟨by omega, Or.inl ⟨rfl, c2, h⟩⟩
    · rw [if_neg c2] at e; cases e
  · rw [if_neg c1] at e
    by_cases c2 : (yT Z a).1 = 2
    · rw [if_pos c2] at e
      by_cases c3 : 6 ≤ (yT Z a).2.1 ∧ (yT Z a).2.1 ≤ 12
      · rw [if_pos c3] at e
        by_cases c4 : b = decide ((yT Z a).2.1 - 6 < 4)
        · rw [if_pos c4] at e
          cases e
          show tyc b (_ :: rest) n t
          unfold tyc
          exact ⟨by omega, Or.inr (Or.inl ⟨rfl, by show (yT Z a).2.1 - 6 < 7; omega, c4, h⟩)⟩
        · rw [if_neg c4] at e; cases e
      · rw [if_neg c3] at e; cases e
    · rw [if_neg c2] at e
      exact ho c r e rest n t hn h
theorem xOne_n {b : Bool} (hw : ∀ a, (yT Z a).1 = 2 → (yT Z a).2.1 ≤ 15) : ∀ f a, xN b (4 * f + 2) (xOne Z b f a)
  | 0, a => by
    unfold xOne
    refine xLf_n (by omega) (hw a) (fun c r e => ?_)
    unfold xF at e
    split at e <;> cases e
  | f + 1, a => by
    unfold xOne
    refine xLf_n (by omega) (hw a) (fun c r e rest n t hn h => ?_)
    by_cases c1 : (yT Z a).1 = 45
    · rw [if_pos c1] at e
      cases e1 : xOne Z b f (yN Z a) with
      | error x => rw [e1] at e; cases e
      | ok x =>
        obtain ⟨c1, r1⟩ := x
        rw [e1] at e
        dsimp only at e
        cases e
        rw [List.append_assoc]
        refine xOne_n hw f _ _ _ e1 _ n t (by omega) ?_
        show tyc b ((2, 0) :: rest) (n + 1) t
        unfold tyc
        exact ⟨by omega, Or.inr (Or.inr (Or.inl ⟨rfl, by omega, h⟩))⟩
    · rw [if_neg c1] at e
      by_cases c2 : (yT Z a).1 = 40
      · rw [if_pos c2] at e
        cases e1 : xSm Z (xOne Z b f) (yN Z a) with
        | error x => rw [e1] at e; cases e
        | ok x =>
          obtain ⟨c1, r1⟩ := x
          rw [e1] at e
          dsimp only at e
          have e : (if (yT Z r1).1 = 41 then (.ok (c1, yN Z r1) : xR) else xF Z 1 r1) = .ok (c, r) := e
          by_cases c3 : (yT Z r1).1 = 41
          · rw [if_pos c3] at e
            cases e
            exact xSm_n (by omega) (xOne_n hw f) _ _ _ e1 rest n t (by omega) h
          · rw [if_neg c3] at e; unfold xF at e; cases e
      · rw [if_neg c2] at e; unfold xF at e; cases e
def xQ (m : Nat) (x : xR) : Prop := ∀ c r, x = .ok (c, r) → ∀ rest t, t + m ≤ 50 → tyc true rest 0 (t + 1) → tyc true (c ++ rest) 0 t
theorem xCp_q {f : Nat} (hw : ∀ a, (yT Z a).1 = 2 → (yT Z a).2.1 ≤ 15) (a : Nat) : xQ (4 * f + 8) (xCp Z true f a) := by
  intro c r e rest t hn h
  unfold xCp at e
  cases e1 : xSm Z (xOne Z true f) a with
  | error x => rw [e1] at e; cases e
  | ok x =>
    obtain ⟨c1, r1⟩ := x
    rw [e1] at e
    dsimp only at e
    have e : (if opC (yT Z r1) = 0 then xF Z 1 r1 else match xSm Z (xOne Z true f) (yN Z r1) with
      | .error e => .error e
      | .ok (c2, r2) => .ok (c1 ++ (c2 ++ [(opC (yT Z r1), 0)]), r2)) = (.ok (c, r) : xR) := e
    by_cases q : opC (yT Z r1) = 0
    · rw [if_pos q] at e; unfold xF at e; cases e
    · rw [if_neg q] at e
      cases e2 : xSm Z (xOne Z true f) (yN Z r1) with
      | error x => rw [e2] at e; cases e
      | ok x =>
        obtain ⟨c2, r2⟩ := x
        rw [e2] at e
        dsimp only at e
        cases e
        rw [List.append_assoc, List.append_assoc]
        have hq := opC_r _ q
        refine xSm_n (by omega) (xOne_n hw f) _ _ _ e1 _ 0 t (by omega) (xSm_n (by omega) (xOne_n hw f) _ _ _ e2 _ 1 t (by omega) ?_)
        show tyc true ((opC (yT Z r1), 0) :: rest) 2 t
        unfold tyc
        exact ⟨by omega, Or.inr (Or.inr (Or.inr (Or.inr (Or.inl ⟨hq.1, hq.2, rfl, h⟩))))⟩
theorem xAsk_q (hw : ∀ a, (yT Z a).1 = 2 → (yT Z a).2.1 ≤ 15) : ∀ f a, f ≤ 8 → xQ 42 (xAsk Z true f a)
  | 0, a, _ => by
    unfold xAsk
    split
    · intro c r e; unfold xF at e; cases e
    · intro c r e rest t hn h
      exact xCp_q hw a c r e rest t (by omega) h
  | f + 1, a, hf => by
    unfold xAsk
    split
    · intro c r e rest t hn h
      cases e1 : xAsk Z true f (yN Z a) with
      | error x => rw [e1] at e; cases e
      | ok x =>
        obtain ⟨c1, r1⟩ := x
        rw [e1] at e
        dsimp only at e
        cases e
        rw [List.append_assoc]
        refine xAsk_q hw f _ (by omega) _ _ e1 _ t hn ?_
        show tyc true ((20, 0) :: rest) 0 (t + 1)
        unfold tyc
        exact ⟨by omega, Or.inr (Or.inr (Or.inr (Or.inr (Or.inr (Or.inl ⟨rfl, rfl, by omega, h⟩)))))⟩
    · intro c r e rest t hn h
      exact xCp_q hw a c r e rest t (by omega) h
theorem xCh_q {o : Nat → xR} {op : yK → Nat} {m : Nat} (hop : ∀ t, ¬ op t = 0 → op t = 21 ∨ op t = 22) (hm : 1 ≤ m) (ho : ∀ a, xQ m (o a)) : ∀ k r c r2, xCh Z o op k r = .ok (c, r2) → ∀ rest t, t + (m + 2) ≤ 50 → tyc true rest 0 (t + 1) → tyc true (c ++ rest) 0 (t + 1)
  | 0, r, c, r2, e, rest, t, _, h => by
    unfold xCh at e
    cases e
    exact h
  | k + 1, r, c, r2, e, rest, t, hn, h => by
    unfold xCh at e
    by_cases q : op (yT Z r) = 0
    · rw [if_pos q] at e
      cases e
      exact h
    · rw [if_neg q] at e
      cases e1 : o (yN Z r) with
      | error x => rw [e1] at e; cases e
      | ok x =>
        obtain ⟨c1, r1⟩ := x
        rw [e1] at e
        dsimp only at e
        cases e2 : xCh Z o op k r1 with
        | error x => rw [e2] at e; cases e
        | ok x =>
          obtain ⟨c2, r2'⟩ := x
          rw [e2] at e
          dsimp only at e
          have k2 := xCh_q hop hm ho k r1 _ _ e2 rest t hn h
          cases e
          rw [List.append_assoc, List.cons_append]
          refine ho _ _ _ e1 _ (t + 1) (by omega) ?_
          unfold tyc
          exact ⟨by omega, Or.inr (Or.inr (Or.inr (Or.inr (Or.inr (Or.inr ⟨hop _ q, rfl, by omega, k2⟩)))))⟩
theorem xCn_q {o : Nat → xR} {op : yK → Nat} {m : Nat} (hop : ∀ t, ¬ op t = 0 → op t = 21 ∨ op t = 22) (hm : 1 ≤ m) (ho : ∀ a, xQ m (o a)) : ∀ a, xQ (m + 2) (xCn Z o op a) := by
  intro a c r e rest t hn h
  unfold xCn at e
  cases e1 : o a with
  | error x => rw [e1] at e; cases e
  | ok x =>
    obtain ⟨c1, r1⟩ := x
    rw [e1] at e
    dsimp only at e
    cases e2 : xCh Z o op 300 r1 with
    | error x => rw [e2] at e; cases e
    | ok x =>
      obtain ⟨c2, r2⟩ := x
      rw [e2] at e
      dsimp only at e
      have k2 := xCh_q hop hm ho 300 r1 _ _ e2 rest t hn h
      cases e
      rw [List.append_assoc]
      exact ho _ _ _ e1 _ t (by omega) k2
theorem opA_r (t : yK) (h : ¬ opA t = 0) : opA t = 21 ∨ opA t = 22 := by
  unfold opA at h ⊢
  split
  · exact Or.inl rfl
  · rename_i q; rw [if_neg q] at h; exact absurd rfl h
theorem opO_r (t : yK) (h : ¬ opO t = 0) : opO t = 21 ∨ opO t = 22 := by
  unfold opO at h ⊢
  split
  · exact Or.inr rfl
  · rename_i q; rw [if_neg q] at h; exact absurd rfl h
theorem xEi_t (hw : ∀ a, (yT Z a).1 = 2 → (yT Z a).2.1 ≤ 15) {c : List (Nat × Nat)} {r : Nat} (e : xEi Z true a = .ok (c, r)) : tyc true c 0 0 := by
  have h := xCn_q opO_r (by omega) (xCn_q opA_r (by omega) (fun a => xAsk_q hw 8 a (Nat.le_refl _))) a c r e [] 0 (by omega) ?_
  · rw [List.append_nil] at h; exact h
  · unfold tyc
    exact ⟨rfl, rfl⟩
theorem xSm_t (hw : ∀ a, (yT Z a).1 = 2 → (yT Z a).2.1 ≤ 15) {c : List (Nat × Nat)} {r : Nat} (e : xSm Z (xOne Z false 8) a = .ok (c, r)) : tyc false c 0 0 := by
  have h := xSm_n (by omega) (xOne_n hw 8) a c r e [] 0 0 (by omega) ?_
  · rw [List.append_nil] at h; exact h
  · unfold tyc
    exact ⟨rfl, rfl⟩
end Lex
