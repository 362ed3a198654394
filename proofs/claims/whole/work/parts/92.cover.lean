/-! cover: both sides. -/
section Cover
variable {s : Nat × (Nat → Int32)} {d : Nat} {w : qW} {Q : Int32 → qW → Prop} {QL : Int64 → qW → Prop} {R : qW → Prop} {N S K : vS} {T : Nat → vT} {Z : vZ}
theorem lcm_e (a b : Nat) : a / Nat.gcd a b * b = Nat.lcm a b := by
  unfold Nat.lcm
  rw [Nat.mul_comm a b, Nat.mul_div_assoc b (Nat.gcd_dvd_left a b), Nat.mul_comm]
theorem lcm_le {a b : Nat} : Nat.lcm a b ≤ a * b := by
  unfold Nat.lcm
  exact Nat.div_le_self _ _
def cvR (N : vS) : Nat → Nat
  | 0 => N 2 0
  | k + 1 => if 5040 < cvR N k then cvR N k else Nat.lcm (cvR N k) (N 10 k)
def cvH (N : vS) : Nat := if N 1 0 = 0 then cvR N (N 0 0) else Nat.lcm (N 1 0) (N 2 0)
theorem cvR_b (o : okS N) : ∀ {k : Nat}, k ≤ N 0 0 → 1 ≤ cvR N k ∧ cvR N k ≤ 50394960
  | 0, _ => ⟨o.clk.1, Nat.le_trans o.clk.2 (by decide)⟩
  | k + 1, h => by
    have ih := cvR_b o (k := k) (by omega)
    have on := o.num k (by omega)
    unfold cvR
    split
    · exact ih
    · refine ⟨Nat.lcm_pos ih.1 on.1, Nat.le_trans lcm_le ?_⟩
      exact Nat.le_trans (Nat.mul_le_mul (show cvR N k ≤ 5040 by omega) on.2) (by decide)
theorem cvR_far {k : Nat} (h : 5040 < cvR N k) : ∀ {j : Nat}, cvR N (k + j) = cvR N k
  | 0 => rfl
  | j + 1 => by
    show (if 5040 < cvR N (k + j) then cvR N (k + j) else _) = _
    rw [cvR_far h (j := j), if_pos h]
/-- the fewest, and of them the first -/
def cvB (G : Nat → Prop) (B : Nat) (r : Int32) : Prop := (r = -1 ∧ ∀ j, j < B → 1 ≤ j → ¬ G j) ∨ (∃ f, 1 ≤ f ∧ f < B ∧ G f ∧ r = nI f ∧ ∀ j, j < B → 1 ≤ j → G j → cntB f < cntB j ∨ (cntB f = cntB j ∧ f ≤ j))
theorem cvB_u {G : Nat → Prop} {B : Nat} {r r' : Int32} (h : cvB G B r) (h' : cvB G B r') : r = r' := by
  rcases h with ⟨h1, h2⟩ | ⟨f, h1, h2, h3, h4, h5⟩
  · rcases h' with ⟨k1, k2⟩ | ⟨f', k1, k2, k3, k4, k5⟩
    · rw [h1, k1]
    · exact absurd k3 (h2 f' k2 k1)
  · rcases h' with ⟨k1, k2⟩ | ⟨f', k1, k2, k3, k4, k5⟩
    · exact absurd h3 (k2 f h2 h1)
    · have a := h5 f' k2 k1 k3
      have b := k5 f h2 h1 h3
      have e : f = f' := by omega
      rw [h4, k4, e]
def cvG (T : Nat → vT) (N : vS) (n i : Nat) : Prop := ∀ h, h < n → ¬ spkM T N (10000 + h) &&& i = 0
def fCv (T : Nat → vT) (N : vS) (r : Int32) : Prop := (cvH N ≤ 5040 ∧ cvB (cvG T N (cvH N)) (2 ^ N 0 0) r) ∨ (¬ cvH N ≤ 5040 ∧ r = -2)
theorem fCv_u {r r' : Int32} (h : fCv T N r) (h' : fCv T N r') : r = r' := by
  rcases h with ⟨h1, h2⟩ | ⟨h1, h2⟩
  · rcases h' with ⟨k1, k2⟩ | ⟨k1, k2⟩
    · exact cvB_u h2 k2
    · exact absurd h1 k1
  · rcases h' with ⟨k1, k2⟩ | ⟨k1, k2⟩
    · exact absurd k1 h1
    · rw [h2, k2]
/-! the class's row of bits -/
def enR (w : qW) (B : Nat) (E : Nat → Prop) : Prop := ∀ a, a < 64 → ∃ n, w.2.1 71 a = lN n ∧ n < 2 ^ 64 ∧ ∀ b, b < 64 → 64 * a + b < B → (n.testBit b = true ↔ E (64 * a + b))
theorem enR.cg {B : Nat} {E E' : Nat → Prop} (h : enR w B E) (e : ∀ x, x < B → (E x ↔ E' x)) : enR w B E' := by
  intro a ha
  obtain ⟨n, h1, h2, h3⟩ := h a ha
  exact ⟨n, h1, h2, fun b hb hB => (h3 b hb hB).trans (e _ hB)⟩
theorem enR.fr {w' : qW} {B : Nat} {E : Nat → Prop} (h : enR w B E) (f : w'.2.1 71 = w.2.1 71) : enR w' B E := by
  intro a ha
  rw [f]; exact h a ha
theorem c_cvHas {B m : Nat} {E : Nat → Prop} (hd : 1 ≤ d) (hE : enR w B E) (hm : m < B) (hB : B ≤ 4096) (hy : E m → Q 1 w) (hn : ¬ E m → Q 0 w) : qCall (some s) d 169 [.ref 70, .int (nI m)] w (qQi Q) := by
  obtain ⟨d, rfl, -⟩ := dS hd
  obtain ⟨n, h1, h2, h3⟩ := hE (m / 64) (by omega)
  have e : 64 * (m / 64) + m % 64 = m := Nat.div_add_mod m 64
  have h3 := h3 (m % 64) (Nat.mod_lt _ (by decide)) (by omega)
  rw [e] at h3
  refine A_Cover_has ?_
  rw [show (64 : Int32) = nI 64 from rfl, nI_div' (by omega) (by omega) (by omega), qRem_nI (by omega) (by omega) (by omega), qIx_nI (by omega), h1, qLbit h2 (Nat.mod_lt _ (by decide))]
  refine ⟨by decide, qIn_nI (by omega) (by decide), by decide, fun g => hn (fun q => ?_), fun g => hy (h3.mp ?_)⟩
  · rw [h3.mpr q] at g; exact Bool.noConfusion g
  · cases e2 : n.testBit (m % 64) with
    | true => rfl
    | false => exact absurd e2 g
theorem c_cvAdd {B m : Nat} {E : Nat → Prop} (hd : 1 ≤ d) (hE : enR w B E) (hm : m < 4096) (hQ : ∀ w', fr (fun c => c = 71) w w' → enR w' B (fun x => E x ∨ x = m) → R w') : qCall (some s) d 167 [.ref 70, .int (nI m)] w (qQv R) := by
  obtain ⟨d, rfl, -⟩ := dS hd
  obtain ⟨n, h1, h2, h3⟩ := hE (m / 64) (by omega)
  have e : 64 * (m / 64) + m % 64 = m := Nat.div_add_mod m 64
  have hm64 : m % 64 < 64 := Nat.mod_lt _ (by decide)
  refine A_Cover_add ?_
  rw [show (64 : Int32) = nI 64 from rfl, nI_div' (by omega) (by omega) (by omega), qRem_nI (by omega) (by omega) (by omega), qIx_nI (by omega), h1, show (1 : Int64) = lN 1 from rfl, qLshl_lN hm64, lN_or, Nat.one_mul]
  refine ⟨by decide, qIn_nI (by omega) (by decide), by decide, qIn_nI (by omega) (by decide), hQ _ (fr_pL rfl) ?_⟩
  intro a ha
  by_cases ea : a = m / 64
  · subst ea
    refine ⟨n ||| 2 ^ (m % 64), by rw [pL_e], Nat.or_lt_two_pow h2 (Nat.pow_lt_pow_right (by decide) hm64), fun b hb hB => ?_⟩
    rw [Nat.testBit_or, Nat.testBit_two_pow, Bool.or_eq_true, h3 b hb hB, decide_eq_true_eq]
    constructor
    · rintro (q | q)
      · exact Or.inl q
      · right; omega
    · rintro (q | q)
      · exact Or.inl q
      · right; omega
  · obtain ⟨n', k1, k2, k3⟩ := hE a ha
    refine ⟨n', by rw [pL_f ea]; exact k1, k2, fun b hb hB => ?_⟩
    rw [k3 b hb hB]
    constructor
    · exact Or.inl
    · rintro (q | q)
      · exact q
      · omega
theorem c_cvFill {B : Nat} (hd : 1 ≤ d) (hQ : ∀ w', fr (fun c => c = 71) w w' → enR w' B (fun _ => False) → R w') : qCall (some s) d 145 [.ref 71, .long (0 : Int64)] w (qQv R) := by
  obtain ⟨d, rfl, -⟩ := dS hd
  refine A_Arrays_fill2_71 ?_
  refine lpU (i := 0) (n := 64) (I := fun k w' => fr (fun c => c = 71) w w' ∧ ∀ a, a < k → w'.2.1 71 a = lN 0) (P := fun k w' => qAt s d c_Arrays_fill2 (qQv R) 6 [some (.ref 71), some (.long (0 : Int64)), none, some (.int (nI k)), some (.int (64 : Int32))] [] w') ?_ ?_ (Nat.zero_le _) ⟨fr_rf _ _, fun p hp => absurd hp (Nat.not_lt_zero _)⟩
  · intro w' ⟨f, h⟩
    refine A_Arrays_fill2_71_6 ⟨fun _ => hQ w' f (fun a ha => ⟨0, h a ha, by decide, fun b _ _ => ?_⟩), fun g => absurd (by decide) g⟩
    rw [Nat.zero_testBit]
    exact ⟨fun x => Bool.noConfusion x, fun x => x.elim⟩
  · intro k w' hk ⟨f, h⟩ ih
    refine A_Arrays_fill2_71_6 ?_
    rw [show (64 : Int32) = nI 64 from rfl, nI_leI (by omega) (by omega), nI_1, qIx_nI (by omega)]
    refine ⟨fun g => by omega, fun _ => ⟨qIn_nI (by omega) (by decide), ih _ ⟨fr_L f rfl, fun a ha => ?_⟩⟩⟩
    by_cases ea : a = k
    · subst ea; rw [pL_e]; rfl
    · rw [pL_f ea]; exact h a (by omega)
/-! what is true of a set is true of those around it -/
def up (E : Nat → Prop) (i j : Nat) : Prop := ∃ m, E m ∧ (∀ b, m.testBit b = true → j.testBit b = true) ∧ ∀ b, i ≤ b → m.testBit b = j.testBit b
theorem up_0 {E : Nat → Prop} {j : Nat} : up E 0 j ↔ E j := by
  refine ⟨fun ⟨m, h1, _, h3⟩ => ?_, fun h => ⟨j, h, fun _ hb => hb, fun _ _ => rfl⟩⟩
  have : m = j := Nat.eq_of_testBit_eq (fun b => h3 b (Nat.zero_le _))
  rw [← this]; exact h1
theorem one_bit (i b : Nat) : (2 ^ i).testBit b = decide (i = b) := Nat.testBit_two_pow
theorem up_s {E : Nat → Prop} {i j : Nat} : up E (i + 1) j ↔ up E i j ∨ (j.testBit i = true ∧ up E i (andn j (2 ^ i))) := by
  constructor
  · rintro ⟨m, h1, h2, h3⟩
    by_cases e : m.testBit i = j.testBit i
    · refine Or.inl ⟨m, h1, h2, fun b hb => ?_⟩
      by_cases eb : b = i
      · subst eb; exact e
      · exact h3 b (by omega)
    · have mf : m.testBit i = false := by
        cases q : m.testBit i with
        | false => rfl
        | true => rw [q, h2 i q] at e; exact absurd rfl e
      have jt : j.testBit i = true := by
        cases q : j.testBit i with
        | true => rfl
        | false => rw [q, mf] at e; exact absurd rfl e
      refine Or.inr ⟨jt, m, h1, fun b hb => ?_, fun b hb => ?_⟩
      · rw [andn_bit, one_bit, h2 b hb, decide_eq_false (fun q => by subst q; rw [mf] at hb; exact Bool.noConfusion hb)]; rfl
      · rw [andn_bit, one_bit]
        by_cases eb : i = b
        · subst eb; rw [mf, decide_eq_true rfl, jt]; rfl
        · rw [decide_eq_false eb, h3 b (by omega), Bool.not_false, Bool.and_true]
  · rintro (⟨m, h1, h2, h3⟩ | ⟨jt, m, h1, h2, h3⟩)
    · exact ⟨m, h1, h2, fun b hb => h3 b (by omega)⟩
    · refine ⟨m, h1, fun b hb => ?_, fun b hb => ?_⟩
      · have := h2 b hb
        rw [andn_bit, Bool.and_eq_true] at this
        exact this.1
      · rw [h3 b (by omega), andn_bit, one_bit, decide_eq_false (by omega), Bool.not_false, Bool.and_true]
theorem up_n {E : Nat → Prop} {i j : Nat} (h : j.testBit i = false) : up E (i + 1) j ↔ up E i j := by
  rw [up_s]
  exact ⟨fun q => q.elim id (fun q => by rw [h] at q; exact Bool.noConfusion q.1), Or.inl⟩
theorem andn_i (j i : Nat) : (andn j (2 ^ i)).testBit i = false := by rw [andn_bit, one_bit, decide_eq_true rfl, Bool.not_true, Bool.and_false]
theorem andn_lt' {j i : Nat} (h : j.testBit i = true) : andn j (2 ^ i) < j := by
  have e : j &&& andn j (2 ^ i) = andn j (2 ^ i) := by
    apply Nat.eq_of_testBit_eq
    intro b
    rw [Nat.testBit_and, andn_bit]
    cases j.testBit b <;> rfl
  have le : andn j (2 ^ i) ≤ j := by
    have := Nat.and_le_left (n := j) (m := andn j (2 ^ i))
    rw [e] at this; exact this
  refine Nat.lt_of_le_of_ne le (fun q => ?_)
  have := andn_i j i
  rw [q, h] at this
  exact Bool.noConfusion this
theorem uB {n i : Nat} (hn : n < 2 ^ 31) (hi : i < 32) : ((qUshr (nI n) (nI i) &&& (1 : Int32)) = 0) ↔ n.testBit i = false := by
  have h2 : n / 2 ^ i % 2 < 2 := Nat.mod_lt _ (by decide)
  rw [qUshr_nI (by omega) hi, nI_and1 (Nat.lt_of_le_of_lt (Nat.div_le_self _ _) (by omega)), eq0 (by omega), Nat.testBit_eq_decide_div_mod_eq, decide_eq_false_iff_not]
  omega
theorem c_widen {E : Nat → Prop} (hd : 2 ≤ d) (hX : rX w N K T Z) (hE : enR w (2 ^ N 0 0) E) (hQ : ∀ w', fr (fun c => c = 71) w w' → enR w' (2 ^ N 0 0) (up E (N 0 0)) → R w') : qCall (some s) d 168 [.ref 70] w (qQv R) := by
  obtain ⟨d, rfl, hd1⟩ := dS hd
  have o0 := hX.okn.p12
  have hp := p12 o0
  refine A_Cover_widen ?_
  refine lpU (i := 0) (n := N 0 0) (I := fun i w' => fr (fun c => c = 71) w w' ∧ enR w' (2 ^ N 0 0) (up E i)) (P := fun i w' => qAt s d c_Cover_widen (qQv R) 2 [some (.ref 70), some (.int (nI i)), none] [] w') ?_ ?_ (Nat.zero_le _) ⟨fr_rf _ _, hE.cg (fun x _ => up_0.symm)⟩
  · intro w' ⟨f, h⟩
    have hX' : rX w' N K T Z := hX.keep f (fun c => ⟨fun _ _ => by omega, by omega⟩)
    refine A_Cover_widen_2 ?_
    rw [hX'.n.ppl, nI_leI (by omega) (by omega)]
    exact ⟨fun _ => hQ w' f h, fun g => absurd (Nat.le_refl _) g⟩
  · intro i w1 hi ⟨f1, h1⟩ ih
    have hX1 : rX w1 N K T Z := hX.keep f1 (fun c => ⟨fun _ _ => by omega, by omega⟩)
    refine A_Cover_widen_2 ?_
    rw [hX1.n.ppl, nI_leI (by omega) (by omega)]
    refine ⟨fun g => by omega, fun _ => ?_⟩
    refine lpU (i := 0) (n := 2 ^ N 0 0) (I := fun j w' => fr (fun c => c = 71) w w' ∧ enR w' (2 ^ N 0 0) (fun x => if x < j then up E (i + 1) x else up E i x)) (P := fun j w' => qAt s d c_Cover_widen (qQv R) 15 [some (.ref 70), some (.int (nI i)), some (.int (nI j))] [] w') ?_ ?_ (Nat.zero_le _) ⟨f1, h1.cg (fun x _ => by rw [if_neg (Nat.not_lt_zero _)])⟩
    · intro w' ⟨f, h⟩
      have hX' : rX w' N K T Z := hX.keep f (fun c => ⟨fun _ _ => by omega, by omega⟩)
      refine A_Cover_widen_15 ?_
      rw [hX'.n.ppl, qShl_P o0, nI_leI (by omega) (by omega), nI_1 i]
      exact ⟨fun _ => ih w' ⟨f, h.cg (fun x hx => by rw [if_pos hx])⟩, fun g => absurd (Nat.le_refl _) g⟩
    · intro j w2 hj ⟨f2, h2⟩ ih2
      have hX2 : rX w2 N K T Z := hX.keep f2 (fun c => ⟨fun _ _ => by omega, by omega⟩)
      refine A_Cover_widen_15 ?_
      rw [hX2.n.ppl, qShl_P o0, nI_leI (by omega) (by omega), nI_1 j, uB (by omega) (by omega)]
      have stay : (up E (i + 1) j ↔ up E i j) → qAt s d c_Cover_widen (qQv R) 15 [some (.ref 70), some (.int (nI i)), some (.int (nI (j + 1)))] [] w2 := by
        intro e
        refine ih2 w2 ⟨f2, h2.cg (fun x _ => ?_)⟩
        by_cases ex : x = j
        · subst ex; rw [if_neg (Nat.lt_irrefl _), if_pos (Nat.lt_succ_self _)]; exact e.symm
        · by_cases lx : x < j
          · rw [if_pos lx, if_pos (by omega)]
          · rw [if_neg lx, if_neg (by omega)]
      refine ⟨fun g => by omega, fun _ => ⟨fun g => stay (up_n g), fun g => ?_⟩⟩
      have jt : j.testBit i = true := by
        cases q : j.testBit i with
        | true => rfl
        | false => exact absurd q g
      have lt := andn_lt' jt
      have e1 : qShl (1 : Int32) (nI i) = nI (2 ^ i) := qShl_n (i := i) (by omega)
      rw [e1, show (-1 : Int32) = -(nI 1) from rfl, nI_andn]
      refine c_cvHas (by omega) h2 (by omega) hp.2 (fun g2 => b1 ?_) (fun g2 => b0 (stay ?_))
      · rw [if_pos lt, up_n (andn_i j i)] at g2
        refine c_cvAdd (by omega) h2 (by omega) (fun w3 f3 h3 => ih2 w3 ⟨fr_tr f2 f3, h3.cg (fun x _ => ?_)⟩)
        by_cases ex : x = j
        · subst ex; rw [if_pos (Nat.lt_succ_self _)]
          exact ⟨fun _ => up_s.mpr (Or.inr ⟨jt, g2⟩), fun _ => Or.inr rfl⟩
        · by_cases lx : x < j
          · rw [if_pos lx, if_pos (by omega)]
            exact ⟨fun q => q.elim id (fun q => absurd q ex), Or.inl⟩
          · rw [if_neg lx, if_neg (by omega)]
            exact ⟨fun q => q.elim id (fun q => absurd q ex), Or.inl⟩
      · rw [if_pos lt, up_n (andn_i j i)] at g2
        rw [up_s]
        exact ⟨fun q => q.elim id (fun q => absurd q.2 g2), Or.inl⟩
theorem c_leastCover {E G : Nat → Prop} (hd : 2 ≤ d) (hX : rX w N K T Z) (hE : enR w (2 ^ N 0 0) E) (hG : ∀ i, 1 ≤ i → i < 2 ^ N 0 0 → (E (andn (2 ^ N 0 0 - 1) i) ↔ ¬ G i)) (hQ : ∀ r, cvB G (2 ^ N 0 0) r → Q r w) : qCall (some s) d 170 [.ref 70] w (qQi Q) := by
  obtain ⟨d, rfl, hd1⟩ := dS hd
  have o0 := hX.okn.p12
  have hp := p12 o0
  refine A_Cover_leastCover ?_
  rw [hX.n.ppl, qShl_P o0, show (nI (2 ^ N 0 0) - (1 : Int32)) = nI (2 ^ N 0 0) - nI 1 from rfl, nI_sub' (by omega)]
  refine lpN (i := 1) (n := 2 ^ N 0 0) (P := fun i => 1 ≤ i → ∀ fo fe, ((fo = -1 ∧ fe = nI 13 ∧ ∀ j, j < i → 1 ≤ j → ¬ G j) ∨ (∃ f, 1 ≤ f ∧ f < i ∧ G f ∧ fo = nI f ∧ fe = nI (cntB f) ∧ ∀ j, j < i → 1 ≤ j → G j → cntB f < cntB j ∨ (cntB f = cntB j ∧ f ≤ j))) → qAt s d c_Cover_leastCover (qQi Q) 20 [some (.ref 70), some (.int (nI (2 ^ N 0 0 - 1))), some (.int fo), some (.int fe), some (.int (nI i))] [] w) ?_ ?_ hp.1 (Nat.le_refl _) (-1) (nI 13) (Or.inl ⟨rfl, rfl, fun j h1 h2 => by omega⟩)
  · intro _ fo fe h
    refine A_Cover_leastCover_20 ?_
    rw [nI_ltI (by omega) (by omega)]
    refine ⟨fun _ => hQ fo ?_, fun g => absurd (by omega) g⟩
    rcases h with ⟨h1, h2, h3⟩ | ⟨f, h1, h2, h3, h4, h5, h6⟩
    · exact Or.inl ⟨h1, h3⟩
    · exact Or.inr ⟨f, h1, h2, h3, h4, h6⟩
  · intro i hi ih0 i1 fo fe h
    have ih := ih0 (by omega)
    · refine A_Cover_leastCover_20 ?_
      rw [nI_ltI (by omega) (by omega), nI_1 i, show (-1 : Int32) = -(nI 1) from rfl, nI_andn]
      refine ⟨fun g => by omega, fun _ => c_bitCount (by omega) (by omega) ?_⟩
      have ci := cntB_le i
      have hE' := hG i i1 hi
      have lt : andn (2 ^ N 0 0 - 1) i < 2 ^ N 0 0 := andn_lt (by omega)
      have take : G i → (∀ j, j < i → 1 ≤ j → G j → cntB i < cntB j) → qAt s d c_Cover_leastCover (qQi Q) 20 [some (.ref 70), some (.int (nI (2 ^ N 0 0 - 1))), some (.int (nI i)), some (.int (nI (cntB i))), some (.int (nI (i + 1)))] [] w := by
        intro gi hj
        refine ih _ _ (Or.inr ⟨i, i1, by omega, gi, rfl, rfl, fun j h1 h2 h3 => ?_⟩)
        by_cases ej : j = i
        · subst ej; exact Or.inr ⟨rfl, Nat.le_refl _⟩
        · exact Or.inl (hj j (by omega) h2 h3)
      rcases h with ⟨h1, h2, h3⟩ | ⟨f, h1, h2, h3, h4, h5, h6⟩
      · rw [h2, nI_leI (by omega) (by omega)]
        refine ⟨fun g => by omega, fun _ => c_cvHas (by omega) hE lt hp.2 (fun g => n1 ?_) (fun g => n0 (c_bitCount (by omega) (by omega) (take ?_ ?_)))⟩
        · refine ih _ _ (Or.inl ⟨h1, rfl, fun j hj1 hj2 => ?_⟩)
          by_cases ej : j = i
          · subst ej; exact hE'.mp g
          · exact h3 j (by omega) hj2
        · exact Classical.byContradiction (fun q => g (hE'.mpr q))
        · intro j hj1 hj2 hj3; exact absurd hj3 (h3 j hj1 hj2)
      · have cf := cntB_le f
        rw [h5, nI_leI (by omega) (by omega)]
        refine ⟨fun g => ?_, fun g => c_cvHas (by omega) hE lt hp.2 (fun g2 => n1 ?_) (fun g2 => n0 (c_bitCount (by omega) (by omega) (take ?_ ?_)))⟩
        · refine ih _ _ (Or.inr ⟨f, h1, by omega, h3, h4, rfl, fun j hj1 hj2 hj3 => ?_⟩)
          by_cases ej : j = i
          · subst ej; omega
          · exact h6 j (by omega) hj2 hj3
        · refine ih _ _ (Or.inr ⟨f, h1, by omega, h3, h4, rfl, fun j hj1 hj2 hj3 => ?_⟩)
          by_cases ej : j = i
          · subst ej; exact absurd hj3 (hE'.mp g2)
          · exact h6 j (by omega) hj2 hj3
        · exact Classical.byContradiction (fun q => g2 (hE'.mpr q))
        · intro j hj1 hj2 hj3
          have := h6 j hj1 hj2 hj3
          omega
/-! the class -/
theorem cvG_e (o : okS N) {n i : Nat} (hi : i < 2 ^ N 0 0) : up (fun x => ∃ j, j < n ∧ spkM T N (10000 + j) = x) (N 0 0) (andn (2 ^ N 0 0 - 1) i) ↔ ¬ cvG T N n i := by
  have all : ∀ b, (2 ^ N 0 0 - 1).testBit b = decide (b < N 0 0) := fun b => Nat.testBit_two_pow_sub_one _ _
  constructor
  · rintro ⟨m, ⟨j, hj, e⟩, h2, h3⟩ g
    refine g j hj ?_
    rw [e]
    apply Nat.eq_of_testBit_eq
    intro b
    rw [Nat.testBit_and, Nat.zero_testBit]
    cases q : m.testBit b with
    | false => rfl
    | true =>
      have := h2 b q
      rw [andn_bit, Bool.and_eq_true] at this
      cases q2 : i.testBit b with
      | false => rfl
      | true => rw [q2] at this; exact Bool.noConfusion this.2
  · intro g
    unfold cvG at g
    have : ∃ h, h < n ∧ spkM T N (10000 + h) &&& i = 0 := Classical.byContradiction (fun q => g (fun h hh e => q ⟨h, hh, e⟩))
    obtain ⟨j, hj, e⟩ := this
    refine ⟨spkM T N (10000 + j), ⟨j, hj, rfl⟩, fun b hb => ?_, fun b hb => ?_⟩
    · have e2 := congrArg (fun x => x.testBit b) e
      simp only [Nat.testBit_and, hb, Bool.true_and, Nat.zero_testBit] at e2
      have hb2 := hb
      unfold spkM at hb2
      rw [bitsOf_bit, Bool.and_eq_true] at hb2
      rw [andn_bit, all, e2, hb2.1]; rfl
    · unfold spkM
      rw [bitsOf_bit, andn_bit, all, decide_eq_false (by omega)]; rfl
theorem c_hoursToCover (hd : 3 ≤ d) (hX : rX w N K T Z) (hQ : Q (nI (cvH N)) w) : qCall (some s) d 165 [.ref 70] w (qQi Q) := by
  obtain ⟨d, rfl, hd1⟩ := dS hd
  have r := hX.n
  have o := hX.okn
  have o0 := o.p12
  have o1 := o.day
  have o2 := o.clk
  refine A_Cover_hoursToCover ?_
  rw [r.day, r.clk, show (0 : Int32) = nI 0 from rfl, nI_leI (by omega) (by omega)]
  unfold cvH at hQ
  refine ⟨fun g => ?_, fun g => ?_⟩
  · rw [if_pos (by omega)] at hQ
    refine lpN (i := 0) (n := N 0 0) (P := fun k => qAt s d c_Cover_hoursToCover (qQi Q) 41 [some (.ref 70), some (.int (nI (cvR N k))), some (.int (nI k))] [] w) ?_ ?_ (Nat.zero_le _)
    · refine A_Cover_hoursToCover_41 ?_
      rw [r.ppl, nI_leI (by omega) (by omega)]
      exact ⟨fun _ => hQ, fun g => absurd (Nat.le_refl _) g⟩
    · intro k hk ih
      have b := cvR_b o (k := k) (by omega)
      have on := o.num k hk
      refine A_Cover_hoursToCover_41 ?_
      rw [r.ppl, nI_leI (by omega) (by omega), show (5040 : Int32) = nI 5040 from rfl, nI_ltI (by omega) (by omega), qIx_nI (by omega), r.num k hk, nI_l (by omega), nI_l (by omega), nI_1]
      refine ⟨fun g => by omega, fun _ => ⟨fun g => ?_, fun g => ⟨qIn_nI (by omega) (by decide), c_lcm (by omega) (by omega) (by omega) ?_⟩⟩⟩
      · have e := cvR_far g (j := N 0 0 - k)
        rw [show k + (N 0 0 - k) = N 0 0 by omega] at e
        rw [e] at hQ; exact hQ
      · have e : cvR N (k + 1) = Nat.lcm (cvR N k) (N 10 k) := by
          show (if 5040 < cvR N k then _ else _) = _
          rw [if_neg g]
        rw [lN_i, ← e]
        exact ih
  · rw [if_neg (by omega)] at hQ
    rw [nI_l (by omega), nI_l (by omega)]
    refine c_lcm (by omega) (by omega) (by omega) ?_
    rw [lN_i]; exact hQ
theorem c_cover (hd : 6 ≤ d) (hX : rX w N K T Z) (hy : ∀ w' r, ¬ N 0 0 = 0 → fCv T N r → rX w' N K T Z → fr (fun c => c < 72) w w' → Q r w') (hn : N 0 0 = 0 → Q (-1) w) : qCall (some s) d 163 [.ref 1] w (qQi Q) := by
  obtain ⟨d, rfl, hd1⟩ := dS hd
  have r := hX.n
  have o := hX.okn
  have o0 := o.p12
  have o1 := o.day
  have o2 := o.clk
  have hp := p12 o0
  refine A_X_cover ?_
  rw [r.ppl, eq0 (by omega)]
  refine ⟨fun gp => ?_, hn⟩
  obtain ⟨d, rfl, hd2⟩ := dS hd1
  have hb : 1 ≤ cvH N ∧ cvH N < 2 ^ 31 := by
    unfold cvH
    split
    · have := cvR_b o (k := N 0 0) (Nat.le_refl _); omega
    · have h1 := lcm_le (a := N 1 0) (b := N 2 0)
      have h2 : N 1 0 * N 2 0 ≤ 999 * 60 := Nat.mul_le_mul (by omega) (by omega)
      exact ⟨Nat.lcm_pos (by omega) (by omega), by omega⟩
  refine A_Cover_fewestOf (c_hoursToCover (by omega) hX ?_)
  rw [show (5040 : Int32) = nI 5040 from rfl, nI_leI (by omega) (by omega)]
  refine ⟨fun g => ?_, fun g => hy w _ gp (Or.inr ⟨g, rfl⟩) hX (fr_rf _ _)⟩
  refine c_cvFill (B := 2 ^ N 0 0) (by omega) (fun w1 f1 h1 => ?_)
  have hX1 : rX w1 N K T Z := hX.keep f1 (fun c => ⟨fun _ _ => by omega, by omega⟩)
  refine c_begin (h := 10000) (n := cvH N) (by omega) hX1 (by omega) hb.1 hb.2 (fun w2 f2 c2 => ?_)
  have f12 : fr (fun c => c = 50 ∨ c = 52 ∨ c = 71) w w2 := fr_tr (fr_wk f1 (fun c hc => by omega)) (fr_wk f2 (fun c hc => by omega))
  have h2 : enR w2 (2 ^ N 0 0) (fun _ => False) := h1.fr (f2 71 (by omega)).2
  refine lpU (i := 0) (n := cvH N) (I := fun k w' => fr (fun c => c = 50 ∨ c = 52 ∨ c = 71) w w' ∧ vC w' N (10000 + k) ∧ enR w' (2 ^ N 0 0) (fun x => ∃ j, j < k ∧ spkM T N (10000 + j) = x)) (P := fun k w' => qAt s d c_Cover_fewestOf (qQi fun x2 w1 => Q x2 w1) 36 [some (.ref 70), some (.int (nI (cvH N))), some (.int (nI k))] [] w') ?_ ?_ (Nat.zero_le _) ⟨f12, c2, h2.cg (fun x _ => ⟨fun q => q.elim, fun ⟨j, hj, _⟩ => absurd hj (Nat.not_lt_zero _)⟩)⟩
  · intro w3 ⟨f3, c3, h3⟩
    have hX3 : rX w3 N K T Z := hX.keep f3 (fun c => ⟨fun _ _ => by omega, by omega⟩)
    refine A_Cover_fewestOf_36 ⟨fun _ => c_widen (by omega) hX3 h3 (fun w4 f4 h4 => ?_), fun q => absurd (Int32.le_refl _) q⟩
    have hX4 : rX w4 N K T Z := hX3.keep f4 (fun c => ⟨fun _ _ => by omega, by omega⟩)
    refine c_leastCover (G := cvG T N (cvH N)) (by omega) hX4 h4 (fun i _ hi => cvG_e o hi) (fun r hr => ?_)
    exact hy w4 r gp (Or.inl ⟨g, hr⟩) hX4 (fr_tr (fr_wk f3 (fun c hc => by omega)) (fr_wk f4 (fun c hc => by omega)))
  · intro k w3 hk ⟨f3, c3, h3⟩ ih
    have hX3 : rX w3 N K T Z := hX.keep f3 (fun c => ⟨fun _ _ => by omega, by omega⟩)
    refine A_Cover_fewestOf_36 ?_
    rw [nI_leI (by omega) (by omega), nI_1]
    refine ⟨fun q => by omega, fun _ => c_nextMask (by omega) hX3 c3 (by omega) (fun w4 f4 c4 => ?_)⟩
    have h4 := h3.fr (f4 71 (by omega)).2
    refine c_cvAdd (by omega) h4 (spkM_lt T o _) (fun w5 f5 h5 => ih w5 ⟨fr_tr f3 (fr_tr (fr_wk f4 (fun c hc => by omega)) (fr_wk f5 (fun c hc => by omega))), vC_fr c4 f5 ⟨by omega, by omega⟩, h5.cg (fun x _ => ?_)⟩)
    constructor
    · rintro (⟨j, hj, e⟩ | e)
      · exact ⟨j, by omega, e⟩
      · exact ⟨k, by omega, e.symm⟩
    · rintro ⟨j, hj, e⟩
      by_cases ej : j = k
      · subst ej; exact Or.inr e.symm
      · exact Or.inl ⟨j, by omega, e⟩
end Cover
