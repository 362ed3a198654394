/-! Sets of people as bits, on both sides. -/
section Sets
variable {s : Nat × (Nat → Int32)} {d : Nat} {w : qW} {Q : Int32 → qW → Prop}
/-- a set of told ones, not empty -/
def vSet (P : Nat) (set : Int32) : Prop := 0 < set ∧ set < nI (2 ^ P)
theorem p12 {P : Nat} (hP : P ≤ 12) : 1 ≤ 2 ^ P ∧ 2 ^ P ≤ 4096 := ⟨Nat.one_le_two_pow, Nat.pow_le_pow_right (n := 2) (i := P) (j := 12) (by decide) hP⟩
theorem qShl_P {P : Nat} (hP : P ≤ 12) : qShl 1 (nI P) = nI (2 ^ P) := qShl_1 ⟨P, by omega⟩
theorem vSet_nI {P : Nat} {set : Int32} (hP : P ≤ 12) (h : vSet P set) : ∃ n, 0 < n ∧ n < 2 ^ P ∧ n < 4096 ∧ set = nI n := by
  have hp := p12 hP
  obtain ⟨j, hj, rfl⟩ := nI_of (fun g : set < 0 => absurd (Int32.lt_trans h.1 g) (by decide))
  have h1 : 0 < j := (nI_ltI (a := 0) (by decide) hj).mp h.1
  have h2 : j < 2 ^ P := (nI_ltI hj (by omega)).mp h.2
  exact ⟨j, h1, h2, by omega, rfl⟩
theorem c_isSet {set : Int32} {P : Nat} (hd : 1 ≤ d) (hw : w.1 2 0 = nI P) (hP : P ≤ 12) (hy : vSet P set → Q 1 w) (hn : ¬ vSet P set → Q 0 w) : qCall (some s) d 97 [.ref 2, .int set] w (qQi Q) := by
  obtain ⟨d, rfl, -⟩ := dS hd
  refine A_State_isSet ?_
  rw [hw, qShl_P hP]
  exact ⟨fun g => hn (fun q => absurd q.1 (Int32.not_lt.mpr g)), fun g => ⟨fun g2 => hn (fun q => absurd q.2 (Int32.not_lt.mpr g2)), fun g2 => hy ⟨Int32.not_le.mp g, Int32.not_le.mp g2⟩⟩⟩
theorem m_isSet {set : Int32} {P : Nat} (hd : 2 ≤ d) (hw : w.1 73 0 = nI P) (hP : P ≤ 12) (hy : vSet P set → Q 1 w) (hn : ¬ vSet P set → Q 0 w) : qCall (some s) d 265 [.ref 72, .int set] w (qQi Q) := by
  obtain ⟨d, rfl, hd1⟩ := dS hd
  refine A_Mo_isSet ⟨qIn_0 (by decide) (by decide), ?_⟩
  rw [qIx_0, hw, qShl_P hP]
  have hp := p12 hP
  obtain ⟨k, hk⟩ : ∃ k, 2 ^ P = k + 1 := ⟨2 ^ P - 1, by omega⟩
  have key : (1 ≤ set ∧ set ≤ nI (2 ^ P) - 1) ↔ vSet P set := by
    unfold vSet
    rw [hk, nI_pred]
    have e1 : (1 : Int32).toInt = 1 := by decide
    have e0 : (0 : Int32).toInt = 0 := by decide
    rw [Int32.le_iff_toInt_le, Int32.le_iff_toInt_le, Int32.lt_iff_toInt_lt, Int32.lt_iff_toInt_lt, nI_toInt (by omega), nI_toInt (by omega), e1, e0]
    omega
  exact m_isInB hd1 (fun g => hy (key.mp g)) (fun g => hn (fun q => g (key.mpr q)))
theorem c_isPair {a b : Int32} {P : Nat} (hd : 2 ≤ d) (hw : w.1 2 0 = nI P) (hP : P ≤ 12) (hy : ¬ a = b ∧ vTold P a ∧ vTold P b → Q 1 w) (hn : ¬ (¬ a = b ∧ vTold P a ∧ vTold P b) → Q 0 w) : qCall (some s) d 34 [.ref 2, .int a, .int b] w (qQi Q) := by
  obtain ⟨d, rfl, hd1⟩ := dS hd
  exact A_State_isPair ⟨fun g => hn (fun q => q.1 g), fun g => c_isTold hd1 hw hP (fun g1 => b1 (c_isTold hd1 hw hP (fun g2 => b1 (hy ⟨g, g1, g2⟩)) (fun g2 => b0 (hn (fun q => g2 q.2.2))))) (fun g1 => b0 (hn (fun q => g1 q.2.1)))⟩
theorem c_isOfB {who : Int32} {n : Nat} (hd : 1 ≤ d) (hn31 : n < 2 ^ 31) (hy : mem12 who n = true → Q 1 w) (hn : mem12 who n = false → Q 0 w) : qCall (some s) d 104 [.int who, .int (nI n)] w (qQi Q) := by
  refine c_isOf hd hn31 ?_
  cases h : mem12 who n with
  | true => exact hy h
  | false => exact hn h
theorem c_isOfOrNone {who : Int32} {n : Nat} (hd : 2 ≤ d) (hn31 : n < 2 ^ 31) (hy : who = -1 ∨ mem12 who n = true → Q 1 w) (hn : ¬ (who = -1 ∨ mem12 who n = true) → Q 0 w) : qCall (some s) d 142 [.int who, .int (nI n)] w (qQi Q) := by
  obtain ⟨d, rfl, hd1⟩ := dS hd
  exact A_X_isOfOrNone ⟨fun g => hy (Or.inl g), fun g => c_isOfB hd1 hn31 (fun g1 => b1 (hy (Or.inr g1))) (fun g1 => b0 (hn (fun q => q.elim g (fun q => by rw [g1] at q; cases q))))⟩
/-- a bit by an arithmetic shift, of a number that isn't below 0 -/
theorem qSh_amt : ∀ i : Fin 32, ((nI i.val &&& 31).toBitVec.smod 32).toNat = i.val := by decide +kernel
theorem qShr_nI {n i : Nat} (hn : n < 2 ^ 31) (hi : i < 32) : qShr (nI n) (nI i) = nI (n / 2 ^ i) := pk_shrN hn _ i (qSh_amt ⟨i, hi⟩)
theorem qBit_1 {n i : Nat} (hn : n < 2 ^ 31) (hi : i < 32) : (qShr (nI n) (nI i) &&& 1) = 1 ↔ n.testBit i = true := by
  rw [qShr_nI hn hi, nI_and1 (Nat.lt_of_le_of_lt (Nat.div_le_self _ _) (by omega))]
  have e : n.testBit i = decide (n / 2 ^ i % 2 = 1) := by rw [Nat.testBit_eq_decide_div_mod_eq]
  rw [e, decide_eq_true_eq]
  have h2 : n / 2 ^ i % 2 < 2 := Nat.mod_lt _ (by decide)
  exact nI_eq (a := n / 2 ^ i % 2) (b := 1) (by omega) (by decide)
theorem m_has {n i : Nat} (hd : 1 ≤ d) (hn31 : n < 2 ^ 31) (hi : i < 32) (hy : n.testBit i = true → Q 1 w) (hn : n.testBit i = false → Q 0 w) : qCall (some s) d 270 [.int (nI n), .int (nI i)] w (qQi Q) := by
  obtain ⟨d, rfl, -⟩ := dS hd
  refine A_Mo_has ⟨fun g => hn ?_, fun g => hy ((qBit_1 hn31 hi).mp g)⟩
  cases hb : n.testBit i with
  | false => rfl
  | true => exact absurd ((qBit_1 hn31 hi).mpr hb) g
/-- the lowest of a set -/
def lowB (n : Nat) : Nat := (List.range 12).find? (fun i => n.testBit i) |>.getD 12
def cntB (n : Nat) : Nat := ((List.range 12).filter (fun i => n.testBit i)).length
theorem all4096 {p : Nat → Bool} (h : (List.range 64).all (fun a => (List.range 64).all (fun b => p (64 * a + b))) = true) {n : Nat} (hn : n < 4096) : p n = true := by
  have h1 := List.all_eq_true.mp h (n / 64) (List.mem_range.mpr (by omega))
  have h2 := List.all_eq_true.mp h1 (n % 64) (List.mem_range.mpr (by omega))
  have e : 64 * (n / 64) + n % 64 = n := Nat.div_add_mod n 64
  rw [e] at h2
  exact h2
def lowBok (n : Nat) : Bool := decide (n = 0) || (decide (lowB n < 12) && n.testBit (lowB n) && (List.range 12).all (fun i => decide (lowB n ≤ i) || !n.testBit i))
theorem lowB_all : (List.range 64).all (fun a => (List.range 64).all (fun b => lowBok (64 * a + b))) = true := by decide +kernel
theorem lowB_spec {n : Nat} (h0 : 0 < n) (hn : n < 4096) : lowB n < 12 ∧ n.testBit (lowB n) = true ∧ ∀ i, i < lowB n → n.testBit i = false := by
  have h := all4096 lowB_all hn
  unfold lowBok at h
  simp only [Bool.or_eq_true, Bool.and_eq_true, decide_eq_true_eq] at h
  rcases h with h | ⟨⟨h1, h2⟩, h3⟩
  · omega
  · refine ⟨h1, h2, fun i hi => ?_⟩
    have := List.all_eq_true.mp h3 i (List.mem_range.mpr (by omega))
    simp only [Bool.or_eq_true, decide_eq_true_eq, Bool.not_eq_true'] at this
    rcases this with g | g
    · omega
    · exact g
theorem m_lowest {n : Nat} (hd : 2 ≤ d) (h0 : 0 < n) (hn : n < 4096) (h : Q (nI (lowB n)) w) : qCall (some s) d 289 [.int (nI n)] w (qQi Q) := by
  obtain ⟨d, rfl, hd1⟩ := dS hd
  refine A_Mo_lowest ?_
  obtain ⟨h1, h2, h3⟩ := lowB_spec h0 hn
  have loop : ∀ (k i : Nat), lowB n - i = k → i ≤ lowB n → qAt s d c_Mo_lowest (qQi Q) 2 [some (.int (nI n)), some (.int (nI i))] [] w := by
    intro k
    induction k with
    | zero =>
      intro i hk hi
      have e : i = lowB n := by omega
      subst e
      exact A_Mo_lowest_2 (m_has hd1 (by omega) (by omega) (fun _ => n1 h) (fun g => by rw [h2] at g; cases g))
    | succ k ih =>
      intro i hk hi
      have hlt : i < lowB n := by omega
      have hb : n.testBit i = false := h3 i hlt
      refine A_Mo_lowest_2 (m_has hd1 (by omega) (by omega) (fun g => by rw [hb] at g; cases g) (fun _ => n0 ?_))
      rw [show nI i + (1 : Int32) = nI (i + 1) from nI_1 i]
      exact ih (i + 1) (by omega) (by omega)
  exact loop _ 0 rfl (Nat.zero_le _)
/-- bits counted -/
def bc32 (i0 : Int32) : Int32 := ((((((((i0 - ((qUshr i0 (1 : Int32)) &&& (1431655765 : Int32))) &&& (858993459 : Int32)) + ((qUshr (i0 - ((qUshr i0 (1 : Int32)) &&& (1431655765 : Int32))) (2 : Int32)) &&& (858993459 : Int32))) + (qUshr (((i0 - ((qUshr i0 (1 : Int32)) &&& (1431655765 : Int32))) &&& (858993459 : Int32)) + ((qUshr (i0 - ((qUshr i0 (1 : Int32)) &&& (1431655765 : Int32))) (2 : Int32)) &&& (858993459 : Int32))) (4 : Int32))) &&& (252645135 : Int32)) + (qUshr (((((i0 - ((qUshr i0 (1 : Int32)) &&& (1431655765 : Int32))) &&& (858993459 : Int32)) + ((qUshr (i0 - ((qUshr i0 (1 : Int32)) &&& (1431655765 : Int32))) (2 : Int32)) &&& (858993459 : Int32))) + (qUshr (((i0 - ((qUshr i0 (1 : Int32)) &&& (1431655765 : Int32))) &&& (858993459 : Int32)) + ((qUshr (i0 - ((qUshr i0 (1 : Int32)) &&& (1431655765 : Int32))) (2 : Int32)) &&& (858993459 : Int32))) (4 : Int32))) &&& (252645135 : Int32)) (8 : Int32))) + (qUshr ((((((i0 - ((qUshr i0 (1 : Int32)) &&& (1431655765 : Int32))) &&& (858993459 : Int32)) + ((qUshr (i0 - ((qUshr i0 (1 : Int32)) &&& (1431655765 : Int32))) (2 : Int32)) &&& (858993459 : Int32))) + (qUshr (((i0 - ((qUshr i0 (1 : Int32)) &&& (1431655765 : Int32))) &&& (858993459 : Int32)) + ((qUshr (i0 - ((qUshr i0 (1 : Int32)) &&& (1431655765 : Int32))) (2 : Int32)) &&& (858993459 : Int32))) (4 : Int32))) &&& (252645135 : Int32)) + (qUshr (((((i0 - ((qUshr i0 (1 : Int32)) &&& (1431655765 : Int32))) &&& (858993459 : Int32)) + ((qUshr (i0 - ((qUshr i0 (1 : Int32)) &&& (1431655765 : Int32))) (2 : Int32)) &&& (858993459 : Int32))) + (qUshr (((i0 - ((qUshr i0 (1 : Int32)) &&& (1431655765 : Int32))) &&& (858993459 : Int32)) + ((qUshr (i0 - ((qUshr i0 (1 : Int32)) &&& (1431655765 : Int32))) (2 : Int32)) &&& (858993459 : Int32))) (4 : Int32))) &&& (252645135 : Int32)) (8 : Int32))) (16 : Int32))) &&& (63 : Int32))
def bcOk (n : Nat) : Bool := decide (bc32 (nI n) = nI (cntB n))
theorem bc_all : (List.range 64).all (fun a => (List.range 64).all (fun b => bcOk (64 * a + b))) = true := by decide +kernel
theorem c_bitCount {n : Nat} (hd : 1 ≤ d) (hn : n < 4096) (h : Q (nI (cntB n)) w) : qCall (some s) d 103 [.int (nI n)] w (qQi Q) := by
  obtain ⟨d, rfl, -⟩ := dS hd
  have e : bc32 (nI n) = nI (cntB n) := of_decide_eq_true (all4096 bc_all hn)
  refine A_Integer_bitCount ?_
  show Q (bc32 (nI n)) w
  rw [e]
  exact h
def loOk (n : Nat) : Bool := decide (n = 0) || (decide ((nI n &&& (-(nI n))) - 1 = nI (2 ^ lowB n - 1)) && decide (cntB (2 ^ lowB n - 1) = lowB n))
theorem lo_all : (List.range 64).all (fun a => (List.range 64).all (fun b => loOk (64 * a + b))) = true := by decide +kernel
theorem c_lowestOf {n : Nat} (hd : 2 ≤ d) (h0 : 0 < n) (hn : n < 4096) (h : Q (nI (lowB n)) w) : qCall (some s) d 102 [.int (nI n)] w (qQi Q) := by
  obtain ⟨d, rfl, hd1⟩ := dS hd
  have e := all4096 lo_all hn
  unfold loOk at e
  simp only [Bool.or_eq_true, Bool.and_eq_true, decide_eq_true_eq] at e
  rcases e with e | ⟨e1, e2⟩
  · omega
  · refine A_X_lowestOf ?_
    rw [e1]
    have hl := (lowB_spec h0 hn).1
    have hp : 2 ^ lowB n ≤ 2 ^ 11 := Nat.pow_le_pow_right (by decide) (by omega)
    refine c_bitCount hd1 (by omega) ?_
    rw [e2]
    exact h
/-- size of the reference -/
theorem m_size {n : Nat} (hd : 1 ≤ d) (hn : n < 4096) (h : Q (nI (cntB n)) w) : qCall (some s) d 296 [.int (nI n)] w (qQi Q) := by
  obtain ⟨d, rfl, -⟩ := dS hd
  refine A_Mo_size ?_
  have cs : ∀ i, ((List.range (i + 1)).filter (fun i => n.testBit i)).length = ((List.range i).filter (fun i => n.testBit i)).length + n / 2 ^ i % 2 := by
    intro i
    rw [List.range_succ, List.filter_append, List.length_append]
    have e : n.testBit i = decide (n / 2 ^ i % 2 = 1) := by rw [Nat.testBit_eq_decide_div_mod_eq]
    have h2 : n / 2 ^ i % 2 < 2 := Nat.mod_lt _ (by decide)
    by_cases g : n / 2 ^ i % 2 = 1
    · simp [e, g]
    · have : n / 2 ^ i % 2 = 0 := by omega
      simp [e, this]
  have loop : ∀ (k i : Nat), 12 - i = k → i ≤ 12 → qAt s d c_Mo_size (qQi Q) 4 [some (.int (nI n)), some (.int (nI ((List.range i).filter (fun i => n.testBit i)).length)), some (.int (nI i))] [] w := by
    intro k
    induction k with
    | zero =>
      intro i hk hi
      have e : i = 12 := by omega
      subst e
      exact A_Mo_size_4 ⟨fun _ => h, fun g => absurd (nI_le (a := 12) (b := 12) (by omega) (by decide)) g⟩
    | succ k ih =>
      intro i hk hi
      refine A_Mo_size_4 ⟨fun g => absurd g (nI_ge (a := i) (b := 12) (by omega) (by decide)), fun _ => ?_⟩
      rw [qShr_nI (by omega) (by omega), nI_and1 (Nat.lt_of_le_of_lt (Nat.div_le_self _ _) (by omega)), nI_add, ← cs, show nI i + (1 : Int32) = nI (i + 1) from nI_1 i]
      exact ih (i + 1) (by omega) (by omega)
  exact loop _ 0 rfl (by omega)
end Sets
