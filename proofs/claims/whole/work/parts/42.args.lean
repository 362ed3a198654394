/-! What both sides ask of arguments: the same. A contract of a yes or no has a way on for each. -/
section Args
variable {s : Nat × (Nat → Int32)} {d : Nat} {w : qW} {Q : Int32 → qW → Prop}
theorem b1 {A B : Prop} (h : B) : ((1 : Int32) = 0 → A) ∧ (¬ (1 : Int32) = 0 → B) := ⟨fun e => absurd e (by decide), fun _ => h⟩
theorem b0 {A B : Prop} (h : A) : ((0 : Int32) = 0 → A) ∧ (¬ (0 : Int32) = 0 → B) := ⟨fun _ => h, fun e => absurd rfl e⟩
theorem n1 {A B : Prop} (h : A) : (¬ (1 : Int32) = 0 → A) ∧ ((1 : Int32) = 0 → B) := ⟨fun _ => h, fun e => absurd e (by decide)⟩
theorem n0 {A B : Prop} (h : B) : (¬ (0 : Int32) = 0 → A) ∧ ((0 : Int32) = 0 → B) := ⟨fun e => absurd rfl e, fun _ => h⟩
theorem qIn_0 {n : Nat} (h : 0 < n) (hn : n < 2 ^ 31) : qIn (0 : Int32) n := vp_in_nI (n := 0) h hn
theorem qIx_0 : qIx (0 : Int32) = 0 := rfl
/-- one of the people -/
def vTold (P : Nat) (who : Int32) : Prop := 0 ≤ who ∧ who < nI P
theorem vTold_nI {P : Nat} {who : Int32} (hP : P ≤ 12) (h : vTold P who) : ∃ j, j < P ∧ who = nI j := by
  obtain ⟨j, hj, rfl⟩ := nI_of (Int32.not_lt.mpr h.1)
  refine ⟨j, ?_, rfl⟩
  exact (nI_ltI hj (by omega)).mp h.2
theorem c_isTold {who : Int32} {P : Nat} (hd : 1 ≤ d) (hw : w.1 2 0 = nI P) (hP : P ≤ 12) (hy : vTold P who → Q 1 w) (hn : ¬ vTold P who → Q 0 w) : qCall (some s) d 27 [.ref 2, .int who] w (qQi Q) := by
  obtain ⟨d, rfl, -⟩ := dS hd
  refine A_State_isTold ⟨fun g => hn (fun q => absurd g (Int32.not_lt.mpr q.1)), fun g => ⟨fun g2 => ?_, fun g2 => ⟨fun g3 => ?_, fun g3 => ?_⟩⟩⟩
  · rw [hw] at g2; exact hn (fun q => absurd q.2 (Int32.not_lt.mpr g2))
  · rw [hw] at g2
    exfalso
    obtain ⟨j, hj, rfl⟩ := nI_of g
    have h1 : 12 ≤ j := (nI_leI (a := 12) (by decide) hj).mp g3
    exact g2 (nI_le (by omega) hj)
  · rw [hw] at g2; exact hy ⟨Int32.not_lt.mp g, Int32.not_le.mp g2⟩
theorem m_isPerson {who : Int32} {P : Nat} (hd : 2 ≤ d) (hw : w.1 73 0 = nI P) (hP : P ≤ 12) (hy : vTold P who → Q 1 w) (hn : ¬ vTold P who → Q 0 w) : qCall (some s) d 211 [.ref 72, .int who] w (qQi Q) := by
  obtain ⟨d, rfl, hd1⟩ := dS hd
  refine A_Mo_isPerson ⟨qIn_0 (by decide) (by decide), m_isIn hd1 ?_⟩
  rw [qIx_0, hw]
  have key : (0 ≤ who ∧ who ≤ nI P - 1) ↔ vTold P who := by
    unfold vTold
    cases P with
    | zero =>
      have e : nI 0 - (1 : Int32) = -1 := by decide
      rw [e]
      constructor
      · intro h
        have h1 := Int32.le_iff_toInt_le.mp h.1
        have h2 := Int32.le_iff_toInt_le.mp h.2
        simp at h1 h2
        omega
      · intro h
        have h1 := Int32.le_iff_toInt_le.mp h.1
        have h2 := Int32.lt_iff_toInt_lt.mp h.2
        rw [nI_toInt (by decide)] at h2
        simp at h1 h2
        omega
    | succ P =>
      rw [nI_pred, nI_succ]
      constructor
      · rintro ⟨h1, h2⟩
        refine ⟨h1, ?_⟩
        rw [← nI_succ]
        have h3 := Int32.le_iff_toInt_le.mp h2
        rw [Int32.lt_iff_toInt_lt, nI_toInt (by omega)]
        rw [nI_toInt (by omega)] at h3
        omega
      · rintro ⟨h1, h2⟩
        refine ⟨h1, ?_⟩
        rw [← nI_succ] at h2
        have h3 := Int32.lt_iff_toInt_lt.mp h2
        rw [Int32.le_iff_toInt_le, nI_toInt (by omega)]
        rw [nI_toInt (by omega)] at h3
        omega
  by_cases g : 0 ≤ who ∧ who ≤ nI P - 1
  · rw [if_pos g]; exact hy (key.mp g)
  · rw [if_neg g]; exact hn (fun q => g (key.mpr q))
def vNum (n : Int32) : Prop := 1 ≤ n ∧ n ≤ 9999
def vFst (n : Int32) : Prop := 0 ≤ n ∧ n ≤ 9999
def vDay (n : Int32) : Prop := n = 0 ∨ (2 ≤ n ∧ n ≤ 999)
def vHour (h : Int64) : Prop := 0 ≤ h ∧ h ≤ 1000000000000000
def vStart (h : Int64) : Prop := 0 ≤ h ∧ h ≤ 100000000000000
theorem c_isNumber {n : Int32} (hd : 1 ≤ d) (hy : vNum n → Q 1 w) (hn : ¬ vNum n → Q 0 w) : qCall (some s) d 15 [.int n] w (qQi Q) := by
  obtain ⟨d, rfl, -⟩ := dS hd
  exact A_X_isNumber ⟨fun g => hn (fun q => absurd g (Int32.not_lt.mpr q.1)), fun g => ⟨fun g2 => hn (fun q => absurd g2 (Int32.not_lt.mpr q.2)), fun g2 => hy ⟨Int32.not_lt.mp g, Int32.not_lt.mp g2⟩⟩⟩
theorem c_isFirst {n : Int32} (hd : 1 ≤ d) (hy : vFst n → Q 1 w) (hn : ¬ vFst n → Q 0 w) : qCall (some s) d 16 [.int n] w (qQi Q) := by
  obtain ⟨d, rfl, -⟩ := dS hd
  exact A_X_isFirst ⟨fun g => hn (fun q => absurd g (Int32.not_lt.mpr q.1)), fun g => ⟨fun g2 => hn (fun q => absurd g2 (Int32.not_lt.mpr q.2)), fun g2 => hy ⟨Int32.not_lt.mp g, Int32.not_lt.mp g2⟩⟩⟩
theorem c_isDay {n : Int32} (hd : 1 ≤ d) (hy : vDay n → Q 1 w) (hn : ¬ vDay n → Q 0 w) : qCall (some s) d 29 [.int n] w (qQi Q) := by
  obtain ⟨d, rfl, -⟩ := dS hd
  exact A_X_isDay ⟨fun g => hy (Or.inl g), fun g0 => ⟨fun g => hn (fun q => q.elim g0 fun q => absurd g (Int32.not_lt.mpr q.1)), fun g => ⟨fun g2 => hn (fun q => q.elim g0 fun q => absurd g2 (Int32.not_lt.mpr q.2)), fun g2 => hy (Or.inr ⟨Int32.not_lt.mp g, Int32.not_lt.mp g2⟩)⟩⟩⟩
theorem m_isInB {v a b : Int32} (hd : 1 ≤ d) (hy : (a ≤ v ∧ v ≤ b) → Q 1 w) (hn : ¬ (a ≤ v ∧ v ≤ b) → Q 0 w) : qCall (some s) d 209 [.int v, .int a, .int b] w (qQi Q) := by
  refine m_isIn hd ?_
  by_cases g : a ≤ v ∧ v ≤ b
  · rw [if_pos g]; exact hy g
  · rw [if_neg g]; exact hn g
theorem m_isDay {n : Int32} (hd : 2 ≤ d) (hy : vDay n → Q 1 w) (hn : ¬ vDay n → Q 0 w) : qCall (some s) d 213 [.int n] w (qQi Q) := by
  obtain ⟨d, rfl, hd1⟩ := dS hd
  exact A_Mo_isDay ⟨fun g => hy (Or.inl g), fun g0 => m_isInB hd1 (fun g => b1 (hy (Or.inr g))) (fun g => b0 (hn (fun q => q.elim g0 g)))⟩
theorem m_isCaller {n f : Int32} (hd : 2 ≤ d) (hy : vNum n ∧ vFst f → Q 1 w) (hn : ¬ (vNum n ∧ vFst f) → Q 0 w) : qCall (some s) d 208 [.int n, .int f] w (qQi Q) := by
  obtain ⟨d, rfl, hd1⟩ := dS hd
  exact A_Mo_isCaller (m_isInB hd1 (fun g => b1 (m_isInB hd1 (fun g2 => b1 (hy ⟨g, g2⟩)) (fun g2 => b0 (hn (fun q => g2 q.2))))) (fun g => b0 (hn (fun q => g q.1))))
theorem c_isHour {h : Int64} (hd : 1 ≤ d) (hy : vHour h → Q 1 w) (hn : ¬ vHour h → Q 0 w) : qCall (some s) d 92 [.long h] w (qQi Q) := by
  obtain ⟨d, rfl, -⟩ := dS hd
  refine A_X_isHour ?_
  rw [lg_lt, lg_gt]
  exact ⟨fun g => hn (fun q => absurd g (Int64.not_lt.mpr q.1)), fun g => ⟨fun g2 => hn (fun q => absurd g2 (Int64.not_lt.mpr q.2)), fun g2 => hy ⟨Int64.not_lt.mp g, Int64.not_lt.mp g2⟩⟩⟩
theorem m_isHour {h : Int64} (hd : 1 ≤ d) (hy : vHour h → Q 1 w) (hn : ¬ vHour h → Q 0 w) : qCall (some s) d 252 [.long h] w (qQi Q) := by
  obtain ⟨d, rfl, -⟩ := dS hd
  refine A_Mo_isHour ?_
  rw [lg_lt, lg_gt]
  exact ⟨fun g => hn (fun q => absurd g (Int64.not_lt.mpr q.1)), fun g => ⟨fun g2 => hn (fun q => absurd g2 (Int64.not_lt.mpr q.2)), fun g2 => hy ⟨Int64.not_lt.mp g, Int64.not_lt.mp g2⟩⟩⟩
theorem c_isStart {h : Int64} (hd : 1 ≤ d) (hy : vStart h → Q 1 w) (hn : ¬ vStart h → Q 0 w) : qCall (some s) d 136 [.long h] w (qQi Q) := by
  obtain ⟨d, rfl, -⟩ := dS hd
  refine A_X_isStart ?_
  rw [lg_lt, lg_gt]
  exact ⟨fun g => hn (fun q => absurd g (Int64.not_lt.mpr q.1)), fun g => ⟨fun g2 => hn (fun q => absurd g2 (Int64.not_lt.mpr q.2)), fun g2 => hy ⟨Int64.not_lt.mp g, Int64.not_lt.mp g2⟩⟩⟩
/-- so many hours from one on -/
def vHours (h n : Int64) : Prop := 1 ≤ n ∧ n ≤ 1000000000000000 ∧ 0 ≤ h ∧ h.toInt + n.toInt - 1 ≤ 1000000000000000
theorem L64 (z : Int) (h1 : -9223372036854775808 ≤ z) (h2 : z ≤ 9223372036854775807) : z.bmod (2 ^ 64) = z := by
  rw [Int.bmod_eq_of_le] <;> omega
theorem c_areHours {h n : Int64} (hd : 1 ≤ d) (hy : vHours h n → Q 1 w) (hn : ¬ vHours h n → Q 0 w) : qCall (some s) d 120 [.long h, .long n] w (qQi Q) := by
  obtain ⟨d, rfl, -⟩ := dS hd
  refine A_X_areHours ?_
  rw [lg_lt, lg_gt, lg_lt, lg_gt]
  refine ⟨fun g => hn (fun q => absurd g (Int64.not_lt.mpr q.1)), fun g => ⟨fun g2 => hn (fun q => absurd g2 (Int64.not_lt.mpr q.2.1)), fun g2 => ⟨fun g3 => hn (fun q => absurd g3 (Int64.not_lt.mpr q.2.2.1)), fun g3 => ?_⟩⟩⟩
  have e1 := Int64.le_iff_toInt_le.mp (Int64.not_lt.mp g)
  have e2 := Int64.le_iff_toInt_le.mp (Int64.not_lt.mp g2)
  have k1 : (1 : Int64).toInt = 1 := by decide
  have k2 : (1000000000000000 : Int64).toInt = 1000000000000000 := by decide
  rw [k1] at e1
  rw [k2] at e2
  have e4 : (1000000000000000 - (n - 1) : Int64).toInt = 1000000000000000 - (n.toInt - 1) := by
    rw [Int64.toInt_sub, Int64.toInt_sub, k1, k2, L64 (n.toInt - 1) (by omega) (by omega), L64 _ (by omega) (by omega)]
  rw [Int64.lt_iff_toInt_lt, e4]
  exact ⟨fun g4 => hn (fun q => by have := q.2.2.2; omega), fun g4 => hy ⟨Int64.not_lt.mp g, Int64.not_lt.mp g2, Int64.not_lt.mp g3, by omega⟩⟩
theorem m_areHours {h n : Int64} (hd : 2 ≤ d) (hy : vHours h n → Q 1 w) (hn : ¬ vHours h n → Q 0 w) : qCall (some s) d 281 [.long h, .long n] w (qQi Q) := by
  obtain ⟨d, rfl, hd1⟩ := dS hd
  refine A_Mo_areHours (m_isHour hd1 (fun gh => b1 ?_) (fun gh => b0 (hn (fun q => gh ⟨q.2.2.1, ?_⟩))))
  · rw [lg_lt, lg_gt, lg_gt]
    refine ⟨fun g => hn (fun q => absurd g (Int64.not_lt.mpr q.1)), fun g => ⟨fun g2 => hn (fun q => absurd g2 (Int64.not_lt.mpr q.2.1)), fun g2 => ?_⟩⟩
    have e1 := Int64.le_iff_toInt_le.mp (Int64.not_lt.mp g)
    have e2 := Int64.le_iff_toInt_le.mp (Int64.not_lt.mp g2)
    have e5 := Int64.le_iff_toInt_le.mp gh.1
    have e6 := Int64.le_iff_toInt_le.mp gh.2
    have k0 : (0 : Int64).toInt = 0 := by decide
    have k1 : (1 : Int64).toInt = 1 := by decide
    have k2 : (1000000000000000 : Int64).toInt = 1000000000000000 := by decide
    rw [k1] at e1
    rw [k2] at e2 e6
    rw [k0] at e5
    have e4 : (h + n - 1 : Int64).toInt = h.toInt + n.toInt - 1 := by
      rw [Int64.toInt_sub, Int64.toInt_add, k1, L64 (h.toInt + n.toInt) (by omega) (by omega), L64 _ (by omega) (by omega)]
    rw [Int64.lt_iff_toInt_lt, e4, k2]
    exact ⟨fun g4 => hn (fun q => by have := q.2.2.2; omega), fun g4 => hy ⟨Int64.not_lt.mp g, Int64.not_lt.mp g2, gh.1, by omega⟩⟩
  · have e1 := Int64.le_iff_toInt_le.mp q.1
    have k1 : (1 : Int64).toInt = 1 := by decide
    have k2 : (1000000000000000 : Int64).toInt = 1000000000000000 := by decide
    rw [k1] at e1
    rw [Int64.le_iff_toInt_le, k2]
    have := q.2.2.2
    omega
end Args
