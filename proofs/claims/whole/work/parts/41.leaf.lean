/-! Leaves: contracts of small methods of both sides. Every contract holds at each depth d from a number on. -/
section Leaf
variable {s : Nat × (Nat → Int32)} {d : Nat} {w : qW}
theorem dS {d k : Nat} (h : k + 1 ≤ d) : ∃ e, d = e + 1 ∧ k ≤ e := ⟨d - 1, by omega, by omega⟩
/-- is j one of the set n (bits)? -/
def mem12 (who : Int32) (n : Nat) : Bool := decide (0 ≤ who ∧ who < 12) && n.testBit (qIx who)
theorem mem12_nI {j n : Nat} (hj : j < 12) : mem12 (nI j) n = n.testBit j := by
  unfold mem12
  have h1 : (0 : Int32) ≤ nI j := nI_pos' (by omega)
  have h2 : nI j < 12 := nI_lt (b := 12) hj (by decide)
  rw [qIx_nI (by omega)]
  simp [h1, h2]
theorem c_isOf {Q : Int32 → qW → Prop} {who : Int32} {n : Nat} (hd : 1 ≤ d) (hn : n < 2 ^ 31) (h : Q (if mem12 who n then 1 else 0) w) : qCall (some s) d 104 [.int who, .int (nI n)] w (qQi Q) := by
  obtain ⟨d, rfl, -⟩ := dS hd
  refine A_X_isOf ⟨fun h0 => ?_, fun h0 => ⟨fun h1 => ?_, fun h1 => ?_⟩⟩
  · have e : mem12 who n = false := by
      unfold mem12; simp; intro g; exact absurd h0 (Int32.not_lt.mpr g)
    rw [e] at h; exact h
  · have e : mem12 who n = false := by
      unfold mem12; simp; intro _ g; exact absurd g (Int32.not_lt.mpr h1)
    rw [e] at h; exact h
  · obtain ⟨j, hj, rfl⟩ := nI_of h0
    have hj12 : j < 12 := by
      rcases Nat.lt_or_ge j 12 with g | g
      · exact g
      · exact absurd (nI_le (a := 12) g hj) h1
    rw [mem12_nI hj12] at h
    refine ⟨fun h2 => ?_, fun h2 => ?_⟩
    · rw [(qBit_0 hn (by omega)).mp h2] at h; exact h
    · have e : n.testBit j = true := by
        cases hb : n.testBit j with
        | true => rfl
        | false => exact absurd ((qBit_0 hn (by omega)).mpr hb) h2
      rw [e] at h; exact h
theorem gcd_loop {Q : Int64 → qW → Prop} : ∀ (k a b i : Nat), a < 2 ^ 63 → b < 2 ^ 63 → b < 2 ^ k → i + 2 * k ≤ 199 → Q (lN (Nat.gcd a b)) w →
    qAt s d c_X_gcd (qQl Q) 9 [none, none, none, none, some (.long (lN a)), none, some (.long (lN b)), none, some (.int (nI i)), none, none] [] w
  | 0, a, b, i, ha, hb, hk, hi, h => by
    have e : b = 0 := by omega
    subst e
    rw [Nat.gcd_zero_right] at h
    exact A_X_gcd_9 ⟨fun _ => h, fun _ => ⟨fun _ => h, fun g => absurd ((lg_eq _ _).mpr rfl) g⟩⟩
  | k + 1, a, b, i, ha, hb, hk, hi, h => by
    refine A_X_gcd_9 ⟨fun g => absurd g (nI_ge (a := i) (b := 200) (by omega) (by decide)), fun _ => ⟨fun g => ?_, fun g => ?_⟩⟩
    · have e : b = 0 := (pk_lEQ hb (by decide)).mp ((lg_eq _ _).mp g)
      subst e
      rw [Nat.gcd_zero_right] at h
      exact h
    · have hb0 : 0 < b := by
        rcases Nat.eq_zero_or_pos b with e | e
        · subst e; exact absurd ((lg_eq _ _).mpr rfl) g
        · exact e
      refine ⟨fun e => g ((lg_eq _ _).mpr e), ?_⟩
      rw [qRemL_lN ha hb0 hb, show nI i + (1 : Int32) = nI (i + 1) from nI_1 i]
      have hr : a % b < b := Nat.mod_lt _ hb0
      rw [Nat.gcd_comm, Nat.gcd_rec] at h
      refine A_X_gcd_9 ⟨fun g => absurd g (nI_ge (a := i + 1) (b := 200) (by omega) (by decide)), fun _ => ⟨fun g2 => ?_, fun g2 => ?_⟩⟩
      · have e : a % b = 0 := (pk_lEQ (by omega) (by decide)).mp ((lg_eq _ _).mp g2)
        rw [e, Nat.gcd_zero_left] at h
        exact h
      · have hr0 : 0 < a % b := by
          rcases Nat.eq_zero_or_pos (a % b) with e | e
          · rw [e] at g2; exact absurd ((lg_eq _ _).mpr rfl) g2
          · exact e
        refine ⟨fun e => g2 ((lg_eq _ _).mpr e), ?_⟩
        rw [qRemL_lN hb hr0 (by omega), show nI (i + 1) + (1 : Int32) = nI (i + 2) from nI_1 (i + 1)]
        have h2 : b % (a % b) < a % b := Nat.mod_lt _ hr0
        have h3 : 2 * (b % (a % b)) < b := by
          have e1 := Nat.div_add_mod b (a % b)
          have e2 : 1 ≤ b / (a % b) := (Nat.one_le_div_iff hr0).mpr (Nat.le_of_lt hr)
          have e3 : a % b ≤ (a % b) * (b / (a % b)) := Nat.le_mul_of_pos_right _ e2
          omega
        rw [Nat.pow_succ] at hk
        refine gcd_loop k (a % b) (b % (a % b)) (i + 2) (by omega) (by omega) (by omega) (by omega) ?_
        rw [Nat.gcd_rec, Nat.gcd_comm] at h
        exact h
theorem c_gcd {Q : Int64 → qW → Prop} {a b : Nat} (hd : 1 ≤ d) (ha : a < 2 ^ 63) (hb : b < 2 ^ 62) (h : Q (lN (Nat.gcd a b)) w) : qCall (some s) d 111 [.long (lN a), .long (lN b)] w (qQl Q) := by
  obtain ⟨d, rfl, -⟩ := dS hd
  exact A_X_gcd (gcd_loop 62 a b 0 ha (by omega) hb (by omega) h)
theorem common_loop {Q : Int64 → qW → Prop} : ∀ (b a : Nat), a < 2 ^ 63 → b < 2 ^ 63 → Q (lN (Nat.gcd a b)) w →
    qAt s d c_Mo_common (qQl Q) 6 [none, none, none, none, some (.long (lN a)), none, some (.long (lN b)), none, none, none] [] w := by
  intro b
  induction b using Nat.strongRecOn with
  | ind b ih =>
    intro a ha hb h
    refine A_Mo_common_6 ⟨fun g => ?_, fun g => ?_⟩
    · have e : b = 0 := (pk_lEQ hb (by decide)).mp ((lg_eq _ _).mp g)
      subst e
      rw [Nat.gcd_zero_right] at h
      exact h
    · have hb0 : 0 < b := by
        rcases Nat.eq_zero_or_pos b with e | e
        · subst e; exact absurd ((lg_eq _ _).mpr rfl) g
        · exact e
      refine ⟨fun e => g ((lg_eq _ _).mpr e), ?_⟩
      rw [qRemL_lN ha hb0 hb]
      have hr : a % b < b := Nat.mod_lt _ hb0
      refine ih (a % b) hr b hb (by omega) ?_
      rw [Nat.gcd_comm, Nat.gcd_rec, Nat.gcd_comm] at h
      exact h
theorem m_common {Q : Int64 → qW → Prop} {a b : Nat} (hd : 1 ≤ d) (ha : a < 2 ^ 63) (hb : b < 2 ^ 63) (h : Q (lN (Nat.gcd a b)) w) : qCall (some s) d 268 [.long (lN a), .long (lN b)] w (qQl Q) := by
  obtain ⟨d, rfl, -⟩ := dS hd
  exact A_Mo_common (common_loop b a ha hb h)
/-- isIn of the reference -/
theorem m_isIn {Q : Int32 → qW → Prop} {v a b : Int32} (hd : 1 ≤ d) (h : Q (if a ≤ v ∧ v ≤ b then 1 else 0) w) : qCall (some s) d 209 [.int v, .int a, .int b] w (qQi Q) := by
  obtain ⟨d, rfl, -⟩ := dS hd
  refine A_Mo_isIn ⟨fun g => ?_, fun g => ⟨fun g2 => ?_, fun g2 => ?_⟩⟩
  · rw [if_neg (fun q => absurd g (Int32.not_lt.mpr q.1))] at h; exact h
  · rw [if_neg (fun q => absurd g2 (Int32.not_lt.mpr q.2))] at h; exact h
  · rw [if_pos ⟨Int32.not_lt.mp g, Int32.not_lt.mp g2⟩] at h; exact h
end Leaf
