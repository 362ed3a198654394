/-! Numbers: comparing, remainders, bits, worlds read behind a write. -/
theorem lg_lt (x y : Int64) : lg_cmp x y < 0 ↔ x < y := by
  unfold lg_cmp
  have e := Int64.lt_iff_toInt_lt (x := x) (y := y)
  have e2 := Int64.lt_iff_toInt_lt (x := y) (y := x)
  have e3 : x = y ↔ x.toInt = y.toInt := Int64.toInt_inj.symm
  by_cases h1 : y < x
  · rw [if_pos h1]
    exact ⟨fun h => absurd h (by decide), fun h => by rw [e] at h; rw [e2] at h1; omega⟩
  · rw [if_neg h1]
    by_cases h2 : x = y
    · rw [if_pos h2]
      exact ⟨fun h => absurd h (by decide), fun h => by rw [e] at h; rw [e3] at h2; omega⟩
    · rw [if_neg h2]
      exact ⟨fun _ => by rw [e]; rw [e2] at h1; rw [e3] at h2; omega, fun _ => by decide⟩
theorem lg_eq (x y : Int64) : lg_cmp x y = 0 ↔ x = y := by
  unfold lg_cmp
  have e2 := Int64.lt_iff_toInt_lt (x := y) (y := x)
  have e3 : x = y ↔ x.toInt = y.toInt := Int64.toInt_inj.symm
  by_cases h1 : y < x
  · rw [if_pos h1]
    exact ⟨fun h => absurd h (by decide), fun h => by rw [e3] at h; rw [e2] at h1; omega⟩
  · rw [if_neg h1]
    by_cases h2 : x = y
    · rw [if_pos h2]; exact ⟨fun _ => h2, fun _ => rfl⟩
    · rw [if_neg h2]; exact ⟨fun h => absurd h (by decide), fun h => absurd h h2⟩
theorem lg_gt (x y : Int64) : 0 < lg_cmp x y ↔ y < x := by
  unfold lg_cmp
  by_cases h1 : y < x
  · rw [if_pos h1]; exact ⟨fun _ => h1, fun _ => by decide⟩
  · rw [if_neg h1]
    by_cases h2 : x = y
    · rw [if_pos h2]; exact ⟨fun h => absurd h (by decide), fun h => absurd h h1⟩
    · rw [if_neg h2]; exact ⟨fun h => absurd h (by decide), fun h => absurd h h1⟩
theorem lg_le (x y : Int64) : lg_cmp x y ≤ 0 ↔ x ≤ y := by
  rw [← Int32.not_lt, lg_gt, Int64.not_lt]
theorem lg_ge (x y : Int64) : 0 ≤ lg_cmp x y ↔ y ≤ x := by
  rw [← Int32.not_lt, lg_lt, Int64.not_lt]
theorem qRem_nI {a d : Nat} (ha : a < 2 ^ 31) (h0 : 0 < d) (hd : d < 2 ^ 31) : qRem (nI a) (nI d) = nI (a % d) := pk_rem ha h0 hd
theorem qRemL_lN {a d : Nat} (ha : a < 2 ^ 63) (h0 : 0 < d) (hd : d < 2 ^ 63) : qRemL (lN a) (lN d) = lN (a % d) := pk_lRem ha h0 hd
theorem qIn_nI {j n : Nat} (h : j < n) (hn : n < 2 ^ 31) : qIn (nI j) n := vp_in_nI h hn
theorem qIx_nI {j : Nat} (h : j < 2 ^ 31) : qIx (nI j) = j := nI_clamp h
theorem qPI_1 (w : qW) (c f : Nat) (v : Int32) (a b : Nat) : (qPutI w c f v).1 a b = if a = c ∧ b = f then v else w.1 a b := rfl
theorem qPI_2 (w : qW) (c f : Nat) (v : Int32) : (qPutI w c f v).2 = w.2 := rfl
theorem qPL_1 (w : qW) (c f : Nat) (v : Int64) : (qPutL w c f v).1 = w.1 := rfl
theorem qPL_2 (w : qW) (c f : Nat) (v : Int64) (a b : Nat) : (qPutL w c f v).2.1 a b = if a = c ∧ b = f then v else w.2.1 a b := rfl
theorem qPL_3 (w : qW) (c f : Nat) (v : Int64) : (qPutL w c f v).2.2 = w.2.2 := rfl
/-- bits -/
theorem qShl_1 : ∀ i : Fin 31, qShl 1 (nI i.val) = nI (2 ^ i.val) := by decide +kernel
theorem qUs_amt : ∀ i : Fin 32, (((nI i.val).toUInt32 &&& Int32.toUInt32 31).toBitVec % 32).toNat = i.val := by decide +kernel
theorem qUshr_nI {n i : Nat} (hn : n < 2 ^ 32) (hi : i < 32) : qUshr (nI n) (nI i) = nI (n / 2 ^ i) := pk_ushrN hn (nI i) i (qUs_amt ⟨i, hi⟩)
theorem nI_and1 {n : Nat} (hn : n < 2 ^ 32) : nI n &&& 1 = nI (n % 2) := pk_andN hn 1 (by decide)
theorem qBit_0 {n i : Nat} (hn : n < 2 ^ 31) (hi : i < 32) : (qUshr (nI n) (nI i) &&& 1) = 0 ↔ n.testBit i = false := by
  rw [qUshr_nI (by omega) hi, nI_and1 (Nat.lt_of_le_of_lt (Nat.div_le_self _ _) (by omega))]
  have e : n.testBit i = decide (n / 2 ^ i % 2 = 1) := by rw [Nat.testBit_eq_decide_div_mod_eq]
  rw [e]
  have h2 : n / 2 ^ i % 2 < 2 := Nat.mod_lt _ (by decide)
  constructor
  · intro h
    have : n / 2 ^ i % 2 = 0 := by
      have := (nI_eq (a := n / 2 ^ i % 2) (b := 0) (by omega) (by decide)).mp h
      exact this
    simp [this]
  · intro h
    have : n / 2 ^ i % 2 = 0 := by
      have := of_decide_eq_false h
      omega
    rw [this]
    rfl
