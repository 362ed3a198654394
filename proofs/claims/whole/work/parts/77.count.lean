/-! Hours a step apart that come to open clocks, counted: the class. -/
section Count
variable {s : Nat × (Nat → Int32)} {d : Nat} {w : qW} {Q : Int32 → qW → Prop} {QL : Int64 → qW → Prop} {R : qW → Prop} {N S K : vS} {T : Nat → vT} {Z : vZ}
def rdF (k ap : Nat) : Nat := k / Nat.gcd k (ap % k)
/-- clocks that i hours come to, an hour at 0 being the first -/
def clB (k ap : Nat) : Nat → Nat
  | 0 => 0
  | i + 1 => clB k ap i ||| 2 ^ (i * ap % k)
theorem clB_bit {k ap : Nat} (c : Nat) : ∀ i, (clB k ap i).testBit c = (List.range i).any (fun j => decide (j * ap % k = c))
  | 0 => by simp [clB]
  | i + 1 => by
    unfold clB
    rw [Nat.testBit_or, clB_bit c i, any_succ, Nat.testBit_two_pow]
theorem clB_lt {k ap : Nat} (hk : 1 ≤ k) (hk2 : k ≤ 60) : ∀ i, clB k ap i < 2 ^ k
  | 0 => Nat.two_pow_pos _
  | i + 1 => by
    unfold clB
    refine Nat.or_lt_two_pow (clB_lt hk hk2 i) ?_
    exact Nat.pow_lt_pow_right (by decide) (Nat.mod_lt _ (by omega))
theorem gcd_md {k ap : Nat} : Nat.gcd k (ap % k) = Nat.gcd k ap := by
  rw [Nat.gcd_comm, ← Nat.gcd_rec]
theorem rdF_pos {k ap : Nat} (hk : 1 ≤ k) : 1 ≤ rdF k ap ∧ rdF k ap ≤ k := by
  unfold rdF
  have hg : 0 < Nat.gcd k (ap % k) := Nat.gcd_pos_of_pos_left _ hk
  exact ⟨(Nat.one_le_div_iff hg).mpr (Nat.gcd_le_left _ hk), Nat.div_le_self _ _⟩
theorem rdF_per {k ap : Nat} (x : Nat) : (x + rdF k ap * ap) % k = x % k := by
  unfold rdF
  rw [gcd_md]
  have h1 : k / Nat.gcd k ap * ap = k * (ap / Nat.gcd k ap) := by
    obtain ⟨a, ha⟩ := Nat.gcd_dvd_left k ap
    obtain ⟨b, hb⟩ := Nat.gcd_dvd_right k ap
    rcases Nat.eq_zero_or_pos (Nat.gcd k ap) with g0 | g0
    · rw [g0]; simp
    · have e1 : k / Nat.gcd k ap = a := by conv => lhs; lhs; rw [ha]
                                           exact Nat.mul_div_cancel_left _ g0
      have e2 : ap / Nat.gcd k ap = b := by conv => lhs; lhs; rw [hb]
                                            exact Nat.mul_div_cancel_left _ g0
      rw [e1, e2]
      conv => lhs; rw [hb]
      conv => rhs; rw [ha]
      rw [Nat.mul_comm a, Nat.mul_right_comm]
  rw [h1, Nat.add_mul_mod_self_left]
theorem rdF_inj {k ap x i j : Nat} (hk : 1 ≤ k) (hij : i < j) (hj : j < rdF k ap) : ¬ (x + i * ap) % k = (x + j * ap) % k := by
  intro h
  have h1 := Nat.sub_mod_eq_zero_of_mod_eq h.symm
  have e : x + j * ap - (x + i * ap) = (j - i) * ap := by
    have : j * ap = i * ap + (j - i) * ap := by rw [← Nat.add_mul]; congr 1; omega
    omega
  rw [e] at h1
  have hd := Nat.dvd_of_mod_eq_zero h1
  have hg : 0 < Nat.gcd k ap := Nat.gcd_pos_of_pos_left _ hk
  unfold rdF at hj
  rw [gcd_md] at hj
  have ek : k = Nat.gcd k ap * (k / Nat.gcd k ap) := (Nat.mul_div_cancel' (Nat.gcd_dvd_left _ _)).symm
  have ea : ap = Nat.gcd k ap * (ap / Nat.gcd k ap) := (Nat.mul_div_cancel' (Nat.gcd_dvd_right _ _)).symm
  have hc : Nat.Coprime (k / Nat.gcd k ap) (ap / Nat.gcd k ap) := Nat.coprime_div_gcd_div_gcd hg
  have h2 : Nat.gcd k ap * (k / Nat.gcd k ap) ∣ Nat.gcd k ap * ((j - i) * (ap / Nat.gcd k ap)) := by
    rw [← ek, Nat.mul_left_comm, ← ea]; exact hd
  have h3 := Nat.dvd_of_mul_dvd_mul_left hg h2
  have h4 := Nat.Coprime.dvd_of_dvd_mul_right hc h3
  have := Nat.le_of_dvd (by omega) h4
  omega
theorem cnt_one {A : Nat → Bool} {b : Bool} {m : Nat} (hA : A m = false) : ∀ {n : Nat}, m < n → cnt (fun c => A c || (decide (c = m) && b)) n = cnt A n + b.toNat
  | 0, h => absurd h (Nat.not_lt_zero _)
  | n + 1, h => by
    have e0 : cnt (fun c => A c || (decide (c = m) && b)) m = cnt A m := cnt_congr (fun i hi => by rw [decide_eq_false (by omega)]; simp)
    by_cases e : n = m
    · subst e
      show cnt (fun c => A c || (decide (c = n) && b)) n + (A n || (decide (n = n) && b)).toNat = cnt A n + (A n).toNat + b.toNat
      rw [e0, hA, decide_eq_true rfl]
      simp
    · have ih := cnt_one hA (n := n) (b := b) (by omega)
      show cnt (fun c => A c || (decide (c = m) && b)) n + (A n || (decide (n = m) && b)).toNat = cnt A n + (A n).toNat + b.toNat
      rw [ih, decide_eq_false e]
      simp
      omega
/-- open clocks that i hours from x on come to -/
theorem pop_row {op : Nat → Bool} {k ap x : Nat} (hk : 1 ≤ k) (hk2 : k ≤ 60) : ∀ i, i ≤ rdF k ap → pop (bitsOf op k &&& (clB k ap i * 2 ^ (x % k) ||| clB k ap i / 2 ^ (k - x % k))) = cnt (fun j => op ((x + j * ap) % k)) i := by
  have hx : x % k < k := Nat.mod_lt _ (by omega)
  have bit : ∀ i c, (bitsOf op k &&& (clB k ap i * 2 ^ (x % k) ||| clB k ap i / 2 ^ (k - x % k))).testBit c = (decide (c < k) && op c && (List.range i).any (fun j => decide (c = (x + j * ap) % k))) := by
    intro i c
    rw [Nat.testBit_and, bitsOf_bit, Nat.testBit_or, Nat.testBit_mul_two_pow, Nat.testBit_div_two_pow]
    by_cases hc : c < k
    · rw [decide_eq_true hc, Bool.true_and]
      congr 1
      rw [clB_bit, clB_bit]
      have key : ∀ j, (c = (x + j * ap) % k) ↔ ((x % k ≤ c ∧ j * ap % k = c - x % k) ∨ j * ap % k = c + (k - x % k)) := by
        intro j
        have hj : j * ap % k < k := Nat.mod_lt _ (by omega)
        have e : (x + j * ap) % k = (x % k + j * ap % k) % k := Nat.add_mod _ _ _
        rw [e]
        rcases Nat.lt_or_ge (x % k + j * ap % k) k with g | g
        · rw [Nat.mod_eq_of_lt g]; omega
        · rw [Nat.mod_eq_sub_mod g, Nat.mod_eq_of_lt (by omega)]; omega
      rw [Bool.eq_iff_iff]
      simp only [Bool.or_eq_true, Bool.and_eq_true, decide_eq_true_eq, List.any_eq_true, List.mem_range]
      constructor
      · rintro (⟨h1, j, hj, h2⟩ | ⟨j, hj, h2⟩)
        · exact ⟨j, hj, (key j).mpr (Or.inl ⟨h1, h2⟩)⟩
        · exact ⟨j, hj, (key j).mpr (Or.inr (by omega))⟩
      · rintro ⟨j, hj, h2⟩
        rcases (key j).mp h2 with ⟨h1, h3⟩ | h3
        · exact Or.inl ⟨h1, j, hj, h3⟩
        · exact Or.inr ⟨j, hj, by omega⟩
    · rw [decide_eq_false hc]; rfl
  intro i
  induction i with
  | zero =>
    intro _
    unfold pop
    rw [cnt_false (fun c _ => by rw [bit]; simp)]
    rfl
  | succ i ih =>
    intro hi
    have hm : (x + i * ap) % k < k := Nat.mod_lt _ (by omega)
    have e1 : pop (bitsOf op k &&& (clB k ap (i + 1) * 2 ^ (x % k) ||| clB k ap (i + 1) / 2 ^ (k - x % k))) = cnt (fun c => (bitsOf op k &&& (clB k ap i * 2 ^ (x % k) ||| clB k ap i / 2 ^ (k - x % k))).testBit c || (decide (c = (x + i * ap) % k) && op ((x + i * ap) % k))) 64 := by
      unfold pop
      refine cnt_congr (fun c _ => ?_)
      rw [bit, bit, any_succ]
      by_cases e : c = (x + i * ap) % k
      · subst e
        rw [decide_eq_true hm, decide_eq_true rfl]
        cases op ((x + i * ap) % k) <;> simp
      · rw [decide_eq_false e]; simp
    rw [e1, cnt_one ?_ (by omega)]
    · show pop (bitsOf op k &&& (clB k ap i * 2 ^ (x % k) ||| clB k ap i / 2 ^ (k - x % k))) + _ = _
      rw [ih (by omega)]
      rfl
    · rw [bit]
      have : (List.range i).any (fun j => decide ((x + i * ap) % k = (x + j * ap) % k)) = false := by
        rw [List.any_eq_false]
        intro j hj
        have hj := List.mem_range.mp hj
        have := rdF_inj (x := x) hk hj (show i < rdF k ap by omega)
        rw [decide_eq_false (fun h => this h.symm)]
        decide
      rw [this, Bool.and_false]
/-- what layClocks leaves -/
def lcl (w : qW) (k ap : Nat) : Prop := w.1 53 6 = nI (rdF k ap) ∧ ∀ i, i ≤ rdF k ap → w.2.1 54 i = lN (clB k ap i)
theorem c_layClocks {ap : Nat} (hd : 2 ≤ d) (hX : rX w N K T Z) (hap : ap < 2 ^ 62) (hQ : ∀ w', fr (fun c => c = 53 ∨ c = 54) w w' → w'.2.1 53 = w.2.1 53 → lcl w' (N 2 0) ap → R w') : qCall (some s) d 123 [.ref 53, .long (lN ap)] w (qQv R) := by
  obtain ⟨d, rfl, hd1⟩ := dS hd
  have r := hX.n
  have oc := hX.okn.clk
  have ha : ap % N 2 0 < N 2 0 := Nat.mod_lt _ (by omega)
  have hg : 0 < Nat.gcd (N 2 0) (ap % N 2 0) := Nat.gcd_pos_of_pos_left _ oc.1
  have hg2 : Nat.gcd (N 2 0) (ap % N 2 0) ≤ N 2 0 := Nat.gcd_le_left _ oc.1
  have hr := rdF_pos (ap := ap) oc.1
  refine A_Meetings_layClocks ?_
  rw [r.clk, nI_l (by omega), qRemL_lN (by omega) (by omega) (by omega), lN_i, nI_l (by omega), eqL0 (by omega)]
  refine ⟨by omega, c_gcd hd1 (by omega) (by omega) ?_⟩
  rw [lN_i, eq0 (by omega), nI_div' (by omega) (by omega) (by omega)]
  refine ⟨by omega, qIn_0 (by decide) (by decide), ?_⟩
  refine lpU (i := 0) (n := rdF (N 2 0) ap) (I := fun i w2 => fr (fun c => c = 53 ∨ c = 54) w w2 ∧ w2.2.1 53 = w.2.1 53 ∧ w2.1 53 6 = nI (rdF (N 2 0) ap) ∧ ∀ j, j ≤ i → w2.2.1 54 j = lN (clB (N 2 0) ap j)) (P := fun i w2 => ∀ c, c = i * ap % N 2 0 → qAt s d c_Meetings_layClocks (qQv R) 51 [some (.ref 53), none, none, some (.int (nI (ap % N 2 0))), some (.int (nI c)), some (.int (nI i))] [] w2) ?_ ?_ (Nat.zero_le _) ?_ 0 (by rw [Nat.zero_mul, Nat.zero_mod])
  · intro w2 ⟨f, e5, e6, h⟩ c _
    refine A_Meetings_layClocks_51 ?_
    rw [e6]
    exact ⟨fun _ => hQ w2 f e5 ⟨e6, h⟩, fun g => absurd (Int32.le_refl _) g⟩
  · intro i w2 hi ⟨f, e5, e6, h⟩ ih c hc
    subst hc
    have hX2 := hX.m53 f
    have hm : i * ap % N 2 0 < N 2 0 := Nat.mod_lt _ (by omega)
    refine A_Meetings_layClocks_51 ?_
    rw [e6, hX2.n.clk, nI_leI (by omega) (by omega), nI_1, qIx_nI (by omega), qIx_nI (by omega), h i (Nat.le_refl _), show (1 : Int64) = lN 1 from rfl, qLshl_1 ⟨i * ap % N 2 0, by omega⟩, lN_or, nI_add, qRem_nI (by omega) (by omega) (by omega), eq0 (by omega)]
    have e : (i * ap % N 2 0 + ap % N 2 0) % N 2 0 = (i + 1) * ap % N 2 0 := by rw [← Nat.add_mod, Nat.add_mul, Nat.one_mul]
    rw [e]
    refine ⟨fun g => absurd g (by omega), fun _ => ⟨qIn_nI (by omega) (by decide), qIn_nI (by omega) (by decide), by omega, ih _ ⟨fr_L f (Or.inr rfl), ?_, e6, fun j hj => ?_⟩ _ rfl⟩⟩
    · rw [← e5]; exact funext fun g => pL_c (by decide)
    · by_cases ej : j = i + 1
      · subst ej; rw [pL_e]; rfl
      · rw [pL_f ej]; exact h j (by omega)
  · refine ⟨fr_L (fr_pI (Or.inl rfl)) (Or.inr rfl), ?_, ?_, fun j hj => ?_⟩
    · exact funext fun g => pL_c (by decide)
    · rw [pL_I, pI_e]; rfl
    · have : j = 0 := by omega
      subst this
      rw [qIx_0, pL_e]; rfl
theorem c_turned {V b : Nat} (hd : 1 ≤ d) (hX : rX w N K T Z) (hV : V < 2 ^ 60) (hb : b < N 2 0) (hQ : QL (lN (V * 2 ^ b ||| V / 2 ^ (N 2 0 - b))) w) : qCall (some s) d 125 [.ref 53, .long (lN V), .int (nI b)] w (qQl QL) := by
  obtain ⟨d, rfl, hd1⟩ := dS hd
  have oc := hX.okn.clk
  refine A_Meetings_turned ?_
  rw [hX.n.clk, nI_sub' (by omega), qLshl_lN (by omega), qLushr_lN (by omega) (by omega), lN_or]
  exact hQ
theorem c_countOpen {x ap last : Nat} {op : Nat → Bool} (hd : 2 ≤ d) (hX : rX w N K T Z) (hl : lcl w (N 2 0) ap) (hx : x < 2 ^ 62) (hap : 1 ≤ ap) (hap2 : ap < 2 ^ 62) (hla : last < 2 ^ 50) (hQ : QL (lN (cnt (fun j => op ((x + j * ap) % N 2 0)) (if x ≤ last then (last - x) / ap + 1 else 0))) w) : qCall (some s) d 124 [.ref 53, .long (lN x), .long (lN ap), .long (lN last), .long (lN (bitsOf op (N 2 0)))] w (qQl QL) := by
  obtain ⟨d, rfl, hd1⟩ := dS hd
  have r := hX.n
  have oc := hX.okn.clk
  have hr := rdF_pos (ap := ap) oc.1
  obtain ⟨e6, h54⟩ := hl
  have hm : x % N 2 0 < N 2 0 := Nat.mod_lt _ (by omega)
  have vb : ∀ i, clB (N 2 0) ap i < 2 ^ 60 := fun i => Nat.lt_of_lt_of_le (clB_lt oc.1 oc.2 i) (Nat.pow_le_pow_right (by decide) oc.2)
  have ob := bits60 op oc.2
  refine A_Meetings_countOpen ?_
  rw [lg_le, pk_lLE (by omega) (by omega)]
  refine ⟨fun g => ?_, fun g => ?_⟩
  · rw [if_pos g] at hQ
    have hdv : (last - x) / ap ≤ last - x := Nat.div_le_self _ _
    generalize hH : (last - x) / ap + 1 = H at *
    have hHm : H % rdF (N 2 0) ap < rdF (N 2 0) ap := Nat.mod_lt _ (by omega)
    have hHd : H / rdF (N 2 0) ap ≤ H := Nat.div_le_self _ _
    have eH : (lN last - lN x) / lN ap + (1 : Int64) = lN H := by
      rw [lN_sub g, lN_div' (by omega) (by omega) (by omega), show (1 : Int64) = lN 1 from rfl, lN_add, hH]
    rw [eH, r.clk, e6, nI_l (by omega), qRemL_lN (by omega) (by omega) (by omega), lN_i, qIx_nI (by omega), h54 _ (Nat.le_refl _), eqL0 (by omega), eqL0 (by omega)]
    refine ⟨by omega, by omega, qIn_nI (by omega) (by decide), c_turned (by omega) hX (vb _) hm ?_⟩
    rw [e6, nI_l (by omega), qRemL_lN (by omega) (by omega) (by omega), lN_i, qIx_nI (by omega), h54 _ (by omega), eqL0 (by omega)]
    refine ⟨by omega, qIn_nI (by omega) (by decide), c_turned (by omega) hX (vb _) hm ?_⟩
    rw [e6, nI_l (by omega), lN_and, lN_and, lN_div' (by omega) (by omega) (by omega), eqL0 (by omega)]
    refine ⟨by omega, c_bitCountL (by omega) (Nat.lt_of_le_of_lt Nat.and_le_left (by omega)) (c_bitCountL (by omega) (Nat.lt_of_le_of_lt Nat.and_le_left (by omega)) ?_)⟩
    rw [pop_row oc.1 oc.2 _ (Nat.le_refl _), pop_row oc.1 oc.2 _ (by omega)]
    have c1 := cnt_le (fun j => op ((x + j * ap) % N 2 0)) (rdF (N 2 0) ap)
    have c2 := cnt_le (fun j => op ((x + j * ap) % N 2 0)) (H % rdF (N 2 0) ap)
    rw [nI_l (by omega), nI_l (by omega), lN_mul, lN_add]
    have per : ∀ i, (fun j => op ((x + j * ap) % N 2 0)) (i + rdF (N 2 0) ap) = (fun j => op ((x + j * ap) % N 2 0)) i := by
      intro i
      show op ((x + (i + rdF (N 2 0) ap) * ap) % N 2 0) = op ((x + i * ap) % N 2 0)
      rw [Nat.add_mul, ← Nat.add_assoc, rdF_per]
    have cp := cnt_per (f := fun j => op ((x + j * ap) % N 2 0)) per (H / rdF (N 2 0) ap) (H % rdF (N 2 0) ap)
    rw [Nat.div_add_mod] at cp
    rw [cp] at hQ
    exact hQ
  · rw [if_neg g] at hQ
    exact hQ
end Count
