/-! apart: the class's search. -/
section ApartC3
variable {s : Nat × (Nat → Int32)} {d : Nat} {w : qW} {Q : Int32 → qW → Prop} {R : qW → Prop} {N S K : vS} {T : Nat → vT} {Z : vZ}
theorem dv_mod {g v x : Nat} : ((g : Int) ∣ (v : Int) - (x : Int)) ↔ v % g = x % g := by
  rw [Int.dvd_iff_emod_eq_zero, ← Int.emod_eq_emod_iff_emod_sub_eq_zero]
  omega
/-- v for the one at k is apart from the first i -/
def cnp (n : Nat → Nat) (k i v : Nat) (x : Nat → Nat) : Bool := (List.range i).all fun j => !decide (((Nat.gcd (n k) (n j) : Nat) : Int) ∣ (v : Int) - (x j : Int))
theorem cnp_t {n : Nat → Nat} {k i v : Nat} {x : Nat → Nat} : cnp n k i v x = true ↔ ∀ j, j < i → ¬ ((Nat.gcd (n k) (n j) : Nat) : Int) ∣ (v : Int) - (x j : Int) := by
  unfold cnp
  rw [List.all_eq_true]
  refine ⟨fun h j hj q => ?_, fun h j hj => ?_⟩
  · have := h j (List.mem_range.mpr hj)
    rw [decide_eq_true q] at this
    exact Bool.noConfusion this
  · rw [decide_eq_false (h j (List.mem_range.mp hj))]; rfl
theorem cnp_c (n : Nat → Nat) (i v : Nat) (x : Nat → Nat) : cnp n i i v x = cns n i v x := rfl
theorem cnp_s {n : Nat → Nat} {k i v u : Nat} {x : Nat → Nat} : cnp n k (i + 1) v (upx x i u) = (cnp n k i v x && !decide (((Nat.gcd (n k) (n i) : Nat) : Int) ∣ (v : Int) - (u : Int))) := by
  rw [Bool.eq_iff_iff, Bool.and_eq_true, cnp_t, cnp_t, Bool.not_eq_true', decide_eq_false_iff_not]
  refine ⟨fun h => ⟨fun j hj => ?_, ?_⟩, fun h j hj => ?_⟩
  · have := h j (by omega)
    unfold upx at this
    rw [if_neg (by omega)] at this
    exact this
  · have := h i (by omega)
    unfold upx at this
    rw [if_pos rfl] at this
    exact this
  · unfold upx
    by_cases e : j = i
    · rw [if_pos e]; subst e; exact h.2
    · rw [if_neg e]; exact h.1 j (by omega)
/-- where there is an answer, everyone behind has a choice -/
theorem fnd_ex {n B : Nat → Nat} {p : Nat} : ∀ f i (x y : Nat → Nat), i + f = p → fnd n B f i x = some y → ∀ k, i ≤ k → k < p → ∃ v, v < B k ∧ cnp n k i v x = true
  | 0, i, x, y, hp, _, k, h1, h2 => by omega
  | f + 1, i, x, y, hp, h, k, h1, h2 => by
    rw [fnd_s] at h
    obtain ⟨v, hv, e⟩ := List.exists_of_findSome?_eq_some h
    unfold fnG at e
    by_cases c : cns n i v x = true
    · rw [if_pos c] at e
      by_cases ek : k = i
      · subst ek
        exact ⟨v, List.mem_range.mp hv, c⟩
      · obtain ⟨u, hu, cu⟩ := fnd_ex f (i + 1) (upx x i v) y (by omega) e k (by omega) h2
        rw [cnp_s, Bool.and_eq_true] at cu
        exact ⟨u, hu, cu.1⟩
    · rw [if_neg c] at e; cases e
theorem fnd_cg {n B B' : Nat → Nat} (h : ∀ i, 1 ≤ i → B i = B' i) : ∀ f i (x : Nat → Nat), 1 ≤ i → fnd n B f i x = fnd n B' f i x
  | 0, _, _, _ => rfl
  | f + 1, i, x, hi => by
    rw [fnd_s, fnd_s, h i hi]
    congr 1
    funext v
    unfold fnG
    rw [fnd_cg h f (i + 1) _ (by omega)]
/-- what the search rests on -/
def apX (w : qW) (p : Nat) (mb : Nat → Nat) (n : Nat → Nat) : Prop := (1 ≤ p ∧ p ≤ 5) ∧ (w.1 61 1 = nI p) ∧ (∀ i, i < p → w.1 62 i = nI (mb i) ∧ mb i < 12) ∧ (∀ i, i < p → w.1 3 (mb i) = nI (n i) ∧ 1 ≤ n i ∧ n i ≤ 60)
theorem apX.p1 {w : qW} {p : Nat} {mb : Nat → Nat} {n : Nat → Nat} (h : apX w p mb n) : 1 ≤ p ∧ p ≤ 5 := h.1
theorem apX.par {w : qW} {p : Nat} {mb : Nat → Nat} {n : Nat → Nat} (h : apX w p mb n) : w.1 61 1 = nI p := h.2.1
theorem apX.mem {w : qW} {p : Nat} {mb : Nat → Nat} {n : Nat → Nat} (h : apX w p mb n) : ∀ i, i < p → w.1 62 i = nI (mb i) ∧ mb i < 12 := h.2.2.1
theorem apX.num {w : qW} {p : Nat} {mb : Nat → Nat} {n : Nat → Nat} (h : apX w p mb n) : ∀ i, i < p → w.1 3 (mb i) = nI (n i) ∧ 1 ≤ n i ∧ n i ≤ 60 := h.2.2.2
theorem apX.mk {w : qW} {p : Nat} {mb : Nat → Nat} {n : Nat → Nat} (f_p1 : 1 ≤ p ∧ p ≤ 5) (f_par : w.1 61 1 = nI p) (f_mem : ∀ i, i < p → w.1 62 i = nI (mb i) ∧ mb i < 12) (f_num : ∀ i, i < p → w.1 3 (mb i) = nI (n i) ∧ 1 ≤ n i ∧ n i ≤ 60) : apX w p mb n := ⟨f_p1, f_par, f_mem, f_num⟩
theorem apX.fr {w' : qW} {p : Nat} {mb n : Nat → Nat} (h : apX w p mb n) (f : fr (fun c => c = 63 ∨ c = 64) w w') : apX w' p mb n := by
  refine apX.mk h.p1 ?_ (fun i hi => ?_) (fun i hi => ?_)
  · rw [(f 61 (by omega)).1]; exact h.par
  · rw [(f 62 (by omega)).1]; exact h.mem i hi
  · rw [(f 3 (by omega)).1]; exact h.num i hi
/-- the choices that the first i leave to k -/
def apB (n B : Nat → Nat) (x : Nat → Nat) (i k : Nat) : Nat := bitsOf (fun v => decide (v < B k) && cnp n k i v x) 60
theorem apB_bit {n B x : Nat → Nat} {i k v : Nat} (hv : v < 60) : (apB n B x i k).testBit v = (decide (v < B k) && cnp n k i v x) := by
  unfold apB
  rw [bitsOf_bit, decide_eq_true hv, Bool.true_and]
theorem apB_lt (n B x : Nat → Nat) (i k : Nat) : apB n B x i k < 2 ^ 60 := bitsOf_lt _ _
theorem apB_z {n B x : Nat → Nat} {i k : Nat} (hB : B k ≤ 60) : apB n B x i k = 0 ↔ ¬ ∃ v, v < B k ∧ cnp n k i v x = true := by
  constructor
  · intro h ⟨v, hv, c⟩
    have := apB_bit (n := n) (B := B) (x := x) (i := i) (k := k) (v := v) (by omega)
    rw [h, Nat.zero_testBit, decide_eq_true hv, c] at this
    exact Bool.noConfusion this
  · intro h
    apply Nat.eq_of_testBit_eq
    intro v
    rw [Nat.zero_testBit]
    by_cases hv : v < 60
    · rw [apB_bit hv]
      by_cases hb : v < B k
      · cases e : cnp n k i v x with
        | false => rw [Bool.and_false]
        | true => exact absurd ⟨v, hb, e⟩ h
      · rw [decide_eq_false hb, Bool.false_and]
    · unfold apB
      rw [bitsOf_bit, decide_eq_false hv, Bool.false_and]
theorem lg0 {c : Nat} (h : c < 2 ^ 63) : (lg_cmp (lN c) (0 : Int64) = 0) ↔ c = 0 := by
  rw [lg_eq, show (0 : Int64) = lN 0 from rfl, pk_lEQ (by omega) (by omega)]
theorem c_leave_in {p i k u : Nat} {g : Nat} {F : Nat → Bool} (hd : 1 ≤ d) (g1 : 1 ≤ g) (g2 : g ≤ 60) (hfin : ∀ j, 60 ≤ j → j < 200 → qAt s d c_Searches_leavesChoices (qQi Q) 74 [some (.ref 61), some (.int (nI i)), some (.int (nI k)), some (.int (nI g)), some (.long (lN (bitsOf (fun v => F v && !decide (v % g = u % g)) 60))), none, some (.int (nI j))] [] w) : ∀ t j, 60 ≤ j + t → j < 120 → j % g = u % g → qAt s d c_Searches_leavesChoices (qQi Q) 74 [some (.ref 61), some (.int (nI i)), some (.int (nI k)), some (.int (nI g)), some (.long (lN (bitsOf (fun v => F v && !decide (v % g = u % g ∧ v < j)) 60))), none, some (.int (nI j))] [] w
  | t, j, ht, hj, hm => by
    have endc : 60 ≤ j → bitsOf (fun v => F v && !decide (v % g = u % g ∧ v < j)) 60 = bitsOf (fun v => F v && !decide (v % g = u % g)) 60 := fun h => bitsOf_congr fun v hv => by
      have : (v % g = u % g ∧ v < j) ↔ v % g = u % g := ⟨fun q => q.1, fun q => ⟨q, by omega⟩⟩
      rw [decide_eq_decide.mpr this]
    rcases Nat.lt_or_ge j 60 with h | h
    · refine A_Searches_leavesChoices_74 ⟨fun q => ?_, fun _ => ?_⟩
      · rw [show (60 : Int32) = nI 60 from rfl, nI_leI (by omega) (by omega)] at q; omega
      · refine c_max (a := 1) (b := g) hd (by omega) (by omega) ?_
        rw [show (1 : Int64) = lN 1 from rfl, qLshl_lN (by omega), Nat.one_mul, lN_andn, nI_add, Nat.max_eq_right g1, andn_bitsOf]
        match t, ht with
        | 0, ht => omega
        | t + 1, ht =>
          have r := c_leave_in (p := p) hd g1 g2 hfin t (j + g) (by omega) (by omega) (by rw [Nat.add_mod_right]; exact hm)
          have e : bitsOf (fun c => (F c && !decide (c % g = u % g ∧ c < j)) && !decide (c = j)) 60 = bitsOf (fun v => F v && !decide (v % g = u % g ∧ v < j + g)) 60 := bitsOf_congr fun v hv => by
            rw [Bool.and_assoc]
            congr 1
            rw [← Bool.not_or, Bool.eq_iff_iff, Bool.not_eq_true', Bool.not_eq_true', Bool.or_eq_false_iff, decide_eq_false_iff_not, decide_eq_false_iff_not, decide_eq_false_iff_not]
            constructor
            · intro ⟨a, b⟩ ⟨c1, c2⟩
              by_cases q : v < j
              · exact a ⟨c1, q⟩
              · have : v - j < g := by omega
                have m : (v - j) % g = 0 := by
                  have h1 : (v - j + j) % g = j % g := by rw [Nat.sub_add_cancel (by omega), c1, hm]
                  have h2 := Nat.sub_mod_eq_zero_of_mod_eq h1
                  rw [Nat.add_sub_cancel] at h2
                  exact h2
                rw [Nat.mod_eq_of_lt this] at m
                omega
            · intro a
              refine ⟨fun q => a ⟨q.1, by omega⟩, fun q => a ⟨by rw [q]; exact hm, by omega⟩⟩
          rw [e]; exact r
    · rw [endc h]
      exact hfin j h (by omega)
theorem c_leaves {p i u : Nat} {mb n B x : Nat → Nat} (hd : 2 ≤ d) (hX : apX w p mb n) (hi : i < p) (hu : w.1 63 i = nI u) (hu6 : u < 60) (hB : ∀ k, k < p → B k ≤ 60) (hc : ∀ k, i < k → k < p → w.2.1 64 (5 * i + k) = lN (apB n B x i k))
    (hy : ∀ w', fr (fun c => c = 64) w w' → (∀ q, q < 5 * (i + 1) → w'.2.1 64 q = w.2.1 64 q) → (∀ k, i < k → k < p → w'.2.1 64 (5 * (i + 1) + k) = lN (apB n B (upx x i u) (i + 1) k)) → Q 1 w')
    (hn : ∀ w', fr (fun c => c = 64) w w' → (∀ q, q < 5 * (i + 1) → w'.2.1 64 q = w.2.1 64 q) → (∃ k, i < k ∧ k < p ∧ ¬ ∃ v, v < B k ∧ cnp n k (i + 1) v (upx x i u) = true) → Q 0 w') : qCall (some s) d 176 [.ref 61, .int (nI i)] w (qQi Q) := by
  obtain ⟨d, rfl, hd1⟩ := dS hd
  have p5 := hX.p1
  refine A_Searches_leavesChoices ?_
  rw [nI_1]
  refine lpU (i := i + 1) (n := p) (I := fun k w' => i < k ∧ fr (fun c => c = 64) w w' ∧ (∀ q, q < 5 * (i + 1) → w'.2.1 64 q = w.2.1 64 q) ∧ ∀ j, i < j → j < k → w'.2.1 64 (5 * (i + 1) + j) = lN (apB n B (upx x i u) (i + 1) j)) (P := fun k w' => qAt s d c_Searches_leavesChoices (qQi Q) 4 [some (.ref 61), some (.int (nI i)), some (.int (nI k)), none, none, none, none] [] w') ?_ ?_ hi ⟨Nat.lt_succ_self _, fr_rf _ _, fun _ _ => rfl, fun j h1 h2 => by omega⟩
  · intro w1 ⟨_, f1, l1, r1⟩
    have h1 := hX.fr (fr_wk f1 (fun c hc => Or.inr hc))
    refine A_Searches_leavesChoices_4 ?_
    rw [h1.par]
    exact ⟨fun _ => hy w1 f1 l1 r1, fun g => absurd (Int32.le_refl _) g⟩
  · intro k w1 hk ⟨ik, f1, l1, r1⟩ nxt
    have h1 := hX.fr (fr_wk f1 (fun c hc => Or.inr hc))
    have mi := h1.mem i hi
    have mk := h1.mem k hk
    have ni := h1.num i hi
    have nk := h1.num k hk
    have gb := gcd_b ni.2.1 nk.2.1 (by omega)
    have gl : Nat.gcd (n i) (n k) ≤ n i := Nat.gcd_le_left _ ni.2.1
    refine A_Searches_leavesChoices_4 ?_
    rw [h1.par, nI_leI (by omega) (by omega), show (5 : Int32) = nI 5 from rfl, nI_leI (by omega) (by omega), qIx_nI (by omega), qIx_nI (by omega), mi.1, mk.1, qIx_nI (by omega), qIx_nI (by omega), ni.1, nk.1, nI_l (by omega), nI_l (by omega), nI_mul', nI_add, qIx_nI (by omega)]
    refine ⟨fun g => by omega, fun _ => ⟨fun g => by omega, fun _ => ⟨qIn_nI (by omega) (by decide), qIn_nI (by omega) (by decide), qIn_nI (by omega) (by decide), qIn_nI (by omega) (by decide), c_gcd hd1 (by omega) (by omega) ?_⟩⟩⟩
    rw [lN_i, eq0 (by omega), show w1.1 63 i = nI u from by rw [(f1 63 (by omega)).1]; exact hu, qRem_nI (by omega) (by omega) (by omega), l1 _ (by omega), hc k ik hk]
    refine ⟨qIn_nI (by omega) (by decide), qIn_nI (by omega) (by decide), by omega, ?_⟩
    have eB : apB n B (upx x i u) (i + 1) k = bitsOf (fun v => (decide (v < B k) && cnp n k i v x) && !decide (v % Nat.gcd (n i) (n k) = u % Nat.gcd (n i) (n k))) 60 := by
      unfold apB
      refine bitsOf_congr fun v _ => ?_
      rw [cnp_s, Bool.and_assoc, Nat.gcd_comm (n k) (n i), decide_eq_decide.mpr dv_mod]
    have r := c_leave_in (s := s) (w := w1) (Q := Q) (p := p) (i := i) (k := k) (u := u) (g := Nat.gcd (n i) (n k)) (F := fun v => decide (v < B k) && cnp n k i v x) hd1 gb.1 (by omega) ?_ 60 (u % Nat.gcd (n i) (n k)) (by omega) (by have := Nat.mod_lt u gb.1; omega) (Nat.mod_mod _ _)
    · have e0 : apB n B x i k = bitsOf (fun v => (decide (v < B k) && cnp n k i v x) && !decide (v % Nat.gcd (n i) (n k) = u % Nat.gcd (n i) (n k) ∧ v < u % Nat.gcd (n i) (n k))) 60 := by
        unfold apB
        refine bitsOf_congr fun v _ => ?_
        rw [decide_eq_false (p := _ ∧ _) (fun q => ?_)]
        · rw [Bool.not_false, Bool.and_true]
        · have := Nat.mod_le v (Nat.gcd (n i) (n k))
          omega
      rw [e0]; exact r
    · intro j h6 h20
      rw [← eB]
      refine A_Searches_leavesChoices_74 ⟨fun _ => ?_, fun q => ?_⟩
      · rw [lg0 (Nat.lt_trans (apB_lt _ _ _ _ _) (by decide)), apB_z (hB k hk), nI_1, nI_1, show (5 : Int32) = nI 5 from rfl, nI_mul', nI_add, qIx_nI (by omega)]
        refine ⟨fun _ => ⟨qIn_nI (by omega) (by decide), nxt _ ⟨by omega, fr_L f1 rfl, fun q hq => ?_, fun j' g1 g2 => ?_⟩⟩, fun g => hn w1 f1 l1 ⟨k, ik, hk, g⟩⟩
        · rw [pL_f (by omega)]; exact l1 q hq
        · by_cases e : j' = k
          · subst e; rw [pL_e]
          · rw [pL_f (by omega)]; exact r1 j' g1 (by omega)
      · rw [show (60 : Int32) = nI 60 from rfl, nI_leI (by omega) (by omega)] at q; omega
theorem c_place {p : Nat} {mb n B : Nat → Nat} (hB : ∀ k, k < p → B k ≤ 60) : ∀ f i x d w, i + f = p → f + 3 ≤ d → apX w p mb n → (∀ j, j < i → w.1 63 j = nI (x j)) → (∀ k, i ≤ k → k < p → w.2.1 64 (5 * i + k) = lN (apB n B x i k)) →
    (∀ y w', fnd n B f i x = some y → fr (fun c => c = 63 ∨ c = 64) w w' → (∀ j, j < p → w'.1 63 j = nI (y j)) → Q 1 w') →
    (∀ w', fnd n B f i x = none → fr (fun c => c = 63 ∨ c = 64) w w' → (∀ q, q < 5 * (i + 1) → w'.2.1 64 q = w.2.1 64 q) → (∀ j, j < i → w'.1 63 j = w.1 63 j) → Q 0 w') →
    qCall (some s) d 175 [.ref 61, .int (nI i)] w (qQi Q) := by
  intro f
  induction f generalizing Q with
  | zero =>
    intro i x d w hp hd hX hx hc hy hn
    obtain ⟨d, rfl, hd1⟩ := dS hd
    have e : i = p := by omega
    subst e
    refine A_Searches_place ?_
    rw [hX.par]
    exact ⟨fun _ => hy x w rfl (fr_rf _ _) hx, fun g => absurd (Int32.le_refl _) g⟩
  | succ f ih =>
    intro i x d w hp hd hX hx hc hy hn
    obtain ⟨d, rfl, hd1⟩ := dS hd
    have p5 := hX.p1
    have Bi := hB i (by omega)
    refine A_Searches_place ?_
    rw [hX.par, nI_leI (by omega) (by omega), show (5 : Int32) = nI 5 from rfl, nI_ltI (by omega) (by omega), nI_mul', nI_add, qIx_nI (by omega), hc i (Nat.le_refl _) (by omega)]
    refine ⟨fun g => by omega, fun _ => ⟨fun _ => ⟨qIn_nI (by omega) (by decide), ?_⟩, fun g => absurd (by omega) g⟩⟩
    refine lpU (i := 0) (n := 60) (I := fun v w' => fr (fun c => c = 63 ∨ c = 64) w w' ∧ (∀ q, q < 5 * (i + 1) → w'.2.1 64 q = w.2.1 64 q) ∧ (∀ j, j < i → w'.1 63 j = w.1 63 j) ∧ ∀ u, u < v → u < B i → fnG n B f i x u = none) (P := fun v w' => qAt s d c_Searches_place (qQi Q) 29 [some (.ref 61), some (.int (nI i)), some (.long (lN (apB n B x i i))), none, some (.int (nI v))] [] w') ?_ ?_ (Nat.zero_le _) ⟨fr_rf _ _, fun _ _ => rfl, fun _ _ => rfl, fun u hu => absurd hu (Nat.not_lt_zero _)⟩
    · intro w1 ⟨f1, l1, x1, n1⟩
      refine A_Searches_place_29 ⟨fun _ => hn w1 ?_ f1 l1 x1, fun g => absurd (by decide) g⟩
      rw [fnd_s]
      exact fso_none (fun u hu => n1 u (by omega) hu)
    · intro v w1 hv ⟨f1, l1, x1, n1⟩ nxt
      have hb := apB_bit (n := n) (B := B) (x := x) (i := i) (k := i) hv
      rw [cnp_c] at hb
      refine A_Searches_place_29 ?_
      rw [show (60 : Int32) = nI 60 from rfl, nI_leI (by omega) (by omega), qLbit (Nat.lt_trans (apB_lt _ _ _ _ _) (by decide)) (by omega), hb, nI_1 v, qIx_nI (by omega)]
      have more : ∀ w', fr (fun c => c = 63 ∨ c = 64) w w' → (∀ q, q < 5 * (i + 1) → w'.2.1 64 q = w.2.1 64 q) → (∀ j, j < i → w'.1 63 j = w.1 63 j) → (v < B i → fnG n B f i x v = none) → qAt s d c_Searches_place (qQi Q) 29 [some (.ref 61), some (.int (nI i)), some (.long (lN (apB n B x i i))), none, some (.int (nI (v + 1)))] [] w' := by
        intro w' g1 g2 g3 g4
        refine nxt w' ⟨g1, g2, g3, fun u hu hb2 => ?_⟩
        by_cases e : u = v
        · subst e; exact g4 hb2
        · exact n1 u (by omega) hb2
      refine ⟨fun g => by omega, fun _ => ⟨fun g => more w1 f1 l1 x1 (fun q => ?_), fun g => ⟨qIn_nI (by omega) (by decide), ?_⟩⟩⟩
      · rw [decide_eq_true q, Bool.true_and] at g
        unfold fnG
        rw [if_neg (by rw [g]; exact fun q => Bool.noConfusion q)]
      · have g2 : v < B i ∧ cns n i v x = true := by
          rw [Bool.not_eq_false, Bool.and_eq_true, decide_eq_true_eq] at g
          exact g
        have ge : fnG n B f i x v = fnd n B f (i + 1) (upx x i v) := by
          unfold fnG
          rw [if_pos g2.2]
        have f2 : fr (fun c => c = 63 ∨ c = 64) w (qPutI w1 63 i (nI v)) := fr_I f1 (Or.inl rfl)
        refine c_leaves (p := p) (u := v) (B := B) (x := x) (by omega) (hX.fr f2) (by omega) (by rw [pI_e]) (by omega) hB (fun k h1 h2 => ?_) (fun w3 f3 l3 r3 => ?_) (fun w3 f3 l3 r3 => b0 ?_)
        · show w1.2.1 64 (5 * i + k) = _
          rw [l1 _ (by omega)]
          exact hc k (by omega) h2
        · have f4 : fr (fun c => c = 63 ∨ c = 64) w w3 := fr_tr f2 (fr_wk f3 (fun c hc => Or.inr hc))
          have x3 : ∀ j, j < i → w3.1 63 j = w.1 63 j := fun j hj => by rw [(f3 63 (by omega)).1, pI_f (by omega)]; exact x1 j hj
          have l4 : ∀ q, q < 5 * (i + 1) → w3.2.1 64 q = w.2.1 64 q := fun q hq => (l3 q hq).trans (l1 q hq)
          refine b1 ?_
          rw [nI_1 i]
          refine ih (i + 1) (upx x i v) d w3 (by omega) (by omega) (hX.fr f4) (fun j hj => ?_) (fun k h1 h2 => r3 k (by omega) h2) ?_ ?_
          rotate_left
          · intro y w5 ey f5 r5
            refine b1 (hy y w5 ?_ (fr_tr f4 f5) r5)
            rw [fnd_s]
            exact fso_some (v := v) g2.1 (fun u hu => n1 u hu (by omega)) (by rw [ge]; exact ey)
          · intro w5 ey f5 l5 x5
            exact b0 (more w5 (fr_tr f4 f5) (fun q hq => (l5 q (by omega)).trans (l4 q hq)) (fun j hj => (x5 j (by omega)).trans (x3 j hj)) (fun _ => by rw [ge]; exact ey))
          · unfold upx
            by_cases e : j = i
            · rw [if_pos e, e, (f3 63 (by omega)).1, pI_e]
            · rw [if_neg e, x3 j (by omega)]; exact hx j (by omega)
        · refine more w3 (fr_tr f2 (fr_wk f3 (fun c hc => Or.inr hc))) (fun q hq => (l3 q hq).trans (l1 q hq)) (fun j hj => by rw [(f3 63 (by omega)).1, pI_f (by omega)]; exact x1 j hj) (fun _ => ?_)
          rw [ge]
          obtain ⟨k, k1, k2, k3⟩ := r3
          cases e : fnd n B f (i + 1) (upx x i v) with
          | none => rfl
          | some y => exact absurd (fnd_ex f (i + 1) _ y (by omega) e k (by omega) k2) k3
end ApartC3
