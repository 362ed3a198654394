/-! cover: the reference. -/
section CoverM
variable {s : Nat × (Nat → Int32)} {d : Nat} {w : qW} {Q : Int32 → qW → Prop} {R : qW → Prop} {N S K : vS} {T : Nat → vT} {Z : vZ}
theorem cntB_P {n P : Nat} (hP : P ≤ 12) (hn : n < 2 ^ P) (h1 : 1 ≤ n) : 1 ≤ cntB n ∧ cntB n ≤ P := by
  have hp := p12 hP
  have h := all4096 (p := fun n => (List.range 13).all (fun P => decide (2 ^ P ≤ n) || decide (n = 0) || (decide (1 ≤ cntB n) && decide (cntB n ≤ P)))) (by decide +kernel) (n := n) (by omega)
  have h2 := List.all_eq_true.mp h P (List.mem_range.mpr (by omega))
  simp only [Bool.or_eq_true, Bool.and_eq_true, decide_eq_true_eq] at h2
  omega
theorem m_roundOf (hd : 2 ≤ d) (hX : rM w N K T Z) (hT : tkA w T N) (hQ : ∀ x, (cvH N ≤ 5040 → x = nI (cvH N)) → (x ≤ (5040 : Int32) ↔ cvH N ≤ 5040) → Q x w) : qCall (some s) d 307 [.ref 72] w (qQi Q) := by
  obtain ⟨d, rfl, hd1⟩ := dS hd
  have r := hX.n
  have o := hX.okn
  have o0 := o.p12
  have o1 := o.day
  have o2 := o.clk
  refine A_Mo_roundOf ⟨qIn_nI (j := 2) (by decide) (by decide), qIn_nI (j := 1) (by decide) (by decide), ?_⟩
  rw [show qIx (1 : Int32) = 1 from rfl, show qIx (2 : Int32) = 2 from rfl, r.day, r.clk, show (0 : Int32) = nI 0 from rfl, nI_leI (by omega) (by omega), nI_l (by omega)]
  have c1 : ∀ a : Nat, a < 2 ^ 31 → ((lg_cmp (lN a) (5040 : Int64) ≤ 0) ↔ a ≤ 5040) := fun a ha => by
    rw [show (5040 : Int64) = lN 5040 from rfl, lg_le, pk_lLE (by omega) (by omega)]
  have c2 : ∀ a : Nat, a < 2 ^ 31 → ((0 < lg_cmp (lN a) (5040 : Int64)) ↔ 5040 < a) := fun a ha => by
    rw [show (5040 : Int64) = lN 5040 from rfl, lg_gt, pk_lLT (by omega) (by omega)]
  refine ⟨fun g => ?_, fun g => ?_⟩
  · have eH : cvH N = cvR N (N 0 0) := by unfold cvH; rw [if_pos (by omega)]
    rw [eH] at hQ
    have fin : ∀ a, a = cvR N (N 0 0) → ((lg_cmp (lN a) (5040 : Int64) ≤ 0) → Q (Int64.toInt32 (lN a)) w) ∧ (¬ (lg_cmp (lN a) (5040 : Int64) ≤ 0) → Q (5041 : Int32) w) := by
      intro a e
      have b := cvR_b o (k := N 0 0) (Nat.le_refl _)
      rw [c1 a (by omega), lN_i]
      refine ⟨fun q => hQ _ (fun _ => by rw [e]) ?_, fun q => hQ _ (fun q2 => by omega) ⟨fun q2 => absurd q2 (by decide), fun q2 => by omega⟩⟩
      rw [show (5040 : Int32) = nI 5040 from rfl, nI_leI (by omega) (by omega), e]
    refine lpN (i := 0) (n := N 0 0) (P := fun k => qAt s d c_Mo_roundOf (qQi Q) 42 [some (.ref 72), some (.long (lN (cvR N k))), none, some (.int (nI k))] [] w) ?_ ?_ (Nat.zero_le _)
    · refine A_Mo_roundOf_42 ⟨qIn_nI (j := 0) (by decide) (by decide), ?_⟩
      rw [qIx_0, r.ppl, nI_leI (by omega) (by omega)]
      exact ⟨fun _ => fin _ rfl, fun g => absurd (Nat.le_refl _) g⟩
    · intro k hk ih
      have b := cvR_b o (k := k) (by omega)
      have on := o.num k hk
      have gp : 1 ≤ Nat.gcd (cvR N k) (N 10 k) := Nat.gcd_pos_of_pos_left _ b.1
      have gl : Nat.gcd (cvR N k) (N 10 k) ≤ cvR N k := Nat.gcd_le_left _ b.1
      refine A_Mo_roundOf_42 ⟨qIn_nI (j := 0) (by decide) (by decide), ?_⟩
      rw [qIx_0, r.ppl, nI_leI (by omega) (by omega), qIx_nI (by omega), (hT k hk).num, nI_l (by omega), c2 _ (by omega), nI_1 k]
      refine ⟨fun g => by omega, fun _ => ⟨fun g => ?_, fun g => ⟨qIn_nI (by omega) (by decide), m_common (by omega) (by omega) (by omega) ⟨?_, qIn_nI (by omega) (by decide), ?_⟩⟩⟩⟩
      · have e := cvR_far g (j := N 0 0 - k)
        rw [show k + (N 0 0 - k) = N 0 0 by omega] at e
        exact fin _ e.symm
      · rw [eqL0 (by omega)]; omega
      · have e : cvR N (k + 1) = Nat.lcm (cvR N k) (N 10 k) := by
          show (if 5040 < cvR N k then _ else _) = _
          rw [if_neg g]
        rw [(hT k hk).num, nI_l (by omega), lN_div' (by omega) (by omega) (by omega), lN_mul, lcm_e, ← e]
        exact ih
  · have eH : cvH N = Nat.lcm (N 1 0) (N 2 0) := by unfold cvH; rw [if_neg (by omega)]
    have gp : 1 ≤ Nat.gcd (N 2 0) (N 1 0) := Nat.gcd_pos_of_pos_left _ (by omega)
    have gl : Nat.gcd (N 2 0) (N 1 0) ≤ N 2 0 := Nat.gcd_le_left _ (by omega)
    have h1 := lcm_le (a := N 1 0) (b := N 2 0)
    have h2 : N 1 0 * N 2 0 ≤ 999 * 60 := Nat.mul_le_mul (by omega) (by omega)
    rw [nI_l (by omega)]
    refine ⟨qIn_nI (j := 1) (by decide) (by decide), m_common (by omega) (by omega) (by omega) ⟨?_, qIn_nI (j := 1) (by decide) (by decide), ?_⟩⟩
    · rw [eqL0 (by omega)]; omega
    · rw [r.day, nI_l (by omega), lN_div' (by omega) (by omega) (by omega), lN_mul, lcm_e, Nat.lcm_comm, ← eH, lN_i]
      refine hQ _ (fun _ => rfl) ?_
      rw [show (5040 : Int32) = nI 5040 from rfl, nI_leI (by omega) (by omega)]
theorem m_covers {n i : Nat} (hd : 1 ≤ d) (hX : rM w N K T Z) (hi : i < 4096) (hs : ∀ m, m < 4096 → (¬ w.1 93 m = 0 ↔ ∃ j, j < n ∧ spkM T N (10000 + j) = m)) (hy : cvG T N n i → Q 1 w) (hn : ¬ cvG T N n i → Q 0 w) : qCall (some s) d 308 [.ref 72, .int (nI i)] w (qQi Q) := by
  obtain ⟨d, rfl, hd1⟩ := dS hd
  have r := hX.n
  have o := hX.okn
  have o0 := o.p12
  have hp := p12 o0
  refine A_Mo_covers ?_
  refine lpN (i := 0) (n := 2 ^ N 0 0) (P := fun k => (∀ m, m < k → ¬ w.1 93 m = 0 → ¬ m &&& i = 0) → qAt s d c_Mo_covers (qQi Q) 2 [some (.ref 72), some (.int (nI i)), some (.int (nI k))] [] w) ?_ ?_ (Nat.zero_le _) (fun m hm => absurd hm (Nat.not_lt_zero _))
  · intro h
    refine A_Mo_covers_2 ⟨qIn_nI (j := 0) (by decide) (by decide), ?_⟩
    rw [qIx_0, r.ppl, qShl_P o0, nI_leI (by omega) (by omega)]
    refine ⟨fun _ => hy (fun j hj => ?_), fun g => absurd (Nat.le_refl _) g⟩
    have lt : spkM T N (10000 + j) < 2 ^ N 0 0 := bitsOf_lt _ _
    exact h _ lt ((hs _ (by omega)).mpr ⟨j, hj, rfl⟩)
  · intro k hk ih h
    refine A_Mo_covers_2 ⟨qIn_nI (j := 0) (by decide) (by decide), ?_⟩
    rw [qIx_0, r.ppl, qShl_P o0, nI_leI (by omega) (by omega), qIx_nI (by omega), nI_and, eq0 (Nat.lt_of_le_of_lt Nat.and_le_left (by omega)), nI_1]
    refine ⟨fun g => by omega, fun _ => ⟨qIn_nI (by omega) (by decide), fun g => ih (fun m hm g2 => ?_), fun g => ⟨fun g2 => ih (fun m hm g3 => ?_), fun g2 => hn (fun q => ?_)⟩⟩⟩
    · by_cases em : m = k
      · subst em; exact absurd g g2
      · exact h m (by omega) g2
    · by_cases em : m = k
      · subst em; exact g2
      · exact h m (by omega) g3
    · obtain ⟨j, hj, e⟩ := (hs k (by omega)).mp g
      exact q j hj (by rw [e]; exact g2)
theorem m_cover (hd : 6 ≤ d) (hX : rM w N K T Z) (hy : ∀ w' r, ¬ N 0 0 = 0 → fCv T N r → rM w' N K T Z → fr (fun c => 72 ≤ c) w w' → Q r w') (hn : N 0 0 = 0 → Q (-1) w) : qCall (some s) d 306 [.ref 72] w (qQi Q) := by
  obtain ⟨d, rfl, hd1⟩ := dS hd
  have r := hX.n
  have o := hX.okn
  have o0 := o.p12
  have hp := p12 o0
  refine A_Mo_cover ⟨qIn_nI (j := 0) (by decide) (by decide), ?_⟩
  rw [qIx_0, r.ppl, eq0 (by omega)]
  refine ⟨fun gp => ?_, hn⟩
  refine m_take' (by omega) hX (fun w1 f1 hX1 hT => m_roundOf (by omega) hX1 hT (fun x hx hx2 => ?_))
  have fw : ∀ w', fr (fun c => c = 93) w1 w' → fr (fun c => 72 ≤ c) w w' := fun w' f => fr_tr (fr_wk f1 (fun c hc => by omega)) (fr_wk f (fun c hc => by omega))
  have fX : ∀ w', fr (fun c => c = 93) w1 w' → rM w' N K T Z := fun w' f => hX1.keep f (fun c h1 h2 => by omega)
  have fT : ∀ w', fr (fun c => c = 93) w1 w' → tkA w' T N := fun w' f => tkA_fr hT f (fun c hc => by unfold takeA barA at hc; omega)
  rw [hx2]
  refine ⟨fun g => ?_, fun g => hy w1 _ gp (Or.inr ⟨g, rfl⟩) hX1 (fr_wk f1 (fun c hc => by omega))⟩
  rw [hx g]
  refine lpU (i := 0) (n := 4096) (I := fun k w' => fr (fun c => c = 93) w1 w' ∧ ∀ m, m < k → w'.1 93 m = 0) (P := fun k w' => qAt s d c_Mo_cover (qQi Q) 32 [some (.ref 72), some (.int (nI (cvH N))), some (.int (nI k)), none] [] w') ?_ ?_ (Nat.zero_le _) ⟨fr_rf _ _, fun m hm => absurd hm (Nat.not_lt_zero _)⟩
  · intro w2 ⟨f2, z2⟩
    refine A_Mo_cover_32 ⟨fun _ => ?_, fun q => absurd (by decide) q⟩
    refine lpU (i := 0) (n := cvH N) (I := fun k w' => fr (fun c => c = 93) w1 w' ∧ ∀ m, m < 4096 → (¬ w'.1 93 m = 0 ↔ ∃ j, j < k ∧ spkM T N (10000 + j) = m)) (P := fun k w' => qAt s d c_Mo_cover (qQi Q) 56 [some (.ref 72), some (.int (nI (cvH N))), some (.int (nI (10000 + k))), none] [] w') ?_ ?_ (Nat.zero_le _) ⟨f2, fun m hm => ⟨fun q => absurd (z2 m hm) q, fun ⟨j, hj, _⟩ => absurd hj (Nat.not_lt_zero _)⟩⟩
    · intro w3 ⟨f3, s3⟩
      refine A_Mo_cover_56 ?_
      rw [show (10000 : Int32) = nI 10000 from rfl, nI_add, nI_leI (by omega) (by omega)]
      refine ⟨fun _ => ?_, fun q => absurd (Nat.le_refl _) q⟩
      have hX3 := fX w3 f3
      have r3 := hX3.n
      refine lpN (i := 1) (n := N 0 0 + 1) (P := fun n => (∀ j, j < 2 ^ N 0 0 → 1 ≤ j → cvG T N (cvH N) j → n ≤ cntB j) → qAt s d c_Mo_cover (qQi Q) 85 [some (.ref 72), none, some (.int (nI n)), none] [] w3) ?_ ?_ (by omega) (fun j h1 h2 _ => (cntB_P o0 h1 h2).1)
      · intro h
        refine A_Mo_cover_85 ⟨qIn_nI (j := 0) (by decide) (by decide), ?_⟩
        rw [qIx_0, r3.ppl, nI_ltI (by omega) (by omega)]
        refine ⟨fun _ => hy w3 _ gp (Or.inl ⟨g, Or.inl ⟨rfl, fun j h1 h2 h3 => ?_⟩⟩) hX3 (fw w3 f3), fun q => absurd (by omega) q⟩
        have := h j h1 h2 h3
        have := (cntB_P o0 h1 h2).2
        omega
      · intro n hn ihn h
        refine A_Mo_cover_85 ⟨qIn_nI (j := 0) (by decide) (by decide), ?_⟩
        rw [qIx_0, r3.ppl, nI_ltI (by omega) (by omega)]
        refine ⟨fun q => by omega, fun _ => ?_⟩
        refine lpN (i := 1) (n := 2 ^ N 0 0) (P := fun i => 1 ≤ i → (∀ j, j < i → 1 ≤ j → cvG T N (cvH N) j → n < cntB j) → qAt s d c_Mo_cover (qQi Q) 97 [some (.ref 72), none, some (.int (nI n)), some (.int (nI i))] [] w3) ?_ ?_ hp.1 (Nat.le_refl _) (fun j h1 h2 => by omega)
        · intro _ h2
          refine A_Mo_cover_97 ⟨qIn_nI (j := 0) (by decide) (by decide), ?_⟩
          rw [qIx_0, r3.ppl, qShl_P o0, nI_leI (by omega) (by omega), nI_1 n]
          exact ⟨fun _ => ihn (fun j k1 k2 k3 => h2 j k1 k2 k3), fun q => absurd (Nat.le_refl _) q⟩
        · intro i hi ihi i1 h2
          have ci := cntB_le i
          refine A_Mo_cover_97 ⟨qIn_nI (j := 0) (by decide) (by decide), ?_⟩
          rw [qIx_0, r3.ppl, qShl_P o0, nI_leI (by omega) (by omega), nI_1 i]
          refine ⟨fun q => by omega, fun _ => m_size (by omega) (by omega) ?_⟩
          rw [nI_eq (by omega) (by omega)]
          refine ⟨fun q => ihi (by omega) (fun j k1 k2 k3 => ?_), fun q => m_covers (by omega) hX3 (by omega) s3 (fun q2 => b1 ?_) (fun q2 => b0 (ihi (by omega) (fun j k1 k2 k3 => ?_)))⟩
          · by_cases ej : j = i
            · subst ej
              have := h j hi i1 k3
              omega
            · exact h2 j (by omega) k2 k3
          · refine hy w3 _ gp (Or.inl ⟨g, Or.inr ⟨i, i1, hi, q2, rfl, fun j k1 k2 k3 => ?_⟩⟩) hX3 (fw w3 f3)
            have hj := h j k1 k2 k3
            rcases Nat.lt_or_ge j i with l | l
            · have := h2 j l k2 k3
              omega
            · omega
          · by_cases ej : j = i
            · subst ej; exact absurd k3 q2
            · exact h2 j (by omega) k2 k3
    · intro k w3 hk ⟨f3, s3⟩ ih
      refine A_Mo_cover_56 ?_
      rw [show (10000 : Int32) = nI 10000 from rfl, nI_add, nI_leI (by omega) (by omega), nI_l (by omega), nI_1 (10000 + k)]
      have lt := spkM_lt T o (10000 + k)
      refine ⟨fun q => by omega, fun _ => m_speakers (by omega) (fX w3 f3) (alike_rf N) o (fT w3 f3) (by omega) ⟨qIn_nI lt (by decide), ?_⟩⟩
      rw [qIx_nI (by omega), Nat.add_assoc]
      refine ih _ ⟨fr_I f3 rfl, fun m hm => ?_⟩
      by_cases em : m = spkM T N (10000 + k)
      · rw [em, pI_e]
        exact ⟨fun _ => ⟨k, by omega, rfl⟩, fun _ => by decide⟩
      · rw [pI_f em, s3 m hm]
        constructor
        · rintro ⟨j, hj, e⟩; exact ⟨j, by omega, e⟩
        · rintro ⟨j, hj, e⟩
          by_cases ej : j = k
          · subst ej; exact absurd e.symm em
          · exact ⟨j, by omega, e⟩
  · intro k w2 hk ⟨f2, z2⟩ ih
    refine A_Mo_cover_32 ?_
    rw [show (4096 : Int32) = nI 4096 from rfl, nI_leI (by omega) (by omega), nI_1 k, qIx_nI (by omega)]
    refine ⟨fun q => by omega, fun _ => ⟨qIn_nI (by omega) (by decide), ih _ ⟨fr_I f2 rfl, fun m hm => ?_⟩⟩⟩
    by_cases em : m = k
    · subst em; rw [pI_e]
    · rw [pI_f em]; exact z2 m (by omega)
end CoverM
