/-! about, fits, roll: both sides. -/
section Small
variable {s : Nat × (Nat → Int32)} {d : Nat} {w : qW} {Q : Int32 → qW → Prop} {QL : Int64 → qW → Prop} {R : qW → Prop} {N S K : vS} {T : Nat → vT} {Z : vZ}
/-! about -/
def abC (N : vS) (Z : vZ) (a : Int32) : Int32 := if a = 0 then nI (N 0 0) else if a = 1 then nI (N 1 0) else if a = 2 then nI (N 2 0) else if a = 3 then nI (N 3 0) else if a = 4 then nI (N 4 0) + -(nI 1) else if a = 5 then nI (N 5 0) else if a = 6 then nI (N 6 0) else if a = 7 then nI (N 7 0) else if a = 8 then nI (N 8 0) else if a = 9 then nI Z.1 else -2
def fAb (N : vS) (Z : vZ) (a : Int32) : Int32 := if 100 ≤ a ∧ a ≤ nI (99 + N 0 0) then nI (N 10 (qIx a - 100)) else if 200 ≤ a ∧ a ≤ nI (199 + N 0 0) then nI (N 11 (qIx a - 200)) else if 300 ≤ a ∧ a ≤ nI (299 + N 0 0) then nI (N 12 (qIx a - 300)) else abC N Z a
theorem ab_rng {a : Int32} {P k : Nat} (hP : P ≤ 12) (hk : 1 ≤ k ∧ k ≤ 300) (h1 : nI k ≤ a) (h2 : a ≤ nI (k - 1 + P)) : ∃ j, j < P ∧ a = nI (k + j) ∧ qIx a - k = j := by
  obtain ⟨j, q1, q2, q3, q4⟩ := nI_rng k (k - 1 + P) h1 h2
  exact ⟨j - k, by omega, by rw [q3]; congr 1; omega, by omega⟩
theorem m_about {a : Int32} (hd : 2 ≤ d) (hX : rM w N K T Z) (hQ : Q (fAb N Z a) w) : qCall (some s) d 327 [.ref 72, .int a] w (qQi Q) := by
  obtain ⟨d, rfl, hd1⟩ := dS hd
  have r := hX.n
  have o0 := hX.okn.p12
  have ix : ∀ j : Nat, j < 262 → qIn (nI j) 262 := fun j hj => qIn_nI hj (by decide)
  refine A_Mo_about ⟨ix 0 (by decide), ?_⟩
  rw [qIx_0, r.ppl, show (99 : Int32) = nI 99 from rfl, nI_add]
  unfold fAb at hQ
  refine m_isInB hd1 (fun g => b1 ?_) (fun g => b0 ⟨ix 0 (by decide), ?_⟩)
  · rw [if_pos g] at hQ
    obtain ⟨j, hj, e, e2⟩ := ab_rng o0 (k := 100) (by omega) g.1 g.2
    rw [e2] at hQ
    rw [e, show (100 : Int32) = nI 100 from rfl, nI_sub' (by omega), show (10 : Int32) = nI 10 from rfl, show (2 : Int32) = nI 2 from rfl, nI_mul', nI_add, qIx_nI (by omega), show 100 + j - 100 = j by omega, r.num j hj]
    exact ⟨ix _ (by omega), hQ⟩
  · rw [if_neg g] at hQ
    rw [r.ppl, show (199 : Int32) = nI 199 from rfl, nI_add]
    refine m_isInB hd1 (fun g => b1 ?_) (fun g => b0 ⟨ix 0 (by decide), ?_⟩)
    · rw [if_pos g] at hQ
      obtain ⟨j, hj, e, e2⟩ := ab_rng o0 (k := 200) (by omega) g.1 g.2
      rw [e2] at hQ
      rw [e, show (200 : Int32) = nI 200 from rfl, nI_sub' (by omega), show (10 : Int32) = nI 10 from rfl, show (2 : Int32) = nI 2 from rfl, nI_mul', nI_add, nI_1, qIx_nI (by omega), show 200 + j - 200 = j by omega, r.fst j hj]
      exact ⟨ix _ (by omega), hQ⟩
    · rw [if_neg g] at hQ
      rw [r.ppl, show (299 : Int32) = nI 299 from rfl, nI_add]
      refine m_isInB hd1 (fun g => b1 ?_) (fun g => b0 ?_)
      · rw [if_pos g] at hQ
        obtain ⟨j, hj, e, e2⟩ := ab_rng o0 (k := 300) (by omega) g.1 g.2
        rw [e2] at hQ
        have e3 : ∀ u : Nat, 40 + (u + j) - u = 40 + j := fun u => by omega
        rw [e, show (40 : Int32) = nI 40 from rfl, nI_add, show (300 : Int32) = nI 300 from rfl, nI_sub' (by omega), qIx_nI (by omega), e3 300, r.nr j hj]
        exact ⟨ix _ (by omega), hQ⟩
      · rw [if_neg g] at hQ
        unfold abC at hQ
        refine ⟨fun e => ⟨ix 0 (by decide), ?_⟩, fun e0 => ⟨fun e => ⟨ix 1 (by decide), ?_⟩, fun e1 => ⟨fun e => ⟨ix 2 (by decide), ?_⟩, fun e2 => ⟨fun e => ⟨ix 3 (by decide), ?_⟩, fun e3 => ⟨fun e => ⟨ix 4 (by decide), ?_⟩, fun e4 => ⟨fun e => ⟨ix 5 (by decide), ?_⟩, fun e5 => ⟨fun e => ⟨ix 6 (by decide), ?_⟩, fun e6 => ⟨fun e => ⟨ix 7 (by decide), ?_⟩, fun e7 => ⟨fun e => ⟨ix 8 (by decide), ?_⟩, fun e8 => ⟨fun e => ?_, fun e9 => ?_⟩⟩⟩⟩⟩⟩⟩⟩⟩⟩
        · rw [if_pos e] at hQ; show Q (w.1 73 0) w; rw [r.ppl]; exact hQ
        · rw [if_neg e0, if_pos e] at hQ; show Q (w.1 73 1) w; rw [r.day]; exact hQ
        · rw [if_neg e0, if_neg e1, if_pos e] at hQ; show Q (w.1 73 2) w; rw [r.clk]; exact hQ
        · rw [if_neg e0, if_neg e1, if_neg e2, if_pos e] at hQ; show Q (w.1 73 3) w; rw [r.txs]; exact hQ
        · rw [if_neg e0, if_neg e1, if_neg e2, if_neg e3, if_pos e] at hQ; show Q (w.1 73 4) w; rw [r.rul]; exact hQ
        · rw [if_neg e0, if_neg e1, if_neg e2, if_neg e3, if_neg e4, if_pos e] at hQ; show Q (w.1 73 5) w; rw [r.tks]; exact hQ
        · rw [if_neg e0, if_neg e1, if_neg e2, if_neg e3, if_neg e4, if_neg e5, if_pos e] at hQ; show Q (w.1 73 6) w; rw [r.gvs]; exact hQ
        · rw [if_neg e0, if_neg e1, if_neg e2, if_neg e3, if_neg e4, if_neg e5, if_neg e6, if_pos e] at hQ; show Q (w.1 73 7) w; rw [r.nds]; exact hQ
        · rw [if_neg e0, if_neg e1, if_neg e2, if_neg e3, if_neg e4, if_neg e5, if_neg e6, if_neg e7, if_pos e] at hQ; show Q (w.1 73 8) w; rw [r.hds]; exact hQ
        · rw [if_neg e0, if_neg e1, if_neg e2, if_neg e3, if_neg e4, if_neg e5, if_neg e6, if_neg e7, if_neg e8, if_pos e] at hQ; rw [hX.len]; exact hQ
        · rw [if_neg e0, if_neg e1, if_neg e2, if_neg e3, if_neg e4, if_neg e5, if_neg e6, if_neg e7, if_neg e8, if_neg e9] at hQ; exact hQ
theorem c_about {a : Int32} (hd : 2 ≤ d) (hX : rX w N K T Z) (hQ : Q (fAb N Z a) w) : qCall (some s) d 203 [.ref 1, .int a] w (qQi Q) := by
  obtain ⟨d, rfl, hd1⟩ := dS hd
  obtain ⟨d, rfl, hd2⟩ := dS hd1
  have r := hX.n
  have o0 := hX.okn.p12
  have at85 : fAb N Z a = abC N Z a → qAt s (d + 1) c_X_about (qQi Q) 85 [some (.ref 1), some (.int a), none] [] w := by
    intro q
    rw [q] at hQ
    unfold abC at hQ
    refine A_X_about_85 ⟨fun e9 => A_State_countAbout ⟨fun e => ?_, fun e0 => ⟨fun e => ?_, fun e1 => ⟨fun e => ?_, fun e2 => ⟨fun e => ?_, fun e3 => ⟨fun e => ?_, fun e4 => ⟨fun e => ?_, fun e5 => ⟨fun e => ?_, fun e6 => ⟨fun e => ?_, fun e7 => ⟨fun e => ?_, fun e8 => ?_⟩⟩⟩⟩⟩⟩⟩⟩⟩, fun e => ?_⟩
    · rw [if_pos e] at hQ; rw [r.ppl]; exact hQ
    · rw [if_neg e0, if_pos e] at hQ; rw [r.day]; exact hQ
    · rw [if_neg e0, if_neg e1, if_pos e] at hQ; rw [r.clk]; exact hQ
    · rw [if_neg e0, if_neg e1, if_neg e2, if_pos e] at hQ; rw [r.txs]; exact hQ
    · rw [if_neg e0, if_neg e1, if_neg e2, if_neg e3, if_pos e] at hQ; rw [r.rul]; exact hQ
    · rw [if_neg e0, if_neg e1, if_neg e2, if_neg e3, if_neg e4, if_pos e] at hQ; rw [r.tks]; exact hQ
    · rw [if_neg e0, if_neg e1, if_neg e2, if_neg e3, if_neg e4, if_neg e5, if_pos e] at hQ; rw [r.gvs]; exact hQ
    · rw [if_neg e0, if_neg e1, if_neg e2, if_neg e3, if_neg e4, if_neg e5, if_neg e6, if_pos e] at hQ; rw [r.nds]; exact hQ
    · rw [if_neg e0, if_neg e1, if_neg e2, if_neg e3, if_neg e4, if_neg e5, if_neg e6, if_neg e7, if_pos e] at hQ; rw [r.hds]; exact hQ
    · rw [if_neg e0, if_neg e1, if_neg e2, if_neg e3, if_neg e4, if_neg e5, if_neg e6, if_neg e7, if_neg e8, if_neg e9] at hQ; exact hQ
    · rw [if_neg (by rw [e]; decide), if_neg (by rw [e]; decide), if_neg (by rw [e]; decide), if_neg (by rw [e]; decide), if_neg (by rw [e]; decide), if_neg (by rw [e]; decide), if_neg (by rw [e]; decide), if_neg (by rw [e]; decide), if_neg (by rw [e]; decide), if_pos e] at hQ
      rw [hX.len]; exact hQ
  by_cases a0 : a < 0
  · have neg : ∀ k : Nat, k < 2 ^ 31 → ¬ nI k ≤ a := fun k hk q => by
      have h1 := Int32.le_iff_toInt_le.mp q
      have h2 := Int32.lt_iff_toInt_lt.mp a0
      rw [nI_toInt hk] at h1
      rw [show (0 : Int32).toInt = 0 by decide] at h2
      omega
    refine A_X_about ⟨fun g => absurd g (Int32.not_le.mpr a0), fun _ => A_X_about_12 ⟨fun _ => at85 ?_, fun g => absurd (Int32.not_le.mp (neg 100 (by decide))) g⟩⟩
    unfold fAb
    rw [if_neg (fun q => neg 100 (by decide) q.1), if_neg (fun q => neg 200 (by decide) q.1), if_neg (fun q => neg 300 (by decide) q.1)]
  · obtain ⟨n, hn, rfl⟩ := nI_of a0
    have c1 : ((100 : Int32) ≤ nI n ∧ nI n ≤ nI (99 + N 0 0)) ↔ (100 ≤ n ∧ n ≤ 99 + N 0 0) := by
      rw [show (100 : Int32) = nI 100 from rfl, nI_leI (by omega) hn, nI_leI hn (by omega)]
    have c2 : ((200 : Int32) ≤ nI n ∧ nI n ≤ nI (199 + N 0 0)) ↔ (200 ≤ n ∧ n ≤ 199 + N 0 0) := by
      rw [show (200 : Int32) = nI 200 from rfl, nI_leI (by omega) hn, nI_leI hn (by omega)]
    have c3 : ((300 : Int32) ≤ nI n ∧ nI n ≤ nI (299 + N 0 0)) ↔ (300 ≤ n ∧ n ≤ 299 + N 0 0) := by
      rw [show (300 : Int32) = nI 300 from rfl, nI_leI (by omega) hn, nI_leI hn (by omega)]
    have to85 : ¬ (100 ≤ n ∧ n ≤ 99 + N 0 0) → ¬ (200 ≤ n ∧ n ≤ 199 + N 0 0) → ¬ (300 ≤ n ∧ n ≤ 299 + N 0 0) → qAt s (d + 1) c_X_about (qQi Q) 85 [some (.ref 1), some (.int (nI n)), none] [] w := fun q1 q2 q3 => at85 (by
      unfold fAb
      rw [if_neg (fun q => q1 (c1.mp q)), if_neg (fun q => q2 (c2.mp q)), if_neg (fun q => q3 (c3.mp q))])
    have hm : n % 100 < 100 := Nat.mod_lt _ (by decide)
    refine A_X_about ⟨fun _ => ⟨by decide, ?_⟩, fun g => absurd (nI_pos' hn) g⟩
    rw [show (100 : Int32) = nI 100 from rfl, qRem_nI hn (by omega) (by omega)]
    refine A_X_about_12 ?_
    rw [show (100 : Int32) = nI 100 from rfl, show (400 : Int32) = nI 400 from rfl, show (200 : Int32) = nI 200 from rfl, show (300 : Int32) = nI 300 from rfl, nI_ltI hn (by omega), nI_leI (by omega) hn, nI_leI (by omega) hn, nI_leI (by omega) hn]
    refine ⟨fun g => to85 (by omega) (by omega) (by omega), fun g1 => ⟨fun g => to85 (by omega) (by omega) (by omega), fun g2 => c_isTold (by omega) r.ppl o0 (fun gt => b1 ?_) (fun gt => b0 (to85 ?_ ?_ ?_))⟩⟩
    · have gt : n % 100 < N 0 0 := (nI_ltI (by omega) (by omega)).mp gt.2
      have e3 : w.1 3 (n % 100) = nI (N 10 (n % 100)) := r.num _ gt
      have e4 : w.1 4 (n % 100) = nI (N 11 (n % 100)) := r.fst _ gt
      have e5 : w.1 5 (n % 100) = nI (N 12 (n % 100)) := r.nr _ gt
      have i12 : qIn (nI (n % 100)) 12 := qIn_nI (by omega) (by decide)
      unfold fAb at hQ
      rw [qIx_nI hn] at hQ
      rw [qIx_nI (by omega), e3, e4, e5]
      refine ⟨fun g3 => ⟨fun g4 => ⟨i12, ?_⟩, fun g4 => ⟨i12, ?_⟩⟩, fun g3 => ⟨i12, ?_⟩⟩
      · rw [if_neg (fun q => by have := c1.mp q; omega), if_neg (fun q => by have := c2.mp q; omega), if_pos (c3.mpr (by omega)), show n - 300 = n % 100 by omega] at hQ; exact hQ
      · rw [if_neg (fun q => by have := c1.mp q; omega), if_pos (c2.mpr (by omega)), show n - 200 = n % 100 by omega] at hQ; exact hQ
      · rw [if_pos (c1.mpr (by omega)), show n - 100 = n % 100 by omega] at hQ; exact hQ
    · intro q; exact gt ⟨nI_pos' (by omega), nI_lt (by omega) (by omega)⟩
    · intro q; exact gt ⟨nI_pos' (by omega), nI_lt (by omega) (by omega)⟩
    · intro q; exact gt ⟨nI_pos' (by omega), nI_lt (by omega) (by omega)⟩
/-! fits -/
def ftB (N : vS) (v f : Nat) : Bool := (List.range (N 8 0)).all (fun k => decide (decide (f ≤ N 18 k ∧ (N 18 k - f) % v = 0) = decide (N 19 k = 1)))
theorem c_isFitting {v f : Nat} (hd : 2 ≤ d) (hX : rX w N K T Z) (hv : 1 ≤ v) (hv2 : v ≤ 60) (hf : f ≤ 60) (hQ : Q (tI (ftB N v f)) w) : qCall (some s) d 181 [.ref 61, .int (nI v), .int (nI f)] w (qQi Q) := by
  obtain ⟨d, rfl, hd1⟩ := dS hd
  have r := hX.n
  have o := hX.okn
  have o8 := o.hds
  refine A_Searches_isFitting ?_
  refine lpN (i := 0) (n := N 8 0) (P := fun i => (List.range i).all (fun k => decide (decide (f ≤ N 18 k ∧ (N 18 k - f) % v = 0) = decide (N 19 k = 1))) = true → qAt s d c_Searches_isFitting (qQi Q) 2 [some (.ref 61), some (.int (nI v)), some (.int (nI f)), some (.int (nI i)), none, none] [] w) ?_ ?_ (Nat.zero_le _) rfl
  · intro ha
    unfold ftB at hQ
    rw [ha] at hQ
    refine A_Searches_isFitting_2 ?_
    have e : w.1 2 17 = nI (N 8 0) := r.hds
    rw [e]
    exact ⟨fun _ => hQ, fun g => absurd (Int32.le_refl _) g⟩
  · intro i hi ih ha
    have oh := o.hrd i hi
    have e : w.1 2 17 = nI (N 8 0) := r.hds
    have e12 : w.1 12 i = nI (N 18 i) := r.hrd i hi
    have no : ¬ decide (f ≤ N 18 i ∧ (N 18 i - f) % v = 0) = decide (N 19 i = 1) → Q 0 w := by
      intro q
      have : ftB N v f = false := by
        unfold ftB
        rw [List.all_eq_false]
        exact ⟨i, List.mem_range.mpr hi, by rw [decide_eq_false q]; decide⟩
      rw [this] at hQ
      exact hQ
    have yes : decide (f ≤ N 18 i ∧ (N 18 i - f) % v = 0) = decide (N 19 i = 1) → qAt s d c_Searches_isFitting (qQi Q) 2 [some (.ref 61), some (.int (nI v)), some (.int (nI f)), some (.int (nI (i + 1))), none, none] [] w := fun q => ih (by rw [all_succ, ha, decide_eq_true q]; rfl)
    have at42 : decide (f ≤ N 18 i ∧ (N 18 i - f) % v = 0) = false → qAt s d c_Searches_isFitting (qQi Q) 42 [some (.ref 61), some (.int (nI v)), some (.int (nI f)), some (.int (nI i)), none, none] [] w := by
      intro q
      rw [q] at no yes
      refine A_Searches_isFitting_42 (c_wasHeard hd1 hX hi ?_)
      rw [nI_1]
      cases hb : decide (N 19 i = 1) with
      | false => rw [hb] at yes; exact ⟨fun _ => yes rfl, fun g => absurd rfl g⟩
      | true => rw [hb] at no; exact ⟨fun g => absurd g (by decide), fun _ => no (by decide)⟩
    refine A_Searches_isFitting_2 ?_
    rw [e, nI_leI (by omega) (by omega), qIx_nI (by omega), e12]
    have e1 : (nI (N 18 i) - nI f < (0 : Int32)) ↔ ¬ f ≤ N 18 i := by
      rw [nI_Z, nI_Z f, iZ_sub, show (0 : Int32) = iZ 0 from rfl, iZ_lt (by omega) (by omega)]
      omega
    rw [e1]
    refine ⟨fun g => absurd g (by omega), fun _ => ⟨qIn_nI (by omega) (by decide), fun g => at42 (decide_eq_false (fun q => g q.1)), fun g => ?_⟩⟩
    have g : f ≤ N 18 i := by omega
    have hml : (N 18 i - f) % v ≤ N 18 i - f := Nat.mod_le _ _
    rw [nI_sub' g, qRem_nI (by omega) (by omega) (by omega), eq0 (by omega), eq0 (by omega)]
    refine ⟨by omega, fun g2 => at42 (decide_eq_false (fun q => g2 q.2)), fun g2 => ?_⟩
    have q : decide (f ≤ N 18 i ∧ (N 18 i - f) % v = 0) = true := decide_eq_true ⟨g, g2⟩
    rw [q] at no yes
    refine c_wasHeard hd1 hX hi ?_
    rw [nI_1]
    cases hb : decide (N 19 i = 1) with
    | false => rw [hb] at no; exact ⟨fun g => absurd g (by decide), fun _ => no (by decide)⟩
    | true => rw [hb] at yes; exact ⟨fun _ => yes rfl, fun g => absurd rfl g⟩
theorem m_fitsAll {v f : Nat} (hd : 1 ≤ d) (hX : rM w N K T Z) (hv : 1 ≤ v) (hv2 : v ≤ 60) (hf : f ≤ 60) (hQ : Q (tI (ftB N v f)) w) : qCall (some s) d 314 [.ref 72, .int (nI v), .int (nI f)] w (qQi Q) := by
  obtain ⟨d, rfl, hd1⟩ := dS hd
  have r := hX.n
  have o := hX.okn
  have o8 := o.hds
  refine A_Mo_fitsAll ?_
  refine lpN (i := 0) (n := N 8 0) (P := fun i => (List.range i).all (fun k => decide (decide (f ≤ N 18 k ∧ (N 18 k - f) % v = 0) = decide (N 19 k = 1))) = true → qAt s d c_Mo_fitsAll (qQi Q) 2 [some (.ref 72), some (.int (nI v)), some (.int (nI f)), some (.int (nI i)), none, none] [] w) ?_ ?_ (Nat.zero_le _) rfl
  · intro ha
    unfold ftB at hQ
    rw [ha] at hQ
    refine A_Mo_fitsAll_2 ?_
    simp (disch := omega) only [li, ll, nI_add, nI_mul', nI_sub', nI_div', qRem_nI, lN_add, lN_mul, lN_sub, lN_div', qRemL_lN, qIn_I, qIx_nI, nI_ltI, nI_leI, nI_eq, nI_eqn, nI_eqn', nI_len, nI_ltn, nI_nle', nI_nlt', lN_eqn, lg_lt, lg_gt, lg_eq, lg_le, lg_ge, lgn_lt, lgn_gt, lgn_eq, lgn_le, lgn_ge, pk_lLT, pk_lLE, pk_lEQ, nI_l, lN_i, qShl_n, nI_and, nI_or, lN_and, lN_or, nI_andn, lN_andn, pI_e, pI_f, pI_c, pL_e, pL_f, pL_c, pI_L, pL_I, qB_1, qZb_n, true_and, and_true, forall_const, not_true_eq_false, not_false_eq_true, Nat.reduceLT, Nat.reduceLeDiff, Nat.reduceEqDiff, Nat.reduceAdd, Nat.reduceMul, Nat.reduceSub, Nat.reduceMod, Nat.reduceDiv, false_implies, implies_true, r.hds]
    exact ⟨fun _ => hQ, fun g => absurd (Nat.le_refl _) g⟩
  · intro i hi ih ha
    have oh := o.hrd i hi
    have no : ¬ decide (f ≤ N 18 i ∧ (N 18 i - f) % v = 0) = decide (N 19 i = 1) → Q 0 w := by
      intro q
      have : ftB N v f = false := by
        unfold ftB
        rw [List.all_eq_false]
        exact ⟨i, List.mem_range.mpr hi, by rw [decide_eq_false q]; decide⟩
      rw [this] at hQ
      exact hQ
    have yes : decide (f ≤ N 18 i ∧ (N 18 i - f) % v = 0) = decide (N 19 i = 1) → qAt s d c_Mo_fitsAll (qQi Q) 2 [some (.ref 72), some (.int (nI v)), some (.int (nI f)), some (.int (nI (i + 1))), none, none] [] w := fun q => ih (by rw [all_succ, ha, decide_eq_true q]; rfl)
    have at47 : ∀ b : Bool, b = decide (f ≤ N 18 i ∧ (N 18 i - f) % v = 0) → qAt s d c_Mo_fitsAll (qQi Q) 47 [some (.ref 72), some (.int (nI v)), some (.int (nI f)), some (.int (nI i)), none, none] [.int (tI b)] w := by
      intro b q
      rw [← q] at no yes
      refine A_Mo_fitsAll_47 ?_
      rw [show (150 : Int32) = nI 150 from rfl, show (2 : Int32) = nI 2 from rfl, nI_mul', nI_add, nI_1, nI_1, qIx_nI (by omega), r.hri i hi, show (1 : Int32) = nI 1 from rfl, nI_eq (by omega) (by omega)]
      refine ⟨qIn_nI (by omega) (by decide), fun g => ?_, fun g => ?_⟩
      · rw [decide_eq_false g] at no yes
        cases b
        · exact ⟨fun _ => yes rfl, fun g => absurd rfl g⟩
        · exact ⟨fun g => absurd g (by decide), fun _ => no (by decide)⟩
      · rw [decide_eq_true g] at no yes
        cases b
        · exact ⟨fun g => absurd g (by decide), fun _ => no (by decide)⟩
        · exact ⟨fun _ => yes rfl, fun g => absurd rfl g⟩
    refine A_Mo_fitsAll_2 ?_
    simp (disch := omega) only [li, ll, nI_add, nI_mul', nI_sub', nI_div', qRem_nI, lN_add, lN_mul, lN_sub, lN_div', qRemL_lN, qIn_I, qIx_nI, nI_ltI, nI_leI, nI_eq, nI_eqn, nI_eqn', nI_len, nI_ltn, nI_nle', nI_nlt', lN_eqn, lg_lt, lg_gt, lg_eq, lg_le, lg_ge, lgn_lt, lgn_gt, lgn_eq, lgn_le, lgn_ge, pk_lLT, pk_lLE, pk_lEQ, nI_l, lN_i, qShl_n, nI_and, nI_or, lN_and, lN_or, nI_andn, lN_andn, pI_e, pI_f, pI_c, pL_e, pL_f, pL_c, pI_L, pL_I, qB_1, qZb_n, true_and, and_true, forall_const, not_true_eq_false, not_false_eq_true, Nat.reduceLT, Nat.reduceLeDiff, Nat.reduceEqDiff, Nat.reduceAdd, Nat.reduceMul, Nat.reduceSub, Nat.reduceMod, Nat.reduceDiv, false_implies, implies_true, r.hds, r.hrd i hi]
    refine ⟨fun g => absurd g (by omega), fun _ => ⟨by omega, fun g => at47 false (decide_eq_false (fun q => by omega)).symm, fun g => ?_⟩⟩
    have hml : (N 18 i - f) % v ≤ N 18 i - f := Nat.mod_le _ _
    rw [nI_sub' (by omega), qRem_nI (by omega) (by omega) (by omega), nI_eq (by omega) (by omega)]
    exact ⟨by omega, fun g2 => at47 false (decide_eq_false (fun q => g2 q.2)).symm, fun g2 => at47 true (decide_eq_true ⟨by omega, g2⟩).symm⟩
def vFit (m i : Int32) : Prop := (1 ≤ m ∧ m ≤ 60) ∧ -1 ≤ i
/-- the firsts of a number: an answer, or how many fit so far -/
def ftI (N : vS) (i : Int32) (v : Nat) : Nat → Nat → Nat → Nat × Bool
  | 0, _, c => (c, false)
  | k + 1, f, c => if ftB N v f then (if nI c = i then (100 * v + f, true) else ftI N i v k (f + 1) (c + 1)) else ftI N i v k (f + 1) c
def ftO (N : vS) (i : Int32) : Nat → Nat → Nat → Int32
  | 0, _, c => if i = -1 then nI c else -1
  | k + 1, v, c => if (ftI N i v v 0 c).2 then nI (ftI N i v v 0 c).1 else ftO N i k (v + 1) (ftI N i v v 0 c).1
theorem c_fits {m i : Int32} (hd : 3 ≤ d) (hX : rX w N K T Z) (hy : vFit m i → Q (ftO N i (qIx m) 1 0) w) (hn : ¬ vFit m i → Q (-1) w) : qCall (some s) d 180 [.ref 1, .int m, .int i] w (qQi Q) := by
  obtain ⟨d, rfl, hd1⟩ := dS hd
  refine A_X_fits ⟨fun g => hn (fun q => absurd g (Int32.not_lt.mpr q.1.1)), fun g1 => ⟨fun g => hn (fun q => absurd g (Int32.not_lt.mpr q.1.2)), fun g2 => ⟨fun g3 => ?_, fun g => hn (fun q => g q.2)⟩⟩⟩
  have hz := hy ⟨⟨Int32.not_lt.mp g1, Int32.not_lt.mp g2⟩, g3⟩
  obtain ⟨M, h1, h2, em, em2⟩ := nI_rng 1 60 (Int32.not_lt.mp g1) (Int32.not_lt.mp g2)
  rw [em2] at hz
  subst em
  have outer : ∀ k v c, v + k = M + 1 → 1 ≤ v → Q (ftO N i k v c) w → qAt s d c_X_fits (qQi Q) 23 [some (.ref 1), some (.int (nI M)), some (.int i), some (.int (nI c)), some (.int (nI v)), none] [] w := by
    intro k
    induction k with
    | zero =>
      intro v c hk hv hq
      unfold ftO at hq
      refine A_X_fits_23 ?_
      rw [nI_ltI (by omega) (by omega)]
      refine ⟨fun _ => ⟨fun g => ?_, fun g => ?_⟩, fun g => absurd (by omega) g⟩
      · rw [if_neg g] at hq; exact hq
      · rw [if_pos g] at hq; exact hq
    | succ k ih =>
      intro v c hk hv hq
      refine A_X_fits_23 ?_
      rw [nI_ltI (by omega) (by omega)]
      refine ⟨fun g => absurd g (by omega), fun _ => ?_⟩
      have inner : ∀ j f c', f + j = v → ((ftI N i v j f c').2 = true → Q (nI (ftI N i v j f c').1) w) → ((ftI N i v j f c').2 = false → Q (ftO N i k (v + 1) (ftI N i v j f c').1) w) → qAt s d c_X_fits (qQi Q) 32 [some (.ref 1), some (.int (nI M)), some (.int i), some (.int (nI c')), some (.int (nI v)), some (.int (nI f))] [] w := by
        intro j
        induction j with
        | zero =>
          intro f c' hf q1 q2
          refine A_X_fits_32 ?_
          rw [nI_leI (by omega) (by omega), nI_1 v]
          exact ⟨fun _ => ih (v + 1) c' (by omega) (by omega) (q2 rfl), fun g => absurd (by omega) g⟩
        | succ j ihj =>
          intro f c' hf q1 q2
          unfold ftI at q1 q2
          refine A_X_fits_32 ?_
          rw [nI_leI (by omega) (by omega), nI_1 v, nI_1 c', nI_1 f, show (100 : Int32) = nI 100 from rfl, nI_mul', nI_add]
          refine ⟨fun g => absurd g (by omega), fun _ => c_isFitting hd1 hX hv (by omega) (by omega) (tI_b (fun gf => ?_) (fun gf => ?_))⟩
          · rw [if_pos gf] at q1 q2
            refine ⟨fun e => ?_, fun e => ?_⟩
            · rw [if_neg e] at q1 q2; exact ihj (f + 1) (c' + 1) (by omega) q1 q2
            · rw [if_pos e] at q1; exact q1 rfl
          · rw [if_neg (by rw [gf]; decide)] at q1 q2
            exact ihj (f + 1) c' (by omega) q1 q2
      unfold ftO at hq
      refine inner v 0 c (by omega) (fun e => ?_) (fun e => ?_)
      · rw [if_pos e] at hq; exact hq
      · rw [if_neg (by rw [e]; decide)] at hq; exact hq
  exact outer M 1 0 (by omega) (by omega) hz
theorem m_fits {m i : Int32} (hd : 3 ≤ d) (hX : rM w N K T Z) (hy : vFit m i → Q (ftO N i (qIx m) 1 0) w) (hn : ¬ vFit m i → Q (-1) w) : qCall (some s) d 313 [.ref 72, .int m, .int i] w (qQi Q) := by
  obtain ⟨d, rfl, hd1⟩ := dS hd
  refine A_Mo_fits (m_isInB (by omega) (fun g1 => b1 ⟨fun g3 => ?_, fun g => hn (fun q => g q.2)⟩) (fun g => b0 (hn (fun q => g q.1))))
  have hz := hy ⟨g1, g3⟩
  obtain ⟨M, h1, h2, em, em2⟩ := nI_rng 1 60 g1.1 g1.2
  rw [em2] at hz
  subst em
  have outer : ∀ k v c, v + k = M + 1 → 1 ≤ v → Q (ftO N i k v c) w → qAt s d c_Mo_fits (qQi Q) 22 [some (.ref 72), some (.int (nI M)), some (.int i), some (.int (nI c)), some (.int (nI v)), none] [] w := by
    intro k
    induction k with
    | zero =>
      intro v c hk hv hq
      unfold ftO at hq
      refine A_Mo_fits_22 ?_
      rw [nI_ltI (by omega) (by omega)]
      refine ⟨fun _ => ⟨fun g => ?_, fun g => ?_⟩, fun g => absurd (by omega) g⟩
      · rw [if_neg g] at hq; exact hq
      · rw [if_pos g] at hq; exact hq
    | succ k ih =>
      intro v c hk hv hq
      refine A_Mo_fits_22 ?_
      rw [nI_ltI (by omega) (by omega)]
      refine ⟨fun g => absurd g (by omega), fun _ => ?_⟩
      have inner : ∀ j f c', f + j = v → ((ftI N i v j f c').2 = true → Q (nI (ftI N i v j f c').1) w) → ((ftI N i v j f c').2 = false → Q (ftO N i k (v + 1) (ftI N i v j f c').1) w) → qAt s d c_Mo_fits (qQi Q) 31 [some (.ref 72), some (.int (nI M)), some (.int i), some (.int (nI c')), some (.int (nI v)), some (.int (nI f))] [] w := by
        intro j
        induction j with
        | zero =>
          intro f c' hf q1 q2
          refine A_Mo_fits_31 ?_
          rw [nI_leI (by omega) (by omega), nI_1 v]
          exact ⟨fun _ => ih (v + 1) c' (by omega) (by omega) (q2 rfl), fun g => absurd (by omega) g⟩
        | succ j ihj =>
          intro f c' hf q1 q2
          unfold ftI at q1 q2
          refine A_Mo_fits_31 ?_
          rw [nI_leI (by omega) (by omega), nI_1 v, nI_1 c', nI_1 f, show (100 : Int32) = nI 100 from rfl, nI_mul', nI_add]
          refine ⟨fun g => absurd g (by omega), fun _ => m_fitsAll (by omega) hX hv (by omega) (by omega) (tI_n (fun gf => ?_) (fun gf => ?_))⟩
          · rw [if_pos gf] at q1 q2
            refine ⟨fun e => ?_, fun e => ?_⟩
            · rw [if_neg e] at q1 q2; exact ihj (f + 1) (c' + 1) (by omega) q1 q2
            · rw [if_pos e] at q1; exact q1 rfl
          · rw [if_neg (by rw [gf]; decide)] at q1 q2
            exact ihj (f + 1) c' (by omega) q1 q2
      unfold ftO at hq
      refine inner v 0 c (by omega) (fun e => ?_) (fun e => ?_)
      · rw [if_pos e] at hq; exact hq
      · rw [if_neg (by rw [e]; decide)] at hq; exact hq
  exact outer M 1 0 (by omega) (by omega) hz
end Small
