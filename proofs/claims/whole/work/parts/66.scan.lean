/-! Calls that look through hours, both sides: speaks, alone, secret, pass. -/
section Scan
variable {s : Nat × (Nat → Int32)} {d : Nat} {w : qW} {Q : Int32 → qW → Prop} {QL : Int64 → qW → Prop} {R : qW → Prop} {N S K : vS} {T : Nat → vT} {Z : vZ}
/-- a loop that goes up and leaves the world as it is -/
theorem lpN {P : Nat → Prop} {n : Nat} (fin : P n) (st : ∀ i, i < n → P (i + 1) → P i) : ∀ {i : Nat}, i ≤ n → P i := by
  have h : ∀ k i, n - i = k → i ≤ n → P i := by
    intro k
    induction k with
    | zero =>
      intro i hk hi
      have e : i = n := by omega
      subst e
      exact fin
    | succ k ih =>
      intro i hk hi
      exact st i (by omega) (ih (i + 1) (by omega) (by omega))
  intro i hi
  exact h _ i rfl hi
def cnt (f : Nat → Bool) : Nat → Nat
  | 0 => 0
  | n + 1 => cnt f n + (f n).toNat
theorem cnt_le (f : Nat → Bool) : ∀ n, cnt f n ≤ n
  | 0 => Nat.le_refl _
  | n + 1 => by
    have := cnt_le f n
    unfold cnt
    have h2 : (f n).toNat ≤ 1 := by cases f n <;> decide
    omega
theorem cnt_congr {f g : Nat → Bool} : ∀ {n : Nat}, (∀ i, i < n → f i = g i) → cnt f n = cnt g n
  | 0, _ => rfl
  | n + 1, h => by
    unfold cnt
    rw [cnt_congr (fun i hi => h i (by omega)), h n (by omega)]
theorem cnt_1 {f : Nat → Bool} {n : Nat} (h : f n = true) : cnt f (n + 1) = cnt f n + 1 := by
  show cnt f n + (f n).toNat = _
  rw [h]; rfl
theorem cnt_0 {f : Nat → Bool} {n : Nat} (h : f n = false) : cnt f (n + 1) = cnt f n := by
  show cnt f n + (f n).toNat = _
  rw [h]; rfl
theorem find_some {f : Nat → Bool} {n i : Nat} (hi : i < n) (h : f i = true) (hj : ∀ j, j < i → f j = false) : (List.range n).find? f = some i := by
  rw [List.find?_range_eq_some]
  exact ⟨h, List.mem_range.mpr hi, fun j hj2 => by rw [hj j hj2]; rfl⟩
theorem find_none {f : Nat → Bool} {n : Nat} (hj : ∀ j, j < n → f j = false) : (List.range n).find? f = none := by
  rw [List.find?_eq_none]
  intro j hj2
  rw [hj j (List.mem_range.mp hj2)]
  decide
theorem i64_t (x : Int32) : x.toInt64.toInt = x.toInt := Int32.toInt_toInt64 x
theorem vHours_x {h n : Int64} (g : vHours h n) : ∃ a m, h = lN a ∧ n = lN m ∧ h.toNatClampNeg = a ∧ n.toNatClampNeg = m ∧ 1 ≤ m ∧ a + m ≤ 1000000000000001 := by
  obtain ⟨g1, g2, g3, g4⟩ := g
  have e1 := Int64.le_iff_toInt_le.mp g1
  have e3 := Int64.le_iff_toInt_le.mp g3
  have k0 : (0 : Int64).toInt = 0 := by decide
  have k1 : (1 : Int64).toInt = 1 := by decide
  rw [k1] at e1
  rw [k0] at e3
  have eh : h = lN h.toInt.toNat := by
    apply Int64.toInt_inj.mp
    rw [lN_tI (by omega)]; omega
  have en : n = lN n.toInt.toNat := by
    apply Int64.toInt_inj.mp
    rw [lN_tI (by omega)]; omega
  refine ⟨h.toInt.toNat, n.toInt.toNat, eh, en, ?_, ?_, by omega, by omega⟩
  · exact rfl
  · exact rfl
theorem vHours_i {h : Int64} {n : Int32} (hn : n ≤ 100000) (g : vHours h n.toInt64) : ∃ a m, h = lN a ∧ n = nI m ∧ h.toNatClampNeg = a ∧ qIx n = m ∧ 1 ≤ m ∧ m ≤ 100000 ∧ a + m ≤ 1000000000000001 := by
  obtain ⟨a, m, e1, e2, e3, e4, h1, h2⟩ := vHours_x g
  have h3 := congrArg Int64.toInt e2
  rw [i64_t, lN_tI (by omega)] at h3
  have h4 := Int32.le_iff_toInt_le.mp hn
  have k : (100000 : Int32).toInt = 100000 := by decide
  rw [k] at h4
  have en : n = nI m := by
    apply Int32.toInt_inj.mp
    rw [nI_toInt (by omega)]; exact h3
  exact ⟨a, m, e1, en, e3, by rw [en]; exact qIx_nI (by omega), h1, by omega, h2⟩
def vSpk (N : vS) (p : Int32) (h : Int64) : Prop := vTold (N 0 0) p ∧ vHour h
theorem c_speaks {p : Int32} {h : Int64} (hd : 3 ≤ d) (hX : rX w N K T Z) (hy : vSpk N p h → Q (tI (spk T N (qIx p) h.toNatClampNeg)) w) (hn : ¬ vSpk N p h → Q 0 w) : qCall (some s) d 91 [.ref 1, .int p, .long h] w (qQi Q) := by
  obtain ⟨d, rfl, hd1⟩ := dS hd
  have o0 := hX.okn.p12
  refine A_X_speaks (c_isTold (by omega) hX.n.ppl o0 (fun g1 => b1 (c_isHour (by omega) (fun g2 => b1 ?_) (fun g => b0 (hn (fun q => g q.2))))) (fun g => b0 (hn (fun q => g q.1))))
  have hz := hy ⟨g1, g2⟩
  obtain ⟨i, hi, ep, ep2⟩ := vTold_x o0 g1
  obtain ⟨a, ha, e, e2⟩ := vHour_x g2
  rw [ep2, e2] at hz
  subst ep e
  refine c_isHeardAt hd1 hX hi (by omega) (tI_b (fun g => ?_) (fun g => ?_))
  · rw [g] at hz; exact hz
  · rw [g] at hz; exact hz
theorem m_speaks {p : Int32} {h : Int64} (hd : 6 ≤ d) (hX : rM w N K T Z) (hy : ∀ w', vSpk N p h → fr (fun c => 79 ≤ c) w w' → Q (tI (spk T N (qIx p) h.toNatClampNeg)) w') (hn : ¬ vSpk N p h → Q 0 w) : qCall (some s) d 251 [.ref 72, .int p, .long h] w (qQi Q) := by
  obtain ⟨d, rfl, hd1⟩ := dS hd
  have o0 := hX.okn.p12
  refine A_Mo_speaks (m_isPerson (by omega) hX.n.ppl o0 (fun g1 => b1 (m_isHour (by omega) (fun g2 => n1 ?_) (fun g => n0 (hn (fun q => g q.2))))) (fun g => b0 (hn (fun q => g q.1))))
  refine m_take hd1 hX ?_
  intro w2 f2 t2
  have hz := hy w2 ⟨g1, g2⟩ (fr_wk f2 (fun c hc => by unfold takeA barA at hc; omega))
  obtain ⟨i, hi, ep, ep2⟩ := vTold_x o0 g1
  obtain ⟨a, ha, e, e2⟩ := vHour_x g2
  rw [ep2, e2] at hz
  subst ep e
  refine m_spk (by omega) (hX.keep f2 (fun c h1 h2 => by unfold takeA barA; omega)) (alike_rf N) hX.okn t2 hi (by omega) ?_
  rw [tI_z]
  exact hz
theorem m_take' (hd : 5 ≤ d) (hX : rM w N K T Z) (hQ : ∀ w', fr (fun c => 79 ≤ c) w w' → rM w' N K T Z → tkA w' T N → R w') : qCall (some s) d 253 [.ref 72] w (qQv R) :=
  m_take hd hX (fun w' f t => hQ w' (fr_wk f (fun c hc => by unfold takeA barA at hc; omega)) (hX.keep f (fun c h1 h2 => by unfold takeA barA; omega)) t)
def vAln (N : vS) (p : Int32) (h : Int64) (n : Int32) : Prop := (p = -1 ∨ p = 12 ∨ vTold (N 0 0) p) ∧ n ≤ 100000 ∧ vHours h n.toInt64
def alnF (p : Int32) (m : Nat) : Bool := if p = -1 then decide (m = 0) else if p = 12 then decide (cntB m = 1) else decide (m = 2 ^ qIx p)
def fAln (T : Nat → vT) (N : vS) (p : Int32) (h : Int64) (n : Int32) : Int32 := nI (cnt (fun i => alnF p (spkM T N (h.toNatClampNeg + i))) (qIx n))
theorem spkM_lt (T : Nat → vT) (o : okS N) (h : Nat) : spkM T N h < 4096 := bitsOf_12 _ o.p12
theorem c_alone {p : Int32} {h : Int64} {n : Int32} (hd : 5 ≤ d) (hX : rX w N K T Z) (hy : ∀ w', vAln N p h n → rX w' N K T Z → fr (fun c => c < 72) w w' → Q (fAln T N p h n) w') (hn : ¬ vAln N p h n → Q (-1) w) : qCall (some s) d 127 [.ref 1, .int p, .long h, .int n] w (qQi Q) := by
  obtain ⟨d, rfl, hd1⟩ := dS hd
  have o0 := hX.okn.p12
  have main : (p = -1 ∨ p = 12 ∨ vTold (N 0 0) p) → qAt s d c_X_alone (qQi Q) 27 [some (.ref 1), some (.int p), some (.long h), none, some (.int n), none, none, none, none, none, none] [.int (1 : Int32)] w := by
    intro g1
    refine A_X_alone_27 (b1 ⟨fun g => hn (fun q => absurd g (Int32.not_lt.mpr q.2.1)), fun g2 => ?_⟩)
    have g2 := Int32.not_lt.mp g2
    refine c_areHours (by omega) (fun g3 => n1 ?_) (fun g => n0 (hn (fun q => g q.2.2)))
    have g : vAln N p h n := ⟨g1, g2, g3⟩
    obtain ⟨a, m, e1, e2, e3, e4, h1, h2, h3⟩ := vHours_i g2 g3
    have hz : ∀ w', rX w' N K T Z → fr (fun c => c < 72) w w' → Q (nI (cnt (fun i => alnF p (spkM T N (a + i))) m)) w' := by
      intro w' q1 q2
      have := hy w' g q1 q2
      unfold fAln at this
      rw [e3, e4] at this
      exact this
    subst e1 e2
    have loop : ∀ (z : Int32) (w1 : qW), (¬ p = 12 → z = if p = -1 then 0 else qShl 1 p) → fr (fun c => c = 50 ∨ c = 52) w w1 → vC w1 N a → qAt s d c_X_alone (qQi Q) 83 [some (.ref 1), some (.int p), none, none, some (.int (nI m)), none, some (.int z), some (.int (nI 0)), some (.int (nI 0)), none, none] [] w1 := by
      intro z w1 hzz f1 c1
      refine lpU (i := 0) (n := m) (I := fun i w2 => fr (fun c => c = 50 ∨ c = 52) w w2 ∧ vC w2 N (a + i)) (P := fun i w2 => qAt s d c_X_alone (qQi Q) 83 [some (.ref 1), some (.int p), none, none, some (.int (nI m)), none, some (.int z), some (.int (nI (cnt (fun i => alnF p (spkM T N (a + i))) i))), some (.int (nI i)), none, none] [] w2) ?_ ?_ (Nat.zero_le _) ⟨f1, c1⟩
      · intro w2 ⟨f2, c2⟩
        refine A_X_alone_83 ⟨fun _ => hz w2 (hX.rw f2) (fr_wk f2 (fun c hc => by omega)), fun g => absurd (Int32.le_refl _) g⟩
      · intro i w2 hi ⟨f2, c2⟩ ih
        refine A_X_alone_83 ⟨fun g => absurd g (nI_ge hi (by omega)), fun _ => c_nextMask hd1 (hX.rw f2) c2 (by omega) ?_⟩
        intro w3 f3 c3
        have ih := ih w3 ⟨fr_tr f2 f3, c3⟩
        have hM := spkM_lt T hX.okn (a + i)
        have ce := cnt_le (fun i => alnF p (spkM T N (a + i))) i
        rw [nI_1, nI_1]
        refine ⟨fun q12 => ?_, fun q12 => ?_⟩
        · have key : (nI (spkM T N (a + i)) = z) ↔ alnF p (spkM T N (a + i)) = true := by
            rw [hzz q12]
            unfold alnF
            by_cases q1 : p = -1
            · rw [if_pos q1, if_pos q1, decide_eq_true_eq, show (0 : Int32) = nI 0 from rfl, nI_eq (by omega) (by omega)]
            · rw [if_neg q1, if_neg q1, if_neg q12, decide_eq_true_eq]
              obtain ⟨j, hj, ep, ep2⟩ := vTold_x o0 ((g1.resolve_left q1).resolve_left q12)
              have := p11 (k := j) (by omega)
              rw [ep2, ep, li, qShl_n (by omega), nI_eq (by omega) (by omega)]
          refine ⟨fun q => b0 ?_, fun q => b1 ?_⟩
          · rw [cnt_0 (f := fun i => alnF p (spkM T N (a + i))) (by cases e : alnF p (spkM T N (a + i)) with | false => rfl | true => exact absurd (key.mpr e) q)] at ih
            exact ih
          · rw [cnt_1 (f := fun i => alnF p (spkM T N (a + i))) (key.mp q)] at ih
            exact ih
        · refine c_bitCount (by omega) hM ?_
          have hc12 : cntB (spkM T N (a + i)) ≤ 12 := by unfold cntB; exact Nat.le_trans (List.length_filter_le _ _) (by rw [List.length_range]; exact Nat.le_refl _)
          have key : (nI (cntB (spkM T N (a + i))) = 1) ↔ alnF p (spkM T N (a + i)) = true := by
            unfold alnF
            rw [if_neg (by rw [q12]; decide), if_pos q12, decide_eq_true_eq, show (1 : Int32) = nI 1 from rfl, nI_eq (by omega) (by omega)]
          refine ⟨fun q => b0 ?_, fun q => b1 ?_⟩
          · rw [cnt_0 (f := fun i => alnF p (spkM T N (a + i))) (by cases e : alnF p (spkM T N (a + i)) with | false => rfl | true => exact absurd (key.mpr e) q)] at ih
            exact ih
          · rw [cnt_1 (f := fun i => alnF p (spkM T N (a + i))) (key.mp q)] at ih
            exact ih
    refine ⟨fun q => c_begin hd1 hX (by omega) h1 (by omega) (fun w1 f1 c1 => loop _ w1 (fun _ => by rw [if_neg q]) f1 c1), fun q => c_begin hd1 hX (by omega) h1 (by omega) (fun w1 f1 c1 => loop _ w1 (fun _ => by rw [if_pos q]) f1 c1)⟩
  refine A_X_alone ⟨fun q => main (Or.inl q), fun q1 => ⟨fun q => main (Or.inr (Or.inl q)), fun q2 => c_isTold (by omega) hX.n.ppl o0 (fun g => b1 (main (Or.inr (Or.inr g)))) (fun g => b0 (A_X_alone_27 (b0 (hn (fun q => q.1.elim q1 (fun q => q.elim q2 g))))))⟩⟩
def oneOk (n : Nat) : Bool := decide ((¬ n = 0 ∧ n &&& (n - 1) = 0) ↔ cntB n = 1)
theorem one_all : (List.range 64).all (fun a => (List.range 64).all (fun b => oneOk (64 * a + b))) = true := by decide +kernel
theorem m_alone {p : Int32} {h : Int64} {n : Int32} (hd : 6 ≤ d) (hX : rM w N K T Z) (hy : ∀ w', vAln N p h n → fr (fun c => 79 ≤ c) w w' → Q (fAln T N p h n) w') (hn : ¬ vAln N p h n → Q (-1) w) : qCall (some s) d 284 [.ref 72, .int p, .long h, .int n] w (qQi Q) := by
  obtain ⟨d, rfl, hd1⟩ := dS hd
  have o0 := hX.okn.p12
  have main : (p = -1 ∨ p = 12 ∨ vTold (N 0 0) p) → qAt s d c_Mo_alone (qQi Q) 19 [some (.ref 72), some (.int p), some (.long h), none, some (.int n), none, none, none, none, none] [] w := by
    intro g1
    refine A_Mo_alone_19 ⟨fun g => hn (fun q => absurd g (Int32.not_lt.mpr q.2.1)), fun g2 => ?_⟩
    have g2 := Int32.not_lt.mp g2
    refine m_areHours (by omega) (fun g3 => n1 ?_) (fun g => n0 (hn (fun q => g q.2.2)))
    have g : vAln N p h n := ⟨g1, g2, g3⟩
    obtain ⟨a, m, e1, e2, e3, e4, h1, h2, h3⟩ := vHours_i g2 g3
    have hz : ∀ w', fr (fun c => 79 ≤ c) w w' → Q (nI (cnt (fun i => alnF p (spkM T N (a + i))) m)) w' := by
      intro w' q2
      have := hy w' g q2
      unfold fAln at this
      rw [e3, e4] at this
      exact this
    subst e1 e2
    refine m_take' hd1 hX ?_
    intro w2 f2 hX2 t2
    refine lpN (i := 0) (n := m) (P := fun i => qAt s d c_Mo_alone (qQi Q) 48 [some (.ref 72), some (.int p), some (.long (lN a)), none, some (.int (nI m)), some (.int (nI (cnt (fun i => alnF p (spkM T N (a + i))) i))), some (.long (lN (a + i))), none, none, none] [] w2) ?_ ?_ (Nat.zero_le _)
    · refine A_Mo_alone_48 ?_
      rw [nI_l (by omega), lN_add, lg_ge]
      exact ⟨fun _ => hz w2 f2, fun g => absurd (Int64.le_refl _) g⟩
    · intro i hi ih
      refine A_Mo_alone_48 ?_
      have hM := spkM_lt T hX.okn (a + i)
      rw [nI_l (by omega), lN_add, lg_ge, pk_lLE (by omega) (by omega)]
      refine ⟨fun g => absurd g (by omega), fun _ => m_speakers (by omega) hX2 (alike_rf N) hX.okn t2 (by omega) ?_⟩
      have fin : ∀ b : Bool, b = decide (cntB (spkM T N (a + i)) = 1) → qAt s d c_Mo_alone (qQi Q) 87 [some (.ref 72), some (.int p), some (.long (lN a)), none, some (.int (nI m)), some (.int (nI (cnt (fun i => alnF p (spkM T N (a + i))) i))), some (.long (lN (a + i))), none, some (.int (nI (spkM T N (a + i)))), none] [.int (tI b)] w2 := by
        intro b hb
        refine A_Mo_alone_87 ?_
        rw [nI_1, show nI (cnt (fun i => alnF p (spkM T N (a + i))) i) + (0 : Int32) = nI (cnt (fun i => alnF p (spkM T N (a + i))) i) from Int32.add_zero _, show lN (a + i) + (1 : Int64) = lN (a + (i + 1)) from by rw [ll, lN_add]; rfl]
        refine ⟨fun q0 => ⟨fun q12 => ?_, fun q12 => tI_b (fun gb => ?_) (fun gb => ?_)⟩, fun q0 => ?_⟩
        · have q1 : ¬ p = -1 := fun e => by rw [e] at q0; exact absurd q0 (by decide)
          have key : (nI (spkM T N (a + i)) = qShl 1 p) ↔ alnF p (spkM T N (a + i)) = true := by
            unfold alnF
            rw [if_neg q1, if_neg q12, decide_eq_true_eq]
            obtain ⟨j, hj, ep, ep2⟩ := vTold_x o0 ((g1.resolve_left q1).resolve_left q12)
            have := p11 (k := j) (by omega)
            rw [ep2, ep, li, qShl_n (by omega), nI_eq (by omega) (by omega)]
          refine ⟨fun q => ?_, fun q => ?_⟩
          · rw [cnt_0 (f := fun i => alnF p (spkM T N (a + i))) (by cases e : alnF p (spkM T N (a + i)) with | false => rfl | true => exact absurd (key.mpr e) q)] at ih
            exact ih
          · rw [cnt_1 (f := fun i => alnF p (spkM T N (a + i))) (key.mp q)] at ih
            exact ih
        · rw [cnt_1 (f := fun i => alnF p (spkM T N (a + i))) (by unfold alnF; rw [if_neg (by rw [q12]; decide), if_pos q12, ← hb]; exact gb)] at ih
          exact ih
        · rw [cnt_0 (f := fun i => alnF p (spkM T N (a + i))) (by unfold alnF; rw [if_neg (by rw [q12]; decide), if_pos q12, ← hb]; exact gb)] at ih
          exact ih
        · have q1 : p = -1 := by
            rcases g1 with q | q | q
            · exact q
            · rw [q] at q0; exact absurd (by decide) q0
            · exact absurd q.1 q0
          have key : (nI (spkM T N (a + i)) = 0) ↔ alnF p (spkM T N (a + i)) = true := by
            unfold alnF
            rw [if_pos q1, decide_eq_true_eq, show (0 : Int32) = nI 0 from rfl, nI_eq (by omega) (by omega)]
          refine ⟨fun q => ?_, fun q => ?_⟩
          · rw [cnt_0 (f := fun i => alnF p (spkM T N (a + i))) (by cases e : alnF p (spkM T N (a + i)) with | false => rfl | true => exact absurd (key.mpr e) q)] at ih
            exact ih
          · rw [cnt_1 (f := fun i => alnF p (spkM T N (a + i))) (key.mp q)] at ih
            exact ih
      have ok : (¬ spkM T N (a + i) = 0 ∧ spkM T N (a + i) &&& (spkM T N (a + i) - 1) = 0) ↔ cntB (spkM T N (a + i)) = 1 := of_decide_eq_true (all4096 one_all hM)
      have hand : spkM T N (a + i) &&& (spkM T N (a + i) - 1) < 4096 := Nat.lt_of_le_of_lt Nat.and_le_left hM
      rw [show (0 : Int32) = nI 0 from rfl, nI_eq (by omega) (by omega)]
      refine ⟨fun q => fin false (decide_eq_false (fun q2 => (ok.mpr q2).1 q)).symm, fun q => ?_⟩
      rw [li, nI_sub' (by omega), nI_and, nI_eq (by omega) (by omega)]
      exact ⟨fun q2 => fin false (decide_eq_false (fun q3 => q2 (ok.mpr q3).2)).symm, fun q2 => fin true (decide_eq_true (ok.mp ⟨q, q2⟩)).symm⟩
  refine A_Mo_alone ⟨fun q => main (Or.inl q), fun q1 => ⟨fun q => main (Or.inr (Or.inl q)), fun q2 => m_isPerson (by omega) hX.n.ppl o0 (fun g => b1 (main (Or.inr (Or.inr g)))) (fun g => b0 (hn (fun q => q.1.elim q1 (fun q => q.elim q2 g))))⟩⟩
end Scan
