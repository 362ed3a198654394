/-! The class: who is barred at which clock, laid out anew. -/
section Open
variable {s : Nat × (Nat → Int32)} {d : Nat} {w : qW} {Q : Int32 → qW → Prop} {R : qW → Prop} {N K : vS} {T : Nat → vT} {Z : vZ}
/-- a loop that goes up -/
theorem lpU {I P : Nat → qW → Prop} {n : Nat} (fin : ∀ w, I n w → P n w) (st : ∀ i w, i < n → I i w → (∀ w', I (i + 1) w' → P (i + 1) w') → P i w) : ∀ {i : Nat} {w : qW}, i ≤ n → I i w → P i w := by
  have h : ∀ k i w, n - i = k → i ≤ n → I i w → P i w := by
    intro k
    induction k with
    | zero =>
      intro i w hk hi hI
      have e : i = n := by omega
      subst e
      exact fin w hI
    | succ k ih =>
      intro i w hk hi hI
      exact st i w (by omega) hI (fun w' hw => ih (i + 1) w' (by omega) (by omega) hw)
  intro i w hi hI
  exact h _ i w rfl hi hI
/-- what opening needs of the class's side -/
def rV (w : qW) (N : vS) (T : Nat → vT) : Prop := (rS w 2 N) ∧ (okS N) ∧ (∀ i, i < N 3 0 → rT w (27 + 5 * i) (T i)) ∧ (∀ i, i < N 3 0 → okT (T i))
theorem rV.n {w : qW} {N : vS} {T : Nat → vT} (h : rV w N T) : rS w 2 N := h.1
theorem rV.okn {w : qW} {N : vS} {T : Nat → vT} (h : rV w N T) : okS N := h.2.1
theorem rV.t {w : qW} {N : vS} {T : Nat → vT} (h : rV w N T) : ∀ i, i < N 3 0 → rT w (27 + 5 * i) (T i) := h.2.2.1
theorem rV.okt {w : qW} {N : vS} {T : Nat → vT} (h : rV w N T) : ∀ i, i < N 3 0 → okT (T i) := h.2.2.2
theorem rV.mk {w : qW} {N : vS} {T : Nat → vT} (f_n : rS w 2 N) (f_okn : okS N) (f_t : ∀ i, i < N 3 0 → rT w (27 + 5 * i) (T i)) (f_okt : ∀ i, i < N 3 0 → okT (T i)) : rV w N T := ⟨f_n, f_okn, f_t, f_okt⟩
theorem rX.v (h : rX w N K T Z) : rV w N T := rV.mk h.n h.okn h.t h.okt
theorem rV.keep {w w' : qW} {A : Nat → Prop} (h : rV w N T) (hf : fr A w w') (hA : ∀ c, 2 ≤ c → c ≤ 46 → ¬ A c) : rV w' N T := by
  have e : ∀ c, 2 ≤ c → c ≤ 46 → w'.1 c = w.1 c ∧ w'.2.1 c = w.2.1 c := fun c h1 h2 => hf c (hA c h1 h2)
  refine rV.mk (rS_fr h.n fun k hk => e _ (by omega) (by omega)) h.okn ?_ h.okt
  intro i hi
  have := h.okn.txs
  exact rT_fr (h.t i hi) fun k hk => (e _ (by omega) (by omega)).1
theorem txc_i {i : Nat} (h : i < 4) : txc (27 + 5 * i) := by
  have : i = 0 ∨ i = 1 ∨ i = 2 ∨ i = 3 := by omega
  rcases this with rfl | rfl | rfl | rfl
  · exact Or.inl rfl
  · exact Or.inr (Or.inl rfl)
  · exact Or.inr (Or.inr (Or.inl rfl))
  · exact Or.inr (Or.inr (Or.inr rfl))
theorem c_isShut {i p cl : Nat} (hd : 4 ≤ d) (hV : rV w N T) (hi : i < N 3 0) (hp : p < N 0 0) (hc : cl < 60) (hQ : ∀ w', fr (fun c => c = 48 ∨ c = 49) w w' → Q (tI ((List.range (T i).1).any (fun k => shut (T i) N p cl k))) w') : qCall (some s) d 19 [.ref 50, .ref (27 + 5 * i), .int (nI p), .int (nI cl)] w (qQi Q) := by
  obtain ⟨d, rfl, hd1⟩ := dS hd
  have o := hV.okn
  have o0 := o.p12
  have o3 := o.txs
  have tx := txc_i (i := i) (by omega)
  have rt := hV.t i hi
  have ot := hV.okt i hi
  have o24 := ot.nc
  refine G_Voices_isShut tx ?_
  have hp12 : p < 12 := by omega
  simp (disch := omega) only [li, ll, nI_add, nI_mul', nI_sub', nI_div', qRem_nI, lN_add, lN_mul, lN_sub, lN_div', qRemL_lN, qIn_I, qIx_nI, nI_ltI, nI_leI, nI_eq, nI_eqn, nI_eqn', nI_len, nI_ltn, nI_nle', nI_nlt', lN_eqn, lg_lt, lg_gt, lg_eq, lg_le, lg_ge, lgn_lt, lgn_gt, lgn_eq, lgn_le, lgn_ge, pk_lLT, pk_lLE, pk_lEQ, nI_l, lN_i, qShl_n, nI_and, nI_or, lN_and, lN_or, nI_andn, lN_andn, pI_e, pI_f, pI_c, pL_e, pL_f, pL_c, pI_L, pL_I, qB_1, qZb_n, true_and, and_true, forall_const, not_true_eq_false, not_false_eq_true, Nat.reduceLT, Nat.reduceLeDiff, Nat.reduceEqDiff, Nat.reduceAdd, Nat.reduceMul, Nat.reduceSub, Nat.reduceMod, Nat.reduceDiv, false_implies, implies_true, hV.n.num p hp, hV.n.fst p hp]
  (repeat (refine And.intro (by omega) ?_))
  refine lpU (i := 0) (n := (T i).1) (I := fun k w' => fr (fun c => c = 48 ∨ c = 49) w w' ∧ (w'.1 48 0 = nI cl ∧ w'.1 48 1 = nI (N 10 p) ∧ w'.1 48 2 = nI (N 11 p) ∧ w'.1 48 3 = nI p) ∧ (List.range k).any (fun k => shut (T i) N p cl k) = false) (P := fun k w' => qAt s d c_Voices_isShut (qQi Q) 59 [some (.ref 50), some (.ref (27 + 5 * i)), none, none, some (.int (nI k))] [] w') ?_ ?_ (Nat.zero_le _) ?_
  · intro w' ⟨f, _, ha⟩
    refine G_Voices_isShut_59 tx ?_
    have e0 : w'.1 (27 + 5 * i) 0 = nI (T i).1 := by rw [(f _ (by omega)).1]; exact rt.nc
    simp (disch := omega) only [li, ll, nI_add, nI_mul', nI_sub', nI_div', qRem_nI, lN_add, lN_mul, lN_sub, lN_div', qRemL_lN, qIn_I, qIx_nI, nI_ltI, nI_leI, nI_eq, nI_eqn, nI_eqn', nI_len, nI_ltn, nI_nle', nI_nlt', lN_eqn, lg_lt, lg_gt, lg_eq, lg_le, lg_ge, lgn_lt, lgn_gt, lgn_eq, lgn_le, lgn_ge, pk_lLT, pk_lLE, pk_lEQ, nI_l, lN_i, qShl_n, nI_and, nI_or, lN_and, lN_or, nI_andn, lN_andn, pI_e, pI_f, pI_c, pL_e, pL_f, pL_c, pI_L, pL_I, qB_1, qZb_n, true_and, and_true, forall_const, not_true_eq_false, not_false_eq_true, Nat.reduceLT, Nat.reduceLeDiff, Nat.reduceEqDiff, Nat.reduceAdd, Nat.reduceMul, Nat.reduceSub, Nat.reduceMod, Nat.reduceDiv, false_implies, implies_true, e0]
    refine ⟨fun _ => ?_, fun g => absurd (Nat.le_refl _) g⟩
    have := hQ w' f
    rw [ha] at this
    exact this
  · intro k w' hk ⟨f, ⟨m0, m1, m2, m3⟩, ha⟩ ih
    refine G_Voices_isShut_59 tx ?_
    have e0 : w'.1 (27 + 5 * i) 0 = nI (T i).1 := by rw [(f _ (by omega)).1]; exact rt.nc
    have e1 : w'.1 (27 + 5 * i + 1) k = nI ((T i).2.1 k).1 := by rw [(f _ (by omega)).1]; exact rt.kind k hk
    have hk4 := ot.kind k hk
    have hk24 : k < 24 := by omega
    simp (disch := omega) only [li, ll, nI_add, nI_mul', nI_sub', nI_div', qRem_nI, lN_add, lN_mul, lN_sub, lN_div', qRemL_lN, qIn_I, qIx_nI, nI_ltI, nI_leI, nI_eq, nI_eqn, nI_eqn', nI_len, nI_ltn, nI_nle', nI_nlt', lN_eqn, lg_lt, lg_gt, lg_eq, lg_le, lg_ge, lgn_lt, lgn_gt, lgn_eq, lgn_le, lgn_ge, pk_lLT, pk_lLE, pk_lEQ, nI_l, lN_i, qShl_n, nI_and, nI_or, lN_and, lN_or, nI_andn, lN_andn, pI_e, pI_f, pI_c, pL_e, pL_f, pL_c, pI_L, pL_I, qB_1, qZb_n, true_and, and_true, forall_const, not_true_eq_false, not_false_eq_true, Nat.reduceLT, Nat.reduceLeDiff, Nat.reduceEqDiff, Nat.reduceAdd, Nat.reduceMul, Nat.reduceSub, Nat.reduceMod, Nat.reduceDiv, false_implies, implies_true, e0, e1]
    refine ⟨fun g => absurd g (by omega), fun _ => ⟨hk24, fun g => ?_, fun g => ⟨hk24, hk24, ?_⟩⟩⟩
    · refine ih w' ⟨f, ⟨m0, m1, m2, m3⟩, ?_⟩
      rw [any_succ, ha, Bool.false_or]
      unfold shut
      rw [decide_eq_false g, Bool.false_and]
    · obtain ⟨f0, h1, h2, h3, h4⟩ := rt.code k hk (by omega)
      have e2 : w'.1 (27 + 5 * i + 2) k = nI f0 := by rw [(f _ (by omega)).1]; exact h1
      have e3 : w'.1 (27 + 5 * i + 3) k = nI (f0 + ((T i).2.2 k).length) := by rw [(f _ (by omega)).1]; exact h2
      rw [e2, e3]
      refine c_run (b := true) (nm := nmB N p cl) (by omega) tx ?_ h3 (ot.p1 k hk g) ?_ ?_
      · intro k2 hk2 hb
        have hk4 : k2 < 4 := of_decide_eq_true hb.symm
        have hk5 : k2 = 0 ∨ k2 = 1 ∨ k2 = 2 ∨ k2 = 3 := by omega
        have on := o.num p hp
        have of := o.fst p hp
        rcases hk5 with rfl | rfl | rfl | rfl
        · rw [m0]; exact ⟨nI_Z _, by show mil (cl : Int); unfold mil; omega⟩
        · rw [m1]; exact ⟨nI_Z _, by show mil (N 10 p : Int); unfold mil; omega⟩
        · rw [m2]; exact ⟨nI_Z _, by show mil (N 11 p : Int); unfold mil; omega⟩
        · rw [m3]; exact ⟨nI_Z _, by show mil (p : Int); unfold mil; omega⟩
      · intro j hj
        rw [(f _ (by omega)).1]
        exact h4 j hj
      · intro w'' f2
        have ff : fr (fun c => c = 48 ∨ c = 49) w w'' := fr_tr f (fr_wk f2 (fun c hc => Or.inr hc))
        have es : shut (T i) N p cl k = (evc (nmB N p cl) ((T i).2.2 k) [] []).2.headD false := by
          unfold shut; rw [decide_eq_true g, Bool.true_and]
        unfold resB
        rw [if_pos rfl, ← es]
        cases hs : shut (T i) N p cl k with
        | false =>
          refine ⟨fun _ => ih w'' ⟨ff, ?_, ?_⟩, fun g => absurd rfl g⟩
          · rw [(f2 48 (by decide)).1]; exact ⟨m0, m1, m2, m3⟩
          · rw [any_succ, ha, hs]; rfl
        | true =>
          refine ⟨fun g => absurd g (by decide), fun _ => ?_⟩
          have := hQ w'' ff
          rw [any_le (k := k + 1) (by omega) (by rw [any_succ, hs, Bool.or_true])] at this
          exact this
  · refine ⟨fr_I (fr_I (fr_I (fr_pI (Or.inl rfl)) (Or.inl rfl)) (Or.inl rfl)) (Or.inl rfl), ⟨?_, ?_, ?_, ?_⟩, rfl⟩
    · simp (disch := omega) only [li, ll, nI_add, nI_mul', nI_sub', nI_div', qRem_nI, lN_add, lN_mul, lN_sub, lN_div', qRemL_lN, qIn_I, qIx_nI, nI_ltI, nI_leI, nI_eq, nI_eqn, nI_eqn', nI_len, nI_ltn, nI_nle', nI_nlt', lN_eqn, lg_lt, lg_gt, lg_eq, lg_le, lg_ge, lgn_lt, lgn_gt, lgn_eq, lgn_le, lgn_ge, pk_lLT, pk_lLE, pk_lEQ, nI_l, lN_i, qShl_n, nI_and, nI_or, lN_and, lN_or, nI_andn, lN_andn, pI_e, pI_f, pI_c, pL_e, pL_f, pL_c, pI_L, pL_I, qB_1, qZb_n, true_and, and_true, forall_const, not_true_eq_false, not_false_eq_true, Nat.reduceLT, Nat.reduceLeDiff, Nat.reduceEqDiff, Nat.reduceAdd, Nat.reduceMul, Nat.reduceSub, Nat.reduceMod, Nat.reduceDiv, false_implies, implies_true]
    · simp (disch := omega) only [li, ll, nI_add, nI_mul', nI_sub', nI_div', qRem_nI, lN_add, lN_mul, lN_sub, lN_div', qRemL_lN, qIn_I, qIx_nI, nI_ltI, nI_leI, nI_eq, nI_eqn, nI_eqn', nI_len, nI_ltn, nI_nle', nI_nlt', lN_eqn, lg_lt, lg_gt, lg_eq, lg_le, lg_ge, lgn_lt, lgn_gt, lgn_eq, lgn_le, lgn_ge, pk_lLT, pk_lLE, pk_lEQ, nI_l, lN_i, qShl_n, nI_and, nI_or, lN_and, lN_or, nI_andn, lN_andn, pI_e, pI_f, pI_c, pL_e, pL_f, pL_c, pI_L, pL_I, qB_1, qZb_n, true_and, and_true, forall_const, not_true_eq_false, not_false_eq_true, Nat.reduceLT, Nat.reduceLeDiff, Nat.reduceEqDiff, Nat.reduceAdd, Nat.reduceMul, Nat.reduceSub, Nat.reduceMod, Nat.reduceDiv, false_implies, implies_true]
    · simp (disch := omega) only [li, ll, nI_add, nI_mul', nI_sub', nI_div', qRem_nI, lN_add, lN_mul, lN_sub, lN_div', qRemL_lN, qIn_I, qIx_nI, nI_ltI, nI_leI, nI_eq, nI_eqn, nI_eqn', nI_len, nI_ltn, nI_nle', nI_nlt', lN_eqn, lg_lt, lg_gt, lg_eq, lg_le, lg_ge, lgn_lt, lgn_gt, lgn_eq, lgn_le, lgn_ge, pk_lLT, pk_lLE, pk_lEQ, nI_l, lN_i, qShl_n, nI_and, nI_or, lN_and, lN_or, nI_andn, lN_andn, pI_e, pI_f, pI_c, pL_e, pL_f, pL_c, pI_L, pL_I, qB_1, qZb_n, true_and, and_true, forall_const, not_true_eq_false, not_false_eq_true, Nat.reduceLT, Nat.reduceLeDiff, Nat.reduceEqDiff, Nat.reduceAdd, Nat.reduceMul, Nat.reduceSub, Nat.reduceMod, Nat.reduceDiv, false_implies, implies_true]
    · simp (disch := omega) only [li, ll, nI_add, nI_mul', nI_sub', nI_div', qRem_nI, lN_add, lN_mul, lN_sub, lN_div', qRemL_lN, qIn_I, qIx_nI, nI_ltI, nI_leI, nI_eq, nI_eqn, nI_eqn', nI_len, nI_ltn, nI_nle', nI_nlt', lN_eqn, lg_lt, lg_gt, lg_eq, lg_le, lg_ge, lgn_lt, lgn_gt, lgn_eq, lgn_le, lgn_ge, pk_lLT, pk_lLE, pk_lEQ, nI_l, lN_i, qShl_n, nI_and, nI_or, lN_and, lN_or, nI_andn, lN_andn, pI_e, pI_f, pI_c, pL_e, pL_f, pL_c, pI_L, pL_I, qB_1, qZb_n, true_and, and_true, forall_const, not_true_eq_false, not_false_eq_true, Nat.reduceLT, Nat.reduceLeDiff, Nat.reduceEqDiff, Nat.reduceAdd, Nat.reduceMul, Nat.reduceSub, Nat.reduceMod, Nat.reduceDiv, false_implies, implies_true]
theorem c_rul (hV : rV w N T) : (N 4 0 = 0 ∧ w.1 2 7 = -(nI 1)) ∨ ∃ i, N 4 0 = i + 1 ∧ i < 4 ∧ i < N 3 0 ∧ w.1 2 7 = nI i := by
  have h := hV.n.rul
  have o := hV.okn.rul
  have o3 := hV.okn.txs
  cases hi : N 4 0 with
  | zero => left; rw [hi] at h; exact ⟨rfl, h⟩
  | succ i =>
    right
    rw [hi] at h
    exact ⟨i, rfl, by omega, by omega, by rw [h]; exact pk_m1 i⟩
theorem qR0_24 {i : Nat} (h : i < 4) : qR0 24 i = some (27 + 5 * i) := by
  have : i = 0 ∨ i = 1 ∨ i = 2 ∨ i = 3 := by omega
  rcases this with rfl | rfl | rfl | rfl <;> rfl
theorem c_rulingText {QR : Option Nat → qW → Prop} (hd : 1 ≤ d) (hV : rV w N T) (h0 : N 4 0 = 0 → QR none w) (h1 : ∀ i, N 4 0 = i + 1 → i < 4 → i < N 3 0 → QR (some (27 + 5 * i)) w) : qCall (some s) d 18 [.ref 50] w (qQr QR) := by
  obtain ⟨d, rfl, -⟩ := dS hd
  refine A_Voices_rulingText ?_
  have e3 := hV.n.txs
  have o3 := hV.okn.txs
  rcases c_rul hV with ⟨e, e2⟩ | ⟨i, e, hi, hi3, e2⟩
  · rw [e2]
    exact ⟨fun _ => h0 e, fun g => absurd (show -(nI 1) < (0 : Int32) by decide) g⟩
  · simp (disch := omega) only [li, ll, nI_add, nI_mul', nI_sub', nI_div', qRem_nI, lN_add, lN_mul, lN_sub, lN_div', qRemL_lN, qIn_I, qIx_nI, nI_ltI, nI_leI, nI_eq, nI_eqn, nI_eqn', nI_len, nI_ltn, nI_nle', nI_nlt', lN_eqn, lg_lt, lg_gt, lg_eq, lg_le, lg_ge, lgn_lt, lgn_gt, lgn_eq, lgn_le, lgn_ge, pk_lLT, pk_lLE, pk_lEQ, nI_l, lN_i, qShl_n, nI_and, nI_or, lN_and, lN_or, nI_andn, lN_andn, pI_e, pI_f, pI_c, pL_e, pL_f, pL_c, pI_L, pL_I, qB_1, qZb_n, true_and, and_true, forall_const, not_true_eq_false, not_false_eq_true, Nat.reduceLT, Nat.reduceLeDiff, Nat.reduceEqDiff, Nat.reduceAdd, Nat.reduceMul, Nat.reduceSub, Nat.reduceMod, Nat.reduceDiv, false_implies, implies_true, e2, e3]
    refine ⟨fun g => absurd g (by omega), fun _ => ⟨fun g => absurd g (by omega), fun _ => ⟨fun g => absurd g (by omega), fun _ => ⟨hi, _, qR0_24 hi, h1 i e hi hi3⟩⟩⟩⟩
/-- the row of who isn't barred: as numbers -/
def rO (w : qW) (O : Nat → Nat) : Prop := ∀ c, c < 60 → w.1 51 c = nI (O c) ∧ O c < 4096
theorem qAl4 {i : Nat} (h : i < 4) {A : Prop} (hA : A) : qB (qAl (some s) w (27 + 5 * i) 4) A := by
  have : i = 0 ∨ i = 1 ∨ i = 2 ∨ i = 3 := by omega
  rcases this with rfl | rfl | rfl | rfl <;> exact hA
theorem brd_f {p c i : Nat} (e : N 4 0 = i + 1) : brd T N p c = (List.range (T i).1).any (fun k => shut (T i) N p c k) := by
  unfold brd
  have er : rul T N = T i := by unfold rul; rw [e]; rfl
  rw [er, e, decide_eq_true (by omega), Bool.true_and]
theorem brd_0 {p c : Nat} (e : N 4 0 = 0) : brd T N p c = false := by
  unfold brd; rw [e]; rfl
theorem or_lt12 {n p : Nat} (h : n < 4096) (hp : p < 12) : n ||| 2 ^ p < 4096 := Nat.or_lt_two_pow (n := 12) h (p11 hp)
theorem andn_lt12 {n m : Nat} (h : n < 4096) : andn n m < 4096 := andn_lt (n := 12) h
theorem bit_andn_pow (n k j : Nat) : (andn n (2 ^ k)).testBit j = (n.testBit j && !decide (k = j)) := by
  rw [andn_bit, Nat.testBit_two_pow]
theorem c_openFor {O : Nat → Nat} {p : Nat} (hd : 5 ≤ d) (hV : rV w N T) (hO : rO w O) (hp : p < N 0 0) (hQ : ∀ w' O', fr (fun c => c = 48 ∨ c = 49 ∨ c = 51) w w' → rO w' O' → (∀ c q, c < N 2 0 → (O' c).testBit q = if q = p then !brd T N p c else (O c).testBit q) → R w') : qCall (some s) d 17 [.ref 50, .int (nI p)] w (qQv R) := by
  obtain ⟨d, rfl, hd1⟩ := dS hd
  have o := hV.okn
  have o0 := o.p12
  have o2 := o.clk
  have ec := hV.n.clk
  have hp12 : p < 12 := by omega
  have stp : ∀ (i : Nat) (w2 : qW) (O2 : Nat → Nat), i < N 2 0 → fr (fun c => c = 48 ∨ c = 49 ∨ c = 51) w w2 → rO w2 O2 → (∀ c q, c < i → (O2 c).testBit q = if q = p then !brd T N p c else (O c).testBit q) → (∀ c, i ≤ c → O2 c = O c) →
      ∀ b : Bool, b = brd T N p i → (fr (fun c => c = 48 ∨ c = 49 ∨ c = 51) w (qPutI w2 51 i (nI (if b then andn (O2 i) (2 ^ p) else O2 i ||| 2 ^ p)))) ∧ ∃ O3, rO (qPutI w2 51 i (nI (if b then andn (O2 i) (2 ^ p) else O2 i ||| 2 ^ p))) O3 ∧ (∀ c q, c < i + 1 → (O3 c).testBit q = if q = p then !brd T N p c else (O c).testBit q) ∧ (∀ c, i + 1 ≤ c → O3 c = O c) := by
    intro i w2 O2 hi f r2 h1 h2 b hb
    have h4 := (r2 i (by omega)).2
    refine ⟨fr_I f (by decide), fun c => if c = i then (if b then andn (O2 i) (2 ^ p) else O2 i ||| 2 ^ p) else O2 c, ?_, ?_, ?_⟩
    · intro c hc
      show _ = nI (if c = i then _ else _) ∧ (if c = i then _ else _) < 4096
      by_cases e : c = i
      · subst e
        rw [pI_e, if_pos rfl]
        refine ⟨rfl, ?_⟩
        cases b
        · exact or_lt12 h4 hp12
        · exact andn_lt12 h4
      · rw [pI_f e, if_neg e]; exact r2 c hc
    · intro c q hc
      show (if c = i then (if b then andn (O2 i) (2 ^ p) else O2 i ||| 2 ^ p) else O2 c).testBit q = _
      by_cases e : c = i
      · subst e
        rw [if_pos rfl, ← hb, ← h2 c (Nat.le_refl _)]
        cases b
        · rw [if_neg (by decide), bit_or_pow]
          by_cases g : q = p
          · subst g; simp
          · rw [if_neg g, decide_eq_false (fun e => g e.symm), Bool.or_false]
        · rw [if_pos rfl, bit_andn_pow]
          by_cases g : q = p
          · subst g; simp
          · rw [if_neg g, decide_eq_false (fun e => g e.symm)]; simp
      · rw [if_neg e]; exact h1 c q (by omega)
    · intro c hc
      show (if c = i then _ else _) = _
      rw [if_neg (by omega)]; exact h2 c (by omega)
  refine A_Voices_openFor (c_rulingText (by omega) hV (fun e4 => ?_) (fun i e4 hi hi3 => ?_))
  · refine ⟨fun u hu => (by cases hu), fun _ => ?_⟩
    refine lpU (i := 0) (n := N 2 0) (I := fun i w2 => fr (fun c => c = 48 ∨ c = 49 ∨ c = 51) w w2 ∧ ∃ O2, rO w2 O2 ∧ (∀ c q, c < i → (O2 c).testBit q = if q = p then !brd T N p c else (O c).testBit q) ∧ (∀ c, i ≤ c → O2 c = O c)) (P := fun i w2 => qAt s d c_Voices_openFor (qQv R) 25 [some (.ref 50), some (.int (nI p)), some (.null), some (.int (nI 0)), some (.int (nI i)), none] [] w2) ?_ ?_ (Nat.zero_le _) ?_
    · intro w2 ⟨f, O2, r2, h1, h2⟩
      refine A_Voices_openFor_25b ?_
      have ec2 : w2.1 2 5 = nI (N 2 0) := by rw [(f 2 (by decide)).1]; exact ec
      simp (disch := omega) only [li, ll, nI_add, nI_mul', nI_sub', nI_div', qRem_nI, lN_add, lN_mul, lN_sub, lN_div', qRemL_lN, qIn_I, qIx_nI, nI_ltI, nI_leI, nI_eq, nI_eqn, nI_eqn', nI_len, nI_ltn, nI_nle', nI_nlt', lN_eqn, lg_lt, lg_gt, lg_eq, lg_le, lg_ge, lgn_lt, lgn_gt, lgn_eq, lgn_le, lgn_ge, pk_lLT, pk_lLE, pk_lEQ, nI_l, lN_i, qShl_n, nI_and, nI_or, lN_and, lN_or, nI_andn, lN_andn, pI_e, pI_f, pI_c, pL_e, pL_f, pL_c, pI_L, pL_I, qB_1, qZb_n, true_and, and_true, forall_const, not_true_eq_false, not_false_eq_true, Nat.reduceLT, Nat.reduceLeDiff, Nat.reduceEqDiff, Nat.reduceAdd, Nat.reduceMul, Nat.reduceSub, Nat.reduceMod, Nat.reduceDiv, false_implies, implies_true, ec2]
      exact ⟨fun _ => hQ w2 O2 f r2 h1, fun g => absurd (Nat.le_refl _) g⟩
    · intro i w2 hi ⟨f, O2, r2, h1, h2⟩ ih
      refine A_Voices_openFor_25b ?_
      have ec2 : w2.1 2 5 = nI (N 2 0) := by rw [(f 2 (by decide)).1]; exact ec
      simp (disch := omega) only [li, ll, nI_add, nI_mul', nI_sub', nI_div', qRem_nI, lN_add, lN_mul, lN_sub, lN_div', qRemL_lN, qIn_I, qIx_nI, nI_ltI, nI_leI, nI_eq, nI_eqn, nI_eqn', nI_len, nI_ltn, nI_nle', nI_nlt', lN_eqn, lg_lt, lg_gt, lg_eq, lg_le, lg_ge, lgn_lt, lgn_gt, lgn_eq, lgn_le, lgn_ge, pk_lLT, pk_lLE, pk_lEQ, nI_l, lN_i, qShl_n, nI_and, nI_or, lN_and, lN_or, nI_andn, lN_andn, pI_e, pI_f, pI_c, pL_e, pL_f, pL_c, pI_L, pL_I, qB_1, qZb_n, true_and, and_true, forall_const, not_true_eq_false, not_false_eq_true, Nat.reduceLT, Nat.reduceLeDiff, Nat.reduceEqDiff, Nat.reduceAdd, Nat.reduceMul, Nat.reduceSub, Nat.reduceMod, Nat.reduceDiv, false_implies, implies_true, ec2]
      refine ⟨fun g => absurd g (by omega), fun _ => ?_⟩
      refine A_Voices_openFor_57b ⟨fun _ => ?_, fun g => absurd rfl g⟩
      obtain ⟨f3, O3, r3, h13, h23⟩ := stp i w2 O2 hi f r2 h1 h2 false (brd_0 e4).symm
      have hi60 : i < 60 := by omega
      simp (disch := omega) only [li, ll, nI_add, nI_mul', nI_sub', nI_div', qRem_nI, lN_add, lN_mul, lN_sub, lN_div', qRemL_lN, qIn_I, qIx_nI, nI_ltI, nI_leI, nI_eq, nI_eqn, nI_eqn', nI_len, nI_ltn, nI_nle', nI_nlt', lN_eqn, lg_lt, lg_gt, lg_eq, lg_le, lg_ge, lgn_lt, lgn_gt, lgn_eq, lgn_le, lgn_ge, pk_lLT, pk_lLE, pk_lEQ, nI_l, lN_i, qShl_n, nI_and, nI_or, lN_and, lN_or, nI_andn, lN_andn, pI_e, pI_f, pI_c, pL_e, pL_f, pL_c, pI_L, pL_I, qB_1, qZb_n, true_and, and_true, forall_const, not_true_eq_false, not_false_eq_true, Nat.reduceLT, Nat.reduceLeDiff, Nat.reduceEqDiff, Nat.reduceAdd, Nat.reduceMul, Nat.reduceSub, Nat.reduceMod, Nat.reduceDiv, false_implies, implies_true, (r2 i hi60).1]
      (repeat (refine And.intro (by omega) ?_))
      exact ih _ ⟨f3, O3, r3, h13, h23⟩
    · exact ⟨fr_rf _ _, O, hO, fun c q hc => by omega, fun c _ => rfl⟩
  · refine ⟨fun u hu => ?_, fun e => by cases e⟩
    have eu : 27 + 5 * i = u := Option.some.inj hu
    subst eu
    obtain ⟨b, eb, b24, hb⟩ := (hV.t i hi3).bars
    refine qAl4 hi ?_
    have main : ∀ r : Nat, (r = 0 ∧ b = 0 ∨ r = 1) → qAt s d c_Voices_openFor (qQv R) 25 [some (.ref 50), some (.int (nI p)), some (.ref (27 + 5 * i)), some (.int (nI r)), some (.int (nI 0)), none] [] w := by
      intro r hr
      refine lpU (i := 0) (n := N 2 0) (I := fun j w2 => fr (fun c => c = 48 ∨ c = 49 ∨ c = 51) w w2 ∧ ∃ O2, rO w2 O2 ∧ (∀ c q, c < j → (O2 c).testBit q = if q = p then !brd T N p c else (O c).testBit q) ∧ (∀ c, j ≤ c → O2 c = O c)) (P := fun j w2 => qAt s d c_Voices_openFor (qQv R) 25 [some (.ref 50), some (.int (nI p)), some (.ref (27 + 5 * i)), some (.int (nI r)), some (.int (nI j)), none] [] w2) ?_ ?_ (Nat.zero_le _) ?_
      · intro w2 ⟨f, O2, r2, h1, h2⟩
        refine A_Voices_openFor_25 ?_
        have ec2 : w2.1 2 5 = nI (N 2 0) := by rw [(f 2 (by decide)).1]; exact ec
        simp (disch := omega) only [li, ll, nI_add, nI_mul', nI_sub', nI_div', qRem_nI, lN_add, lN_mul, lN_sub, lN_div', qRemL_lN, qIn_I, qIx_nI, nI_ltI, nI_leI, nI_eq, nI_eqn, nI_eqn', nI_len, nI_ltn, nI_nle', nI_nlt', lN_eqn, lg_lt, lg_gt, lg_eq, lg_le, lg_ge, lgn_lt, lgn_gt, lgn_eq, lgn_le, lgn_ge, pk_lLT, pk_lLE, pk_lEQ, nI_l, lN_i, qShl_n, nI_and, nI_or, lN_and, lN_or, nI_andn, lN_andn, pI_e, pI_f, pI_c, pL_e, pL_f, pL_c, pI_L, pL_I, qB_1, qZb_n, true_and, and_true, forall_const, not_true_eq_false, not_false_eq_true, Nat.reduceLT, Nat.reduceLeDiff, Nat.reduceEqDiff, Nat.reduceAdd, Nat.reduceMul, Nat.reduceSub, Nat.reduceMod, Nat.reduceDiv, false_implies, implies_true, ec2]
        exact ⟨fun _ => hQ w2 O2 f r2 h1, fun g => absurd (Nat.le_refl _) g⟩
      · intro j w2 hj ⟨f, O2, r2, h1, h2⟩ ih
        refine A_Voices_openFor_25 ?_
        have ec2 : w2.1 2 5 = nI (N 2 0) := by rw [(f 2 (by decide)).1]; exact ec
        have hj60 : j < 60 := by omega
        have hr2 : r < 2 := by omega
        rw [ec2, li, nI_leI (by omega) (by omega), nI_eq (by omega) (by omega)]
        refine ⟨fun g => absurd g (by omega), fun _ => ⟨fun g => ?_, fun g => ?_⟩⟩
        · have hb0 : b = 0 := by omega
          have hbr : brd T N p j = false := by
            rw [brd_f e4, List.any_eq_false]
            intro k hk
            have hk2 := hb.mp hb0 k (List.mem_range.mp hk)
            unfold shut
            rw [decide_eq_false hk2]
            simp
          refine A_Voices_openFor_57 ⟨fun _ => ?_, fun g => absurd rfl g⟩
          obtain ⟨f3, O3, r3, h13, h23⟩ := stp j w2 O2 hj f r2 h1 h2 false hbr.symm
          simp (disch := omega) only [li, ll, nI_add, nI_mul', nI_sub', nI_div', qRem_nI, lN_add, lN_mul, lN_sub, lN_div', qRemL_lN, qIn_I, qIx_nI, nI_ltI, nI_leI, nI_eq, nI_eqn, nI_eqn', nI_len, nI_ltn, nI_nle', nI_nlt', lN_eqn, lg_lt, lg_gt, lg_eq, lg_le, lg_ge, lgn_lt, lgn_gt, lgn_eq, lgn_le, lgn_ge, pk_lLT, pk_lLE, pk_lEQ, nI_l, lN_i, qShl_n, nI_and, nI_or, lN_and, lN_or, nI_andn, lN_andn, pI_e, pI_f, pI_c, pL_e, pL_f, pL_c, pI_L, pL_I, qB_1, qZb_n, true_and, and_true, forall_const, not_true_eq_false, not_false_eq_true, Nat.reduceLT, Nat.reduceLeDiff, Nat.reduceEqDiff, Nat.reduceAdd, Nat.reduceMul, Nat.reduceSub, Nat.reduceMod, Nat.reduceDiv, false_implies, implies_true, (r2 j hj60).1]
          (repeat (refine And.intro (by omega) ?_))
          exact ih _ ⟨f3, O3, r3, h13, h23⟩
        · refine c_isShut (by omega) (hV.keep f (fun c h1 h2 => by omega)) hi3 hp hj60 ?_
          intro w3 f3
          have r3 : rO w3 O2 := fun c hc => by rw [(f3 51 (by decide)).1]; exact r2 c hc
          have ff : fr (fun c => c = 48 ∨ c = 49 ∨ c = 51) w w3 := fr_tr f (fr_wk f3 (fun c hc => by omega))
          rw [← brd_f e4]
          cases hbr : brd T N p j with
          | false =>
            refine ⟨fun _ => ?_, fun g => absurd rfl g⟩
            refine A_Voices_openFor_57 ⟨fun _ => ?_, fun g => absurd rfl g⟩
            obtain ⟨f4, O4, r4, h14, h24⟩ := stp j w3 O2 hj ff r3 h1 h2 false hbr.symm
            simp (disch := omega) only [li, ll, nI_add, nI_mul', nI_sub', nI_div', qRem_nI, lN_add, lN_mul, lN_sub, lN_div', qRemL_lN, qIn_I, qIx_nI, nI_ltI, nI_leI, nI_eq, nI_eqn, nI_eqn', nI_len, nI_ltn, nI_nle', nI_nlt', lN_eqn, lg_lt, lg_gt, lg_eq, lg_le, lg_ge, lgn_lt, lgn_gt, lgn_eq, lgn_le, lgn_ge, pk_lLT, pk_lLE, pk_lEQ, nI_l, lN_i, qShl_n, nI_and, nI_or, lN_and, lN_or, nI_andn, lN_andn, pI_e, pI_f, pI_c, pL_e, pL_f, pL_c, pI_L, pL_I, qB_1, qZb_n, true_and, and_true, forall_const, not_true_eq_false, not_false_eq_true, Nat.reduceLT, Nat.reduceLeDiff, Nat.reduceEqDiff, Nat.reduceAdd, Nat.reduceMul, Nat.reduceSub, Nat.reduceMod, Nat.reduceDiv, false_implies, implies_true, (r3 j hj60).1]
            (repeat (refine And.intro (by omega) ?_))
            exact ih _ ⟨f4, O4, r4, h14, h24⟩
          | true =>
            refine ⟨fun g => absurd g (by decide), fun _ => ?_⟩
            refine A_Voices_openFor_57 ⟨fun g => absurd g (by decide), fun _ => ?_⟩
            obtain ⟨f4, O4, r4, h14, h24⟩ := stp j w3 O2 hj ff r3 h1 h2 true hbr.symm
            simp (disch := omega) only [li, ll, nI_add, nI_mul', nI_sub', nI_div', qRem_nI, lN_add, lN_mul, lN_sub, lN_div', qRemL_lN, qIn_I, qIx_nI, nI_ltI, nI_leI, nI_eq, nI_eqn, nI_eqn', nI_len, nI_ltn, nI_nle', nI_nlt', lN_eqn, lg_lt, lg_gt, lg_eq, lg_le, lg_ge, lgn_lt, lgn_gt, lgn_eq, lgn_le, lgn_ge, pk_lLT, pk_lLE, pk_lEQ, nI_l, lN_i, qShl_n, nI_and, nI_or, lN_and, lN_or, nI_andn, lN_andn, pI_e, pI_f, pI_c, pL_e, pL_f, pL_c, pI_L, pL_I, qB_1, qZb_n, true_and, and_true, forall_const, not_true_eq_false, not_false_eq_true, Nat.reduceLT, Nat.reduceLeDiff, Nat.reduceEqDiff, Nat.reduceAdd, Nat.reduceMul, Nat.reduceSub, Nat.reduceMod, Nat.reduceDiv, false_implies, implies_true, (r3 j hj60).1]
            (repeat (refine And.intro (by omega) ?_))
            exact ih _ ⟨f4, O4, r4, h14, h24⟩
      · exact ⟨fr_rf _ _, O, hO, fun c q hc => by omega, fun c _ => rfl⟩
    rw [eb]
    simp (disch := omega) only [li, ll, nI_add, nI_mul', nI_sub', nI_div', qRem_nI, lN_add, lN_mul, lN_sub, lN_div', qRemL_lN, qIn_I, qIx_nI, nI_ltI, nI_leI, nI_eq, nI_eqn, nI_eqn', nI_len, nI_ltn, nI_nle', nI_nlt', lN_eqn, lg_lt, lg_gt, lg_eq, lg_le, lg_ge, lgn_lt, lgn_gt, lgn_eq, lgn_le, lgn_ge, pk_lLT, pk_lLE, pk_lEQ, nI_l, lN_i, qShl_n, nI_and, nI_or, lN_and, lN_or, nI_andn, lN_andn, pI_e, pI_f, pI_c, pL_e, pL_f, pL_c, pI_L, pL_I, qB_1, qZb_n, true_and, and_true, forall_const, not_true_eq_false, not_false_eq_true, Nat.reduceLT, Nat.reduceLeDiff, Nat.reduceEqDiff, Nat.reduceAdd, Nat.reduceMul, Nat.reduceSub, Nat.reduceMod, Nat.reduceDiv, false_implies, implies_true]
    exact ⟨fun g => main 0 (Or.inl ⟨rfl, by omega⟩), fun g => main 1 (Or.inr rfl)⟩
theorem c_openForAll {O : Nat → Nat} (hd : 6 ≤ d) (hV : rV w N T) (hO : rO w O) (hQ : ∀ w' O', fr (fun c => c = 48 ∨ c = 49 ∨ c = 51) w w' → rO w' O' → (∀ c q, c < N 2 0 → q < N 0 0 → (O' c).testBit q = !brd T N q c) → R w') : qCall (some s) d 31 [.ref 50] w (qQv R) := by
  obtain ⟨d, rfl, hd1⟩ := dS hd
  have o := hV.okn
  have o0 := o.p12
  refine A_Voices_openForAll ?_
  refine lpU (i := 0) (n := N 0 0) (I := fun i w2 => fr (fun c => c = 48 ∨ c = 49 ∨ c = 51) w w2 ∧ ∃ O2, rO w2 O2 ∧ (∀ c q, c < N 2 0 → q < i → (O2 c).testBit q = !brd T N q c)) (P := fun i w2 => qAt s d c_Voices_openForAll (qQv R) 2 [some (.ref 50), some (.int (nI i))] [] w2) ?_ ?_ (Nat.zero_le _) ?_
  · intro w2 ⟨f, O2, r2, h1⟩
    refine A_Voices_openForAll_2 ?_
    have e2 : w2.1 2 0 = nI (N 0 0) := by rw [(f 2 (by decide)).1]; exact hV.n.ppl
    simp (disch := omega) only [li, ll, nI_add, nI_mul', nI_sub', nI_div', qRem_nI, lN_add, lN_mul, lN_sub, lN_div', qRemL_lN, qIn_I, qIx_nI, nI_ltI, nI_leI, nI_eq, nI_eqn, nI_eqn', nI_len, nI_ltn, nI_nle', nI_nlt', lN_eqn, lg_lt, lg_gt, lg_eq, lg_le, lg_ge, lgn_lt, lgn_gt, lgn_eq, lgn_le, lgn_ge, pk_lLT, pk_lLE, pk_lEQ, nI_l, lN_i, qShl_n, nI_and, nI_or, lN_and, lN_or, nI_andn, lN_andn, pI_e, pI_f, pI_c, pL_e, pL_f, pL_c, pI_L, pL_I, qB_1, qZb_n, true_and, and_true, forall_const, not_true_eq_false, not_false_eq_true, Nat.reduceLT, Nat.reduceLeDiff, Nat.reduceEqDiff, Nat.reduceAdd, Nat.reduceMul, Nat.reduceSub, Nat.reduceMod, Nat.reduceDiv, false_implies, implies_true, e2]
    exact ⟨fun _ => hQ w2 O2 f r2 h1, fun g => absurd (Nat.le_refl _) g⟩
  · intro i w2 hi ⟨f, O2, r2, h1⟩ ih
    refine A_Voices_openForAll_2 ?_
    have e2 : w2.1 2 0 = nI (N 0 0) := by rw [(f 2 (by decide)).1]; exact hV.n.ppl
    simp (disch := omega) only [li, ll, nI_add, nI_mul', nI_sub', nI_div', qRem_nI, lN_add, lN_mul, lN_sub, lN_div', qRemL_lN, qIn_I, qIx_nI, nI_ltI, nI_leI, nI_eq, nI_eqn, nI_eqn', nI_len, nI_ltn, nI_nle', nI_nlt', lN_eqn, lg_lt, lg_gt, lg_eq, lg_le, lg_ge, lgn_lt, lgn_gt, lgn_eq, lgn_le, lgn_ge, pk_lLT, pk_lLE, pk_lEQ, nI_l, lN_i, qShl_n, nI_and, nI_or, lN_and, lN_or, nI_andn, lN_andn, pI_e, pI_f, pI_c, pL_e, pL_f, pL_c, pI_L, pL_I, qB_1, qZb_n, true_and, and_true, forall_const, not_true_eq_false, not_false_eq_true, Nat.reduceLT, Nat.reduceLeDiff, Nat.reduceEqDiff, Nat.reduceAdd, Nat.reduceMul, Nat.reduceSub, Nat.reduceMod, Nat.reduceDiv, false_implies, implies_true, e2]
    refine ⟨fun g => absurd g (by omega), fun _ => c_openFor (by omega) (hV.keep f (fun c h1 h2 => by omega)) r2 hi ?_⟩
    intro w3 O3 f3 r3 h3
    refine ih w3 ⟨fr_tr f f3, O3, r3, fun c q hc hq => ?_⟩
    rw [h3 c q hc]
    by_cases e : q = i
    · subst e; rw [if_pos rfl]
    · rw [if_neg e]; exact h1 c q hc (by omega)
  · exact ⟨fr_rf _ _, O, hO, fun c q _ hq => by omega⟩
theorem rX.O (h : rX w N K T Z) : ∃ O, rO w O ∧ ∀ c q, c < N 2 0 → q < N 0 0 → (O c).testBit q = !brd T N q c := by
  have h60 := h.okn.clk
  have h2 : ∀ c, ∃ n, c < 60 → (w.1 51 c = nI n ∧ n < 4096 ∧ (c < N 2 0 → ∀ p, p < N 0 0 → n.testBit p = !brd T N p c)) := by
    intro c
    by_cases hc : c < N 2 0
    · obtain ⟨n, h1, h2, h3⟩ := h.opn c hc
      exact ⟨n, fun _ => ⟨h1, h2, fun _ => h3⟩⟩
    · by_cases h60 : c < 60
      · obtain ⟨n, h1, h2⟩ := h.op2 c h60
        exact ⟨n, fun _ => ⟨h1, h2, fun g => absurd g hc⟩⟩
      · exact ⟨0, fun g => absurd g h60⟩
  refine ⟨fun c => Classical.choose (h2 c), fun c hc => ?_, fun c q hc hq => ?_⟩
  · have := Classical.choose_spec (h2 c) hc
    exact ⟨this.1, this.2.1⟩
  · exact (Classical.choose_spec (h2 c) (by omega)).2.2 hc q hq
theorem rO.op2 {O : Nat → Nat} (h : rO w O) : ∀ c, c < 60 → ∃ n, w.1 51 c = nI n ∧ n < 4096 := fun c hc => ⟨O c, h c hc⟩
end Open
