/-! Calls that change people, the clock, the text that rules; back and roll; about. Both sides. -/
section People
variable {s : Nat × (Nat → Int32)} {d : Nat} {w : qW} {Q : Int32 → qW → Prop} {R : qW → Prop} {N K : vS} {T : Nat → vT} {Z : vZ}
/-- the class's side while who is barred isn't laid out -/
def rW (w : qW) (N : vS) (K : vS) (T : Nat → vT) (Z : vZ) : Prop := (rS w 2 N) ∧ (rS w 13 K) ∧ (okS N) ∧ (okS K) ∧ (K 3 0 ≤ N 3 0) ∧ (∀ i, i < N 3 0 → rT w (27 + 5 * i) (T i)) ∧ (∀ i, i < N 3 0 → okT (T i)) ∧ (w.1 25 1 = nI Z.1) ∧ (Z.1 ≤ 300) ∧ (∀ j, j < Z.1 → w.1 26 j = nI (Z.2.1 j)) ∧ (∀ j, j < Z.1 → Z.2.1 j < 256) ∧ (w.1 25 2 = Z.2.2.1) ∧ (w.1 25 3 = Z.2.2.2) ∧ (∀ c, c < 60 → ∃ n, w.1 51 c = nI n ∧ n < 4096)
theorem rW.n {w : qW} {N : vS} {K : vS} {T : Nat → vT} {Z : vZ} (h : rW w N K T Z) : rS w 2 N := h.1
theorem rW.k {w : qW} {N : vS} {K : vS} {T : Nat → vT} {Z : vZ} (h : rW w N K T Z) : rS w 13 K := h.2.1
theorem rW.okn {w : qW} {N : vS} {K : vS} {T : Nat → vT} {Z : vZ} (h : rW w N K T Z) : okS N := h.2.2.1
theorem rW.okk {w : qW} {N : vS} {K : vS} {T : Nat → vT} {Z : vZ} (h : rW w N K T Z) : okS K := h.2.2.2.1
theorem rW.kt {w : qW} {N : vS} {K : vS} {T : Nat → vT} {Z : vZ} (h : rW w N K T Z) : K 3 0 ≤ N 3 0 := h.2.2.2.2.1
theorem rW.t {w : qW} {N : vS} {K : vS} {T : Nat → vT} {Z : vZ} (h : rW w N K T Z) : ∀ i, i < N 3 0 → rT w (27 + 5 * i) (T i) := h.2.2.2.2.2.1
theorem rW.okt {w : qW} {N : vS} {K : vS} {T : Nat → vT} {Z : vZ} (h : rW w N K T Z) : ∀ i, i < N 3 0 → okT (T i) := h.2.2.2.2.2.2.1
theorem rW.len {w : qW} {N : vS} {K : vS} {T : Nat → vT} {Z : vZ} (h : rW w N K T Z) : w.1 25 1 = nI Z.1 := h.2.2.2.2.2.2.2.1
theorem rW.l300 {w : qW} {N : vS} {K : vS} {T : Nat → vT} {Z : vZ} (h : rW w N K T Z) : Z.1 ≤ 300 := h.2.2.2.2.2.2.2.2.1
theorem rW.tape {w : qW} {N : vS} {K : vS} {T : Nat → vT} {Z : vZ} (h : rW w N K T Z) : ∀ j, j < Z.1 → w.1 26 j = nI (Z.2.1 j) := h.2.2.2.2.2.2.2.2.2.1
theorem rW.byt {w : qW} {N : vS} {K : vS} {T : Nat → vT} {Z : vZ} (h : rW w N K T Z) : ∀ j, j < Z.1 → Z.2.1 j < 256 := h.2.2.2.2.2.2.2.2.2.2.1
theorem rW.flt {w : qW} {N : vS} {K : vS} {T : Nat → vT} {Z : vZ} (h : rW w N K T Z) : w.1 25 2 = Z.2.2.1 := h.2.2.2.2.2.2.2.2.2.2.2.1
theorem rW.plc {w : qW} {N : vS} {K : vS} {T : Nat → vT} {Z : vZ} (h : rW w N K T Z) : w.1 25 3 = Z.2.2.2 := h.2.2.2.2.2.2.2.2.2.2.2.2.1
theorem rW.op2 {w : qW} {N : vS} {K : vS} {T : Nat → vT} {Z : vZ} (h : rW w N K T Z) : ∀ c, c < 60 → ∃ n, w.1 51 c = nI n ∧ n < 4096 := h.2.2.2.2.2.2.2.2.2.2.2.2.2
theorem rW.mk {w : qW} {N : vS} {K : vS} {T : Nat → vT} {Z : vZ} (f_n : rS w 2 N) (f_k : rS w 13 K) (f_okn : okS N) (f_okk : okS K) (f_kt : K 3 0 ≤ N 3 0) (f_t : ∀ i, i < N 3 0 → rT w (27 + 5 * i) (T i)) (f_okt : ∀ i, i < N 3 0 → okT (T i)) (f_len : w.1 25 1 = nI Z.1) (f_l300 : Z.1 ≤ 300) (f_tape : ∀ j, j < Z.1 → w.1 26 j = nI (Z.2.1 j)) (f_byt : ∀ j, j < Z.1 → Z.2.1 j < 256) (f_flt : w.1 25 2 = Z.2.2.1) (f_plc : w.1 25 3 = Z.2.2.2) (f_op2 : ∀ c, c < 60 → ∃ n, w.1 51 c = nI n ∧ n < 4096) : rW w N K T Z := ⟨f_n, f_k, f_okn, f_okk, f_kt, f_t, f_okt, f_len, f_l300, f_tape, f_byt, f_flt, f_plc, f_op2⟩
theorem rX.wk (h : rX w N K T Z) : rW w N K T Z := rW.mk h.n h.k h.okn h.okk h.kt h.t h.okt h.len h.l300 h.tape h.byt h.flt h.plc h.op2
theorem rW.v (h : rW w N K T Z) : rV w N T := rV.mk h.n h.okn h.t h.okt
theorem rW.O (h : rW w N K T Z) : ∃ O, rO w O := by
  refine ⟨fun c => if hc : c < 60 then Classical.choose (h.op2 c hc) else 0, fun c hc => ?_⟩
  show w.1 51 c = nI (if hc : c < 60 then _ else _) ∧ (if hc : c < 60 then _ else _) < 4096
  rw [dif_pos hc]
  exact Classical.choose_spec (h.op2 c hc)
theorem rW.upd {w w' : qW} {N N' K : vS} {T : Nat → vT} {Z : vZ} {A : Nat → Prop} (h : rW w N K T Z) (hf : fr A w w') (hA : ∀ c, 13 ≤ c → c ≤ 46 → ¬ A c) (hn : rS w' 2 N') (ok : okS N') (ht : N' 3 0 = N 3 0) (ho2 : ∀ c, c < 60 → ∃ n, w'.1 51 c = nI n ∧ n < 4096) : rW w' N' K T Z := by
  have e : ∀ c, 13 ≤ c → c ≤ 46 → w'.1 c = w.1 c ∧ w'.2.1 c = w.2.1 c := fun c h1 h2 => hf c (hA c h1 h2)
  refine rW.mk hn (rS_fr h.k fun k hk => e _ (by omega) (by omega)) ok h.okk (by rw [ht]; exact h.kt) ?_ ?_ ?_ h.l300 ?_ h.byt ?_ ?_ ho2
  · intro i hi
    rw [ht] at hi
    have := h.okn.txs
    exact rT_fr (h.t i hi) fun k hk => (e _ (by omega) (by omega)).1
  · intro i hi; rw [ht] at hi; exact h.okt i hi
  · rw [(e 25 (by omega) (by omega)).1]; exact h.len
  · intro j hj; rw [(e 26 (by omega) (by omega)).1]; exact h.tape j hj
  · rw [(e 25 (by omega) (by omega)).1]; exact h.flt
  · rw [(e 25 (by omega) (by omega)).1]; exact h.plc
/-- behind an opening all is held -/
theorem rW.x {O : Nat → Nat} {w' : qW} (h : rW w N K T Z) (f : fr (fun c => c = 48 ∨ c = 49 ∨ c = 51) w w') (r : rO w' O) (ho : ∀ c q, c < N 2 0 → q < N 0 0 → (O c).testBit q = !brd T N q c) : rX w' N K T Z := by
  have h' : rW w' N K T Z := h.upd f (fun c h1 h2 => by omega) (rS_fr h.n fun k hk => f _ (by omega)) h.okn rfl r.op2
  have c60 := h.okn.clk
  exact rX.mk h'.n h'.k h'.okn h'.okk h'.kt h'.t h'.okt h'.len h'.l300 h'.tape h'.byt h'.flt h'.plc (fun c hc => ⟨O c, (r c (by omega)).1, (r c (by omega)).2, fun p hp => ho c p hc hp⟩) r.op2
theorem brd_eq {N N' : vS} {p c : Nat} (h4 : N' 4 0 = N 4 0) (h10 : N' 10 p = N 10 p) (h11 : N' 11 p = N 11 p) : brd T N' p c = brd T N p c := by
  have e : nmB N' p c = nmB N p c := by
    funext k
    unfold nmB
    rw [h10, h11]
  unfold brd rul shut
  rw [h4, e]
def vPer (N : vS) (a b : Int32) : Prop := (vNum a ∧ vFst b) ∧ N 0 0 < 12
def nPer (N : vS) (a b : Nat) : vS := sPut (sPut (sPut (sPut N 10 (N 0 0) a) 11 (N 0 0) b) 12 (N 0 0) 0) 0 0 (N 0 0 + 1)
theorem nPer_ok {a b : Nat} (o : okS N) (ha : 1 ≤ a ∧ a ≤ 9999) (hb : b ≤ 9999) (g : N 0 0 < 12) : okS (nPer N a b) := by
  unfold nPer
  (refine okS.mk ?_ ?_ ?_ ?_ ?_ ?_ ?_ ?_ ?_ ?_ ?_ ?_ ?_ ?_ ?_ ?_); (all_goals (try simp (disch := omega) only [li, ll, nI_add, nI_mul', nI_sub', nI_div', qRem_nI, lN_add, lN_mul, lN_sub, lN_div', qRemL_lN, qIn_I, qIx_nI, nI_ltI, nI_leI, nI_eq, nI_eqn, nI_eqn', nI_len, nI_ltn, nI_nle', nI_nlt', lN_eqn, lg_lt, lg_gt, lg_eq, lg_le, lg_ge, lgn_lt, lgn_gt, lgn_eq, lgn_le, lgn_ge, pk_lLT, pk_lLE, pk_lEQ, nI_l, lN_i, qShl_n, nI_and, nI_or, lN_and, lN_or, nI_andn, lN_andn, pI_e, pI_f, pI_c, pL_e, pL_f, pL_c, pI_L, pL_I, qB_1, qZb_n, true_and, and_true, forall_const, not_true_eq_false, not_false_eq_true, Nat.reduceLT, Nat.reduceLeDiff, Nat.reduceEqDiff, Nat.reduceAdd, Nat.reduceMul, Nat.reduceSub, Nat.reduceMod, Nat.reduceDiv, false_implies, implies_true, sP_e, sP_f, sP_c])); (all_goals try (first | done | (first | done | exact o.p12 | exact o.day | exact o.clk | exact o.txs | exact o.rul | exact o.tks | exact o.gvs | exact o.nds | exact o.hds | exact o.num | exact o.fst | exact o.nr | exact o.gv | exact o.need | exact o.hrd | exact o.tlk) | (intro i hi; (try simp (disch := omega) only [li, ll, nI_add, nI_mul', nI_sub', nI_div', qRem_nI, lN_add, lN_mul, lN_sub, lN_div', qRemL_lN, qIn_I, qIx_nI, nI_ltI, nI_leI, nI_eq, nI_eqn, nI_eqn', nI_len, nI_ltn, nI_nle', nI_nlt', lN_eqn, lg_lt, lg_gt, lg_eq, lg_le, lg_ge, lgn_lt, lgn_gt, lgn_eq, lgn_le, lgn_ge, pk_lLT, pk_lLE, pk_lEQ, nI_l, lN_i, qShl_n, nI_and, nI_or, lN_and, lN_or, nI_andn, lN_andn, pI_e, pI_f, pI_c, pL_e, pL_f, pL_c, pI_L, pL_I, qB_1, qZb_n, true_and, and_true, forall_const, not_true_eq_false, not_false_eq_true, Nat.reduceLT, Nat.reduceLeDiff, Nat.reduceEqDiff, Nat.reduceAdd, Nat.reduceMul, Nat.reduceSub, Nat.reduceMod, Nat.reduceDiv, false_implies, implies_true, sP_e, sP_f, sP_c]); first | exact o.num i hi | exact o.fst i hi | exact o.nr i hi | exact o.gv i hi | exact o.need i hi | exact o.hrd i hi | exact o.tlk i hi)))
  · omega
  · intro i hi
    by_cases q : i = N 0 0
    · subst q; simp (disch := omega) only [li, ll, nI_add, nI_mul', nI_sub', nI_div', qRem_nI, lN_add, lN_mul, lN_sub, lN_div', qRemL_lN, qIn_I, qIx_nI, nI_ltI, nI_leI, nI_eq, nI_eqn, nI_eqn', nI_len, nI_ltn, nI_nle', nI_nlt', lN_eqn, lg_lt, lg_gt, lg_eq, lg_le, lg_ge, lgn_lt, lgn_gt, lgn_eq, lgn_le, lgn_ge, pk_lLT, pk_lLE, pk_lEQ, nI_l, lN_i, qShl_n, nI_and, nI_or, lN_and, lN_or, nI_andn, lN_andn, pI_e, pI_f, pI_c, pL_e, pL_f, pL_c, pI_L, pL_I, qB_1, qZb_n, true_and, and_true, forall_const, not_true_eq_false, not_false_eq_true, Nat.reduceLT, Nat.reduceLeDiff, Nat.reduceEqDiff, Nat.reduceAdd, Nat.reduceMul, Nat.reduceSub, Nat.reduceMod, Nat.reduceDiv, false_implies, implies_true, sP_e, sP_f, sP_c]; exact ha
    · simp (disch := omega) only [li, ll, nI_add, nI_mul', nI_sub', nI_div', qRem_nI, lN_add, lN_mul, lN_sub, lN_div', qRemL_lN, qIn_I, qIx_nI, nI_ltI, nI_leI, nI_eq, nI_eqn, nI_eqn', nI_len, nI_ltn, nI_nle', nI_nlt', lN_eqn, lg_lt, lg_gt, lg_eq, lg_le, lg_ge, lgn_lt, lgn_gt, lgn_eq, lgn_le, lgn_ge, pk_lLT, pk_lLE, pk_lEQ, nI_l, lN_i, qShl_n, nI_and, nI_or, lN_and, lN_or, nI_andn, lN_andn, pI_e, pI_f, pI_c, pL_e, pL_f, pL_c, pI_L, pL_I, qB_1, qZb_n, true_and, and_true, forall_const, not_true_eq_false, not_false_eq_true, Nat.reduceLT, Nat.reduceLeDiff, Nat.reduceEqDiff, Nat.reduceAdd, Nat.reduceMul, Nat.reduceSub, Nat.reduceMod, Nat.reduceDiv, false_implies, implies_true, sP_e, sP_f, sP_c]; exact o.num i (by omega)
  · intro i hi
    by_cases q : i = N 0 0
    · subst q; simp (disch := omega) only [li, ll, nI_add, nI_mul', nI_sub', nI_div', qRem_nI, lN_add, lN_mul, lN_sub, lN_div', qRemL_lN, qIn_I, qIx_nI, nI_ltI, nI_leI, nI_eq, nI_eqn, nI_eqn', nI_len, nI_ltn, nI_nle', nI_nlt', lN_eqn, lg_lt, lg_gt, lg_eq, lg_le, lg_ge, lgn_lt, lgn_gt, lgn_eq, lgn_le, lgn_ge, pk_lLT, pk_lLE, pk_lEQ, nI_l, lN_i, qShl_n, nI_and, nI_or, lN_and, lN_or, nI_andn, lN_andn, pI_e, pI_f, pI_c, pL_e, pL_f, pL_c, pI_L, pL_I, qB_1, qZb_n, true_and, and_true, forall_const, not_true_eq_false, not_false_eq_true, Nat.reduceLT, Nat.reduceLeDiff, Nat.reduceEqDiff, Nat.reduceAdd, Nat.reduceMul, Nat.reduceSub, Nat.reduceMod, Nat.reduceDiv, false_implies, implies_true, sP_e, sP_f, sP_c]; exact hb
    · simp (disch := omega) only [li, ll, nI_add, nI_mul', nI_sub', nI_div', qRem_nI, lN_add, lN_mul, lN_sub, lN_div', qRemL_lN, qIn_I, qIx_nI, nI_ltI, nI_leI, nI_eq, nI_eqn, nI_eqn', nI_len, nI_ltn, nI_nle', nI_nlt', lN_eqn, lg_lt, lg_gt, lg_eq, lg_le, lg_ge, lgn_lt, lgn_gt, lgn_eq, lgn_le, lgn_ge, pk_lLT, pk_lLE, pk_lEQ, nI_l, lN_i, qShl_n, nI_and, nI_or, lN_and, lN_or, nI_andn, lN_andn, pI_e, pI_f, pI_c, pL_e, pL_f, pL_c, pI_L, pL_I, qB_1, qZb_n, true_and, and_true, forall_const, not_true_eq_false, not_false_eq_true, Nat.reduceLT, Nat.reduceLeDiff, Nat.reduceEqDiff, Nat.reduceAdd, Nat.reduceMul, Nat.reduceSub, Nat.reduceMod, Nat.reduceDiv, false_implies, implies_true, sP_e, sP_f, sP_c]; exact o.fst i (by omega)
  · intro i hi
    by_cases q : i = N 0 0
    · subst q; simp (disch := omega) only [li, ll, nI_add, nI_mul', nI_sub', nI_div', qRem_nI, lN_add, lN_mul, lN_sub, lN_div', qRemL_lN, qIn_I, qIx_nI, nI_ltI, nI_leI, nI_eq, nI_eqn, nI_eqn', nI_len, nI_ltn, nI_nle', nI_nlt', lN_eqn, lg_lt, lg_gt, lg_eq, lg_le, lg_ge, lgn_lt, lgn_gt, lgn_eq, lgn_le, lgn_ge, pk_lLT, pk_lLE, pk_lEQ, nI_l, lN_i, qShl_n, nI_and, nI_or, lN_and, lN_or, nI_andn, lN_andn, pI_e, pI_f, pI_c, pL_e, pL_f, pL_c, pI_L, pL_I, qB_1, qZb_n, true_and, and_true, forall_const, not_true_eq_false, not_false_eq_true, Nat.reduceLT, Nat.reduceLeDiff, Nat.reduceEqDiff, Nat.reduceAdd, Nat.reduceMul, Nat.reduceSub, Nat.reduceMod, Nat.reduceDiv, false_implies, implies_true, sP_e, sP_f, sP_c]
    · simp (disch := omega) only [li, ll, nI_add, nI_mul', nI_sub', nI_div', qRem_nI, lN_add, lN_mul, lN_sub, lN_div', qRemL_lN, qIn_I, qIx_nI, nI_ltI, nI_leI, nI_eq, nI_eqn, nI_eqn', nI_len, nI_ltn, nI_nle', nI_nlt', lN_eqn, lg_lt, lg_gt, lg_eq, lg_le, lg_ge, lgn_lt, lgn_gt, lgn_eq, lgn_le, lgn_ge, pk_lLT, pk_lLE, pk_lEQ, nI_l, lN_i, qShl_n, nI_and, nI_or, lN_and, lN_or, nI_andn, lN_andn, pI_e, pI_f, pI_c, pL_e, pL_f, pL_c, pI_L, pL_I, qB_1, qZb_n, true_and, and_true, forall_const, not_true_eq_false, not_false_eq_true, Nat.reduceLT, Nat.reduceLeDiff, Nat.reduceEqDiff, Nat.reduceAdd, Nat.reduceMul, Nat.reduceSub, Nat.reduceMod, Nat.reduceDiv, false_implies, implies_true, sP_e, sP_f, sP_c]; exact o.nr i (by omega)
  · intro i hi
    have := o.need i hi
    refine ⟨by omega, by omega, this.2.2⟩
  · intro i hi
    have := o.tlk i hi
    refine ⟨by omega, by omega, by omega, this.2.2.2⟩
theorem vPer_x {a b : Int32} (g : vPer N a b) : ∃ x y, (1 ≤ x ∧ x ≤ 9999) ∧ y ≤ 9999 ∧ a = nI x ∧ b = nI y ∧ qIx a = x ∧ qIx b = y := by
  obtain ⟨x, h1, h2, e, e2⟩ := nI_rng 1 9999 g.1.1.1 g.1.1.2
  obtain ⟨y, h3, h4, f, f2⟩ := nI_rng 0 9999 g.1.2.1 g.1.2.2
  exact ⟨x, y, ⟨h1, h2⟩, h4, e, f, e2, f2⟩
theorem c_addPerson {a b : Int32} (hd : 2 ≤ d) (hW : rW w N K T Z) (hy : ∀ w', vPer N a b → rW w' (nPer N (qIx a) (qIx b)) K T Z → fr (fun c => 2 ≤ c ∧ c ≤ 12) w w' → Q (nI (N 0 0)) w') (hn : ¬ vPer N a b → Q (-1) w) : qCall (some s) d 14 [.ref 2, .int a, .int b] w (qQi Q) := by
  obtain ⟨d, rfl, hd1⟩ := dS hd
  have r := hW.n
  have o := hW.okn
  have o0 := o.p12
  refine A_State_addPerson (c_isNumber hd1 (fun g1 => b1 (c_isFirst hd1 (fun g2 => b1 ?_) (fun g => b0 (hn (fun q => g q.1.2))))) (fun g => b0 (hn (fun q => g q.1.1))))
  simp (disch := omega) only [li, ll, nI_add, nI_mul', nI_sub', nI_div', qRem_nI, lN_add, lN_mul, lN_sub, lN_div', qRemL_lN, qIn_I, qIx_nI, nI_ltI, nI_leI, nI_eq, nI_eqn, nI_eqn', nI_len, nI_ltn, nI_nle', nI_nlt', lN_eqn, lg_lt, lg_gt, lg_eq, lg_le, lg_ge, lgn_lt, lgn_gt, lgn_eq, lgn_le, lgn_ge, pk_lLT, pk_lLE, pk_lEQ, nI_l, lN_i, qShl_n, nI_and, nI_or, lN_and, lN_or, nI_andn, lN_andn, pI_e, pI_f, pI_c, pL_e, pL_f, pL_c, pI_L, pL_I, qB_1, qZb_n, true_and, and_true, forall_const, not_true_eq_false, not_false_eq_true, Nat.reduceLT, Nat.reduceLeDiff, Nat.reduceEqDiff, Nat.reduceAdd, Nat.reduceMul, Nat.reduceSub, Nat.reduceMod, Nat.reduceDiv, false_implies, implies_true, r.ppl]
  refine ⟨fun q => by omega, fun _ => ⟨fun g3 => ?_, fun g3 => hn (fun q => by have := q.2; omega)⟩⟩
  have g : vPer N a b := ⟨⟨g1, g2⟩, g3⟩
  refine ⟨g3, g3, g3, hy _ g ?_ (fr_I (fr_I (fr_I (fr_pI (by decide)) (by decide)) (by decide)) (by decide))⟩
  obtain ⟨x, y, hx, hy', ea, eb, ea2, eb2⟩ := vPer_x g
  rw [ea2, eb2]
  subst ea eb
  refine hW.upd (A := fun c => 2 ≤ c ∧ c ≤ 12) (fr_I (fr_I (fr_I (fr_pI (by decide)) (by decide)) (by decide)) (by decide)) (fun c _ _ => by omega) ?_ (nPer_ok o hx hy' g3) rfl hW.op2
  unfold nPer
  (refine rS.mk ?_ ?_ ?_ ?_ ?_ ?_ ?_ ?_ ?_ ?_ ?_ ?_ ?_ ?_ ?_ ?_ ?_ ?_ ?_ ?_); (all_goals (try simp (disch := omega) only [li, ll, nI_add, nI_mul', nI_sub', nI_div', qRem_nI, lN_add, lN_mul, lN_sub, lN_div', qRemL_lN, qIn_I, qIx_nI, nI_ltI, nI_leI, nI_eq, nI_eqn, nI_eqn', nI_len, nI_ltn, nI_nle', nI_nlt', lN_eqn, lg_lt, lg_gt, lg_eq, lg_le, lg_ge, lgn_lt, lgn_gt, lgn_eq, lgn_le, lgn_ge, pk_lLT, pk_lLE, pk_lEQ, nI_l, lN_i, qShl_n, nI_and, nI_or, lN_and, lN_or, nI_andn, lN_andn, pI_e, pI_f, pI_c, pL_e, pL_f, pL_c, pI_L, pL_I, qB_1, qZb_n, true_and, and_true, forall_const, not_true_eq_false, not_false_eq_true, Nat.reduceLT, Nat.reduceLeDiff, Nat.reduceEqDiff, Nat.reduceAdd, Nat.reduceMul, Nat.reduceSub, Nat.reduceMod, Nat.reduceDiv, false_implies, implies_true, sP_e, sP_f, sP_c])); (all_goals try (first | done | (first | done | exact r.ppl | exact r.day | exact r.clk | exact r.txs | exact r.rul | exact r.tks | exact r.gvs | exact r.nds | exact r.hds | exact r.hIs | exact r.num | exact r.fst | exact r.nr | exact r.tkh | exact r.tkp | exact r.gv | exact r.ndp | exact r.nda | exact r.ndh | exact r.hrd) | (intro i hi; (try simp (disch := omega) only [li, ll, nI_add, nI_mul', nI_sub', nI_div', qRem_nI, lN_add, lN_mul, lN_sub, lN_div', qRemL_lN, qIn_I, qIx_nI, nI_ltI, nI_leI, nI_eq, nI_eqn, nI_eqn', nI_len, nI_ltn, nI_nle', nI_nlt', lN_eqn, lg_lt, lg_gt, lg_eq, lg_le, lg_ge, lgn_lt, lgn_gt, lgn_eq, lgn_le, lgn_ge, pk_lLT, pk_lLE, pk_lEQ, nI_l, lN_i, qShl_n, nI_and, nI_or, lN_and, lN_or, nI_andn, lN_andn, pI_e, pI_f, pI_c, pL_e, pL_f, pL_c, pI_L, pL_I, qB_1, qZb_n, true_and, and_true, forall_const, not_true_eq_false, not_false_eq_true, Nat.reduceLT, Nat.reduceLeDiff, Nat.reduceEqDiff, Nat.reduceAdd, Nat.reduceMul, Nat.reduceSub, Nat.reduceMod, Nat.reduceDiv, false_implies, implies_true, sP_e, sP_f, sP_c]); first | exact r.num i hi | exact r.fst i hi | exact r.nr i hi | exact r.tkh i hi | exact r.tkp i hi | exact r.gv i hi | exact r.ndp i hi | exact r.nda i hi | exact r.ndh i hi | exact r.hrd i hi)))
  · intro i hi
    by_cases q : i = N 0 0
    · subst q; simp (disch := omega) only [li, ll, nI_add, nI_mul', nI_sub', nI_div', qRem_nI, lN_add, lN_mul, lN_sub, lN_div', qRemL_lN, qIn_I, qIx_nI, nI_ltI, nI_leI, nI_eq, nI_eqn, nI_eqn', nI_len, nI_ltn, nI_nle', nI_nlt', lN_eqn, lg_lt, lg_gt, lg_eq, lg_le, lg_ge, lgn_lt, lgn_gt, lgn_eq, lgn_le, lgn_ge, pk_lLT, pk_lLE, pk_lEQ, nI_l, lN_i, qShl_n, nI_and, nI_or, lN_and, lN_or, nI_andn, lN_andn, pI_e, pI_f, pI_c, pL_e, pL_f, pL_c, pI_L, pL_I, qB_1, qZb_n, true_and, and_true, forall_const, not_true_eq_false, not_false_eq_true, Nat.reduceLT, Nat.reduceLeDiff, Nat.reduceEqDiff, Nat.reduceAdd, Nat.reduceMul, Nat.reduceSub, Nat.reduceMod, Nat.reduceDiv, false_implies, implies_true, sP_e, sP_f, sP_c]
    · simp (disch := omega) only [li, ll, nI_add, nI_mul', nI_sub', nI_div', qRem_nI, lN_add, lN_mul, lN_sub, lN_div', qRemL_lN, qIn_I, qIx_nI, nI_ltI, nI_leI, nI_eq, nI_eqn, nI_eqn', nI_len, nI_ltn, nI_nle', nI_nlt', lN_eqn, lg_lt, lg_gt, lg_eq, lg_le, lg_ge, lgn_lt, lgn_gt, lgn_eq, lgn_le, lgn_ge, pk_lLT, pk_lLE, pk_lEQ, nI_l, lN_i, qShl_n, nI_and, nI_or, lN_and, lN_or, nI_andn, lN_andn, pI_e, pI_f, pI_c, pL_e, pL_f, pL_c, pI_L, pL_I, qB_1, qZb_n, true_and, and_true, forall_const, not_true_eq_false, not_false_eq_true, Nat.reduceLT, Nat.reduceLeDiff, Nat.reduceEqDiff, Nat.reduceAdd, Nat.reduceMul, Nat.reduceSub, Nat.reduceMod, Nat.reduceDiv, false_implies, implies_true, sP_e, sP_f, sP_c]; exact r.num i (by omega)
  · intro i hi
    by_cases q : i = N 0 0
    · subst q; simp (disch := omega) only [li, ll, nI_add, nI_mul', nI_sub', nI_div', qRem_nI, lN_add, lN_mul, lN_sub, lN_div', qRemL_lN, qIn_I, qIx_nI, nI_ltI, nI_leI, nI_eq, nI_eqn, nI_eqn', nI_len, nI_ltn, nI_nle', nI_nlt', lN_eqn, lg_lt, lg_gt, lg_eq, lg_le, lg_ge, lgn_lt, lgn_gt, lgn_eq, lgn_le, lgn_ge, pk_lLT, pk_lLE, pk_lEQ, nI_l, lN_i, qShl_n, nI_and, nI_or, lN_and, lN_or, nI_andn, lN_andn, pI_e, pI_f, pI_c, pL_e, pL_f, pL_c, pI_L, pL_I, qB_1, qZb_n, true_and, and_true, forall_const, not_true_eq_false, not_false_eq_true, Nat.reduceLT, Nat.reduceLeDiff, Nat.reduceEqDiff, Nat.reduceAdd, Nat.reduceMul, Nat.reduceSub, Nat.reduceMod, Nat.reduceDiv, false_implies, implies_true, sP_e, sP_f, sP_c]
    · simp (disch := omega) only [li, ll, nI_add, nI_mul', nI_sub', nI_div', qRem_nI, lN_add, lN_mul, lN_sub, lN_div', qRemL_lN, qIn_I, qIx_nI, nI_ltI, nI_leI, nI_eq, nI_eqn, nI_eqn', nI_len, nI_ltn, nI_nle', nI_nlt', lN_eqn, lg_lt, lg_gt, lg_eq, lg_le, lg_ge, lgn_lt, lgn_gt, lgn_eq, lgn_le, lgn_ge, pk_lLT, pk_lLE, pk_lEQ, nI_l, lN_i, qShl_n, nI_and, nI_or, lN_and, lN_or, nI_andn, lN_andn, pI_e, pI_f, pI_c, pL_e, pL_f, pL_c, pI_L, pL_I, qB_1, qZb_n, true_and, and_true, forall_const, not_true_eq_false, not_false_eq_true, Nat.reduceLT, Nat.reduceLeDiff, Nat.reduceEqDiff, Nat.reduceAdd, Nat.reduceMul, Nat.reduceSub, Nat.reduceMod, Nat.reduceDiv, false_implies, implies_true, sP_e, sP_f, sP_c]; exact r.fst i (by omega)
  · intro i hi
    by_cases q : i = N 0 0
    · subst q; simp (disch := omega) only [li, ll, nI_add, nI_mul', nI_sub', nI_div', qRem_nI, lN_add, lN_mul, lN_sub, lN_div', qRemL_lN, qIn_I, qIx_nI, nI_ltI, nI_leI, nI_eq, nI_eqn, nI_eqn', nI_len, nI_ltn, nI_nle', nI_nlt', lN_eqn, lg_lt, lg_gt, lg_eq, lg_le, lg_ge, lgn_lt, lgn_gt, lgn_eq, lgn_le, lgn_ge, pk_lLT, pk_lLE, pk_lEQ, nI_l, lN_i, qShl_n, nI_and, nI_or, lN_and, lN_or, nI_andn, lN_andn, pI_e, pI_f, pI_c, pL_e, pL_f, pL_c, pI_L, pL_I, qB_1, qZb_n, true_and, and_true, forall_const, not_true_eq_false, not_false_eq_true, Nat.reduceLT, Nat.reduceLeDiff, Nat.reduceEqDiff, Nat.reduceAdd, Nat.reduceMul, Nat.reduceSub, Nat.reduceMod, Nat.reduceDiv, false_implies, implies_true, sP_e, sP_f, sP_c]
    · simp (disch := omega) only [li, ll, nI_add, nI_mul', nI_sub', nI_div', qRem_nI, lN_add, lN_mul, lN_sub, lN_div', qRemL_lN, qIn_I, qIx_nI, nI_ltI, nI_leI, nI_eq, nI_eqn, nI_eqn', nI_len, nI_ltn, nI_nle', nI_nlt', lN_eqn, lg_lt, lg_gt, lg_eq, lg_le, lg_ge, lgn_lt, lgn_gt, lgn_eq, lgn_le, lgn_ge, pk_lLT, pk_lLE, pk_lEQ, nI_l, lN_i, qShl_n, nI_and, nI_or, lN_and, lN_or, nI_andn, lN_andn, pI_e, pI_f, pI_c, pL_e, pL_f, pL_c, pI_L, pL_I, qB_1, qZb_n, true_and, and_true, forall_const, not_true_eq_false, not_false_eq_true, Nat.reduceLT, Nat.reduceLeDiff, Nat.reduceEqDiff, Nat.reduceAdd, Nat.reduceMul, Nat.reduceSub, Nat.reduceMod, Nat.reduceDiv, false_implies, implies_true, sP_e, sP_f, sP_c]; exact r.nr i (by omega)
theorem c_person {a b : Int32} (hd : 6 ≤ d) (hX : rX w N K T Z) (hy : ∀ w', vPer N a b → rX w' (nPer N (qIx a) (qIx b)) K T Z → fr (fun c => c < 72) w w' → Q (nI (N 0 0)) w') (hn : ¬ vPer N a b → Q (-1) w) : qCall (some s) d 13 [.ref 1, .int a, .int b] w (qQi Q) := by
  obtain ⟨d, rfl, hd1⟩ := dS hd
  have o0 := hX.okn.p12
  refine A_X_person (c_addPerson (by omega) hX.wk (fun w' g h f => ?_) (fun g => ⟨fun _ => hn g, fun e => absurd rfl e⟩))
  refine ⟨fun e => absurd (show nI (N 0 0) = -(nI 1) from e) (by rw [nI_eqn (by omega) (by omega) (by omega)]; exact id), fun _ => ?_⟩
  obtain ⟨O, hO, hb⟩ := hX.O
  have hO' : rO w' O := fun c hc => by rw [(f 51 (by decide)).1]; exact hO c hc
  refine c_openFor (by omega) h.v hO' (by show N 0 0 < N 0 0 + 1; omega) ?_
  intro w2 O2 f2 r2 h2
  refine hy w2 g (h.x f2 r2 ?_) (fr_tr (fr_wk f (fun c hc => by omega)) (fr_wk f2 (fun c hc => by omega)))
  intro c q hc hq
  have hq : q < N 0 0 + 1 := hq
  rw [h2 c q hc]
  by_cases e : q = N 0 0
  · subst e; rw [if_pos rfl]
  · rw [if_neg e, hb c q hc (by omega)]
    rw [brd_eq (N := N) (N' := nPer N (qIx a) (qIx b)) rfl (by unfold nPer; simp (disch := omega) only [li, ll, nI_add, nI_mul', nI_sub', nI_div', qRem_nI, lN_add, lN_mul, lN_sub, lN_div', qRemL_lN, qIn_I, qIx_nI, nI_ltI, nI_leI, nI_eq, nI_eqn, nI_eqn', nI_len, nI_ltn, nI_nle', nI_nlt', lN_eqn, lg_lt, lg_gt, lg_eq, lg_le, lg_ge, lgn_lt, lgn_gt, lgn_eq, lgn_le, lgn_ge, pk_lLT, pk_lLE, pk_lEQ, nI_l, lN_i, qShl_n, nI_and, nI_or, lN_and, lN_or, nI_andn, lN_andn, pI_e, pI_f, pI_c, pL_e, pL_f, pL_c, pI_L, pL_I, qB_1, qZb_n, true_and, and_true, forall_const, not_true_eq_false, not_false_eq_true, Nat.reduceLT, Nat.reduceLeDiff, Nat.reduceEqDiff, Nat.reduceAdd, Nat.reduceMul, Nat.reduceSub, Nat.reduceMod, Nat.reduceDiv, false_implies, implies_true, sP_e, sP_f, sP_c]) (by unfold nPer; simp (disch := omega) only [li, ll, nI_add, nI_mul', nI_sub', nI_div', qRem_nI, lN_add, lN_mul, lN_sub, lN_div', qRemL_lN, qIn_I, qIx_nI, nI_ltI, nI_leI, nI_eq, nI_eqn, nI_eqn', nI_len, nI_ltn, nI_nle', nI_nlt', lN_eqn, lg_lt, lg_gt, lg_eq, lg_le, lg_ge, lgn_lt, lgn_gt, lgn_eq, lgn_le, lgn_ge, pk_lLT, pk_lLE, pk_lEQ, nI_l, lN_i, qShl_n, nI_and, nI_or, lN_and, lN_or, nI_andn, lN_andn, pI_e, pI_f, pI_c, pL_e, pL_f, pL_c, pI_L, pL_I, qB_1, qZb_n, true_and, and_true, forall_const, not_true_eq_false, not_false_eq_true, Nat.reduceLT, Nat.reduceLeDiff, Nat.reduceEqDiff, Nat.reduceAdd, Nat.reduceMul, Nat.reduceSub, Nat.reduceMod, Nat.reduceDiv, false_implies, implies_true, sP_e, sP_f, sP_c])]
theorem m_person {a b : Int32} (hd : 3 ≤ d) (hX : rM w N K T Z) (hy : ∀ w', vPer N a b → rM w' (nPer N (qIx a) (qIx b)) K T Z → fr (fun c => 72 ≤ c) w w' → Q (nI (N 0 0)) w') (hn : ¬ vPer N a b → Q (-1) w) : qCall (some s) d 207 [.ref 72, .int a, .int b] w (qQi Q) := by
  obtain ⟨d, rfl, hd1⟩ := dS hd
  have r := hX.n
  have o := hX.okn
  have o0 := o.p12
  have o5 := o.tks
  have o6 := o.gvs
  have o7 := o.nds
  have o8 := o.hds
  refine A_Mo_person (m_isCaller hd1 (fun g1 => b1 ?_) (fun g => b0 (hn (fun q => g q.1))))
  simp (disch := omega) only [li, ll, nI_add, nI_mul', nI_sub', nI_div', qRem_nI, lN_add, lN_mul, lN_sub, lN_div', qRemL_lN, qIn_I, qIx_nI, nI_ltI, nI_leI, nI_eq, nI_eqn, nI_eqn', nI_len, nI_ltn, nI_nle', nI_nlt', lN_eqn, lg_lt, lg_gt, lg_eq, lg_le, lg_ge, lgn_lt, lgn_gt, lgn_eq, lgn_le, lgn_ge, pk_lLT, pk_lLE, pk_lEQ, nI_l, lN_i, qShl_n, nI_and, nI_or, lN_and, lN_or, nI_andn, lN_andn, pI_e, pI_f, pI_c, pL_e, pL_f, pL_c, pI_L, pL_I, qB_1, qZb_n, true_and, and_true, forall_const, not_true_eq_false, not_false_eq_true, Nat.reduceLT, Nat.reduceLeDiff, Nat.reduceEqDiff, Nat.reduceAdd, Nat.reduceMul, Nat.reduceSub, Nat.reduceMod, Nat.reduceDiv, false_implies, implies_true, r.ppl]
  refine ⟨fun g3 => ?_, fun g3 => hn (fun q => by have := q.2; omega)⟩
  have g : vPer N a b := ⟨g1, by omega⟩
  refine ⟨by omega, by omega, ?_⟩
  have e1 : N 0 0 + 1 - 1 = N 0 0 := by omega
  rw [e1]
  refine hy _ g ?_ (fr_I (fr_I (fr_pI (by decide)) (by decide)) (by decide))
  obtain ⟨x, y, hx, hy', ea, eb, ea2, eb2⟩ := vPer_x g
  rw [ea2, eb2]
  subst ea eb
  refine hX.upd (A := fun c => c = 73) (fr_I (fr_I (fr_pI rfl) rfl) rfl) (fun c _ => by omega) ?_ (nPer_ok o hx hy' g.2) rfl
  unfold nPer
  have g2 := g.2
  (refine rR.mk ?_ ?_ ?_ ?_ ?_ ?_ ?_ ?_ ?_ ?_ ?_ ?_ ?_ ?_ ?_ ?_ ?_ ?_ ?_ ?_ ?_ ?_ ?_); (all_goals (try simp (disch := omega) only [li, ll, nI_add, nI_mul', nI_sub', nI_div', qRem_nI, lN_add, lN_mul, lN_sub, lN_div', qRemL_lN, qIn_I, qIx_nI, nI_ltI, nI_leI, nI_eq, nI_eqn, nI_eqn', nI_len, nI_ltn, nI_nle', nI_nlt', lN_eqn, lg_lt, lg_gt, lg_eq, lg_le, lg_ge, lgn_lt, lgn_gt, lgn_eq, lgn_le, lgn_ge, pk_lLT, pk_lLE, pk_lEQ, nI_l, lN_i, qShl_n, nI_and, nI_or, lN_and, lN_or, nI_andn, lN_andn, pI_e, pI_f, pI_c, pL_e, pL_f, pL_c, pI_L, pL_I, qB_1, qZb_n, true_and, and_true, forall_const, not_true_eq_false, not_false_eq_true, Nat.reduceLT, Nat.reduceLeDiff, Nat.reduceEqDiff, Nat.reduceAdd, Nat.reduceMul, Nat.reduceSub, Nat.reduceMod, Nat.reduceDiv, false_implies, implies_true, sP_e, sP_f, sP_c])); (all_goals try (first | done | (first | done | exact r.ppl | exact r.day | exact r.clk | exact r.txs | exact r.rul | exact r.tks | exact r.gvs | exact r.nds | exact r.hds | exact r.num | exact r.fst | exact r.nr | exact r.nr0 | exact r.gv | exact r.ndA | exact r.ndB | exact r.nda | exact r.ndh | exact r.hrd | exact r.hri | exact r.tkh | exact r.tkA | exact r.tkB) | (intro i hi; (try simp (disch := omega) only [li, ll, nI_add, nI_mul', nI_sub', nI_div', qRem_nI, lN_add, lN_mul, lN_sub, lN_div', qRemL_lN, qIn_I, qIx_nI, nI_ltI, nI_leI, nI_eq, nI_eqn, nI_eqn', nI_len, nI_ltn, nI_nle', nI_nlt', lN_eqn, lg_lt, lg_gt, lg_eq, lg_le, lg_ge, lgn_lt, lgn_gt, lgn_eq, lgn_le, lgn_ge, pk_lLT, pk_lLE, pk_lEQ, nI_l, lN_i, qShl_n, nI_and, nI_or, lN_and, lN_or, nI_andn, lN_andn, pI_e, pI_f, pI_c, pL_e, pL_f, pL_c, pI_L, pL_I, qB_1, qZb_n, true_and, and_true, forall_const, not_true_eq_false, not_false_eq_true, Nat.reduceLT, Nat.reduceLeDiff, Nat.reduceEqDiff, Nat.reduceAdd, Nat.reduceMul, Nat.reduceSub, Nat.reduceMod, Nat.reduceDiv, false_implies, implies_true, sP_e, sP_f, sP_c]); first | exact r.num i hi | exact r.fst i hi | exact r.nr i hi | exact r.gv i hi | exact r.ndA i hi | exact r.ndB i hi | exact r.nda i hi | exact r.ndh i hi | exact r.hrd i hi | exact r.hri i hi | exact r.tkh i hi | exact r.tkA i hi | exact r.tkB i hi) | (intro i hi hj; (try simp (disch := omega) only [li, ll, nI_add, nI_mul', nI_sub', nI_div', qRem_nI, lN_add, lN_mul, lN_sub, lN_div', qRemL_lN, qIn_I, qIx_nI, nI_ltI, nI_leI, nI_eq, nI_eqn, nI_eqn', nI_len, nI_ltn, nI_nle', nI_nlt', lN_eqn, lg_lt, lg_gt, lg_eq, lg_le, lg_ge, lgn_lt, lgn_gt, lgn_eq, lgn_le, lgn_ge, pk_lLT, pk_lLE, pk_lEQ, nI_l, lN_i, qShl_n, nI_and, nI_or, lN_and, lN_or, nI_andn, lN_andn, pI_e, pI_f, pI_c, pL_e, pL_f, pL_c, pI_L, pL_I, qB_1, qZb_n, true_and, and_true, forall_const, not_true_eq_false, not_false_eq_true, Nat.reduceLT, Nat.reduceLeDiff, Nat.reduceEqDiff, Nat.reduceAdd, Nat.reduceMul, Nat.reduceSub, Nat.reduceMod, Nat.reduceDiv, false_implies, implies_true, sP_e, sP_f, sP_c]); exact r.nr0 i hi hj)))
  · intro i hi
    by_cases q : i = N 0 0
    · subst q; simp (disch := omega) only [li, ll, nI_add, nI_mul', nI_sub', nI_div', qRem_nI, lN_add, lN_mul, lN_sub, lN_div', qRemL_lN, qIn_I, qIx_nI, nI_ltI, nI_leI, nI_eq, nI_eqn, nI_eqn', nI_len, nI_ltn, nI_nle', nI_nlt', lN_eqn, lg_lt, lg_gt, lg_eq, lg_le, lg_ge, lgn_lt, lgn_gt, lgn_eq, lgn_le, lgn_ge, pk_lLT, pk_lLE, pk_lEQ, nI_l, lN_i, qShl_n, nI_and, nI_or, lN_and, lN_or, nI_andn, lN_andn, pI_e, pI_f, pI_c, pL_e, pL_f, pL_c, pI_L, pL_I, qB_1, qZb_n, true_and, and_true, forall_const, not_true_eq_false, not_false_eq_true, Nat.reduceLT, Nat.reduceLeDiff, Nat.reduceEqDiff, Nat.reduceAdd, Nat.reduceMul, Nat.reduceSub, Nat.reduceMod, Nat.reduceDiv, false_implies, implies_true, sP_e, sP_f, sP_c]
    · simp (disch := omega) only [li, ll, nI_add, nI_mul', nI_sub', nI_div', qRem_nI, lN_add, lN_mul, lN_sub, lN_div', qRemL_lN, qIn_I, qIx_nI, nI_ltI, nI_leI, nI_eq, nI_eqn, nI_eqn', nI_len, nI_ltn, nI_nle', nI_nlt', lN_eqn, lg_lt, lg_gt, lg_eq, lg_le, lg_ge, lgn_lt, lgn_gt, lgn_eq, lgn_le, lgn_ge, pk_lLT, pk_lLE, pk_lEQ, nI_l, lN_i, qShl_n, nI_and, nI_or, lN_and, lN_or, nI_andn, lN_andn, pI_e, pI_f, pI_c, pL_e, pL_f, pL_c, pI_L, pL_I, qB_1, qZb_n, true_and, and_true, forall_const, not_true_eq_false, not_false_eq_true, Nat.reduceLT, Nat.reduceLeDiff, Nat.reduceEqDiff, Nat.reduceAdd, Nat.reduceMul, Nat.reduceSub, Nat.reduceMod, Nat.reduceDiv, false_implies, implies_true, sP_e, sP_f, sP_c]; exact r.num i (by omega)
  · intro i hi
    by_cases q : i = N 0 0
    · subst q; simp (disch := omega) only [li, ll, nI_add, nI_mul', nI_sub', nI_div', qRem_nI, lN_add, lN_mul, lN_sub, lN_div', qRemL_lN, qIn_I, qIx_nI, nI_ltI, nI_leI, nI_eq, nI_eqn, nI_eqn', nI_len, nI_ltn, nI_nle', nI_nlt', lN_eqn, lg_lt, lg_gt, lg_eq, lg_le, lg_ge, lgn_lt, lgn_gt, lgn_eq, lgn_le, lgn_ge, pk_lLT, pk_lLE, pk_lEQ, nI_l, lN_i, qShl_n, nI_and, nI_or, lN_and, lN_or, nI_andn, lN_andn, pI_e, pI_f, pI_c, pL_e, pL_f, pL_c, pI_L, pL_I, qB_1, qZb_n, true_and, and_true, forall_const, not_true_eq_false, not_false_eq_true, Nat.reduceLT, Nat.reduceLeDiff, Nat.reduceEqDiff, Nat.reduceAdd, Nat.reduceMul, Nat.reduceSub, Nat.reduceMod, Nat.reduceDiv, false_implies, implies_true, sP_e, sP_f, sP_c]
    · simp (disch := omega) only [li, ll, nI_add, nI_mul', nI_sub', nI_div', qRem_nI, lN_add, lN_mul, lN_sub, lN_div', qRemL_lN, qIn_I, qIx_nI, nI_ltI, nI_leI, nI_eq, nI_eqn, nI_eqn', nI_len, nI_ltn, nI_nle', nI_nlt', lN_eqn, lg_lt, lg_gt, lg_eq, lg_le, lg_ge, lgn_lt, lgn_gt, lgn_eq, lgn_le, lgn_ge, pk_lLT, pk_lLE, pk_lEQ, nI_l, lN_i, qShl_n, nI_and, nI_or, lN_and, lN_or, nI_andn, lN_andn, pI_e, pI_f, pI_c, pL_e, pL_f, pL_c, pI_L, pL_I, qB_1, qZb_n, true_and, and_true, forall_const, not_true_eq_false, not_false_eq_true, Nat.reduceLT, Nat.reduceLeDiff, Nat.reduceEqDiff, Nat.reduceAdd, Nat.reduceMul, Nat.reduceSub, Nat.reduceMod, Nat.reduceDiv, false_implies, implies_true, sP_e, sP_f, sP_c]; exact r.fst i (by omega)
  · intro i hi
    by_cases q : i = N 0 0
    · subst q; simp (disch := omega) only [li, ll, nI_add, nI_mul', nI_sub', nI_div', qRem_nI, lN_add, lN_mul, lN_sub, lN_div', qRemL_lN, qIn_I, qIx_nI, nI_ltI, nI_leI, nI_eq, nI_eqn, nI_eqn', nI_len, nI_ltn, nI_nle', nI_nlt', lN_eqn, lg_lt, lg_gt, lg_eq, lg_le, lg_ge, lgn_lt, lgn_gt, lgn_eq, lgn_le, lgn_ge, pk_lLT, pk_lLE, pk_lEQ, nI_l, lN_i, qShl_n, nI_and, nI_or, lN_and, lN_or, nI_andn, lN_andn, pI_e, pI_f, pI_c, pL_e, pL_f, pL_c, pI_L, pL_I, qB_1, qZb_n, true_and, and_true, forall_const, not_true_eq_false, not_false_eq_true, Nat.reduceLT, Nat.reduceLeDiff, Nat.reduceEqDiff, Nat.reduceAdd, Nat.reduceMul, Nat.reduceSub, Nat.reduceMod, Nat.reduceDiv, false_implies, implies_true, sP_e, sP_f, sP_c]; exact r.nr0 _ (Nat.le_refl _) g2
    · simp (disch := omega) only [li, ll, nI_add, nI_mul', nI_sub', nI_div', qRem_nI, lN_add, lN_mul, lN_sub, lN_div', qRemL_lN, qIn_I, qIx_nI, nI_ltI, nI_leI, nI_eq, nI_eqn, nI_eqn', nI_len, nI_ltn, nI_nle', nI_nlt', lN_eqn, lg_lt, lg_gt, lg_eq, lg_le, lg_ge, lgn_lt, lgn_gt, lgn_eq, lgn_le, lgn_ge, pk_lLT, pk_lLE, pk_lEQ, nI_l, lN_i, qShl_n, nI_and, nI_or, lN_and, lN_or, nI_andn, lN_andn, pI_e, pI_f, pI_c, pL_e, pL_f, pL_c, pI_L, pL_I, qB_1, qZb_n, true_and, and_true, forall_const, not_true_eq_false, not_false_eq_true, Nat.reduceLT, Nat.reduceLeDiff, Nat.reduceEqDiff, Nat.reduceAdd, Nat.reduceMul, Nat.reduceSub, Nat.reduceMod, Nat.reduceDiv, false_implies, implies_true, sP_e, sP_f, sP_c]; exact r.nr i (by omega)
  · intro i hi hj
    (try simp (disch := omega) only [li, ll, nI_add, nI_mul', nI_sub', nI_div', qRem_nI, lN_add, lN_mul, lN_sub, lN_div', qRemL_lN, qIn_I, qIx_nI, nI_ltI, nI_leI, nI_eq, nI_eqn, nI_eqn', nI_len, nI_ltn, nI_nle', nI_nlt', lN_eqn, lg_lt, lg_gt, lg_eq, lg_le, lg_ge, lgn_lt, lgn_gt, lgn_eq, lgn_le, lgn_ge, pk_lLT, pk_lLE, pk_lEQ, nI_l, lN_i, qShl_n, nI_and, nI_or, lN_and, lN_or, nI_andn, lN_andn, pI_e, pI_f, pI_c, pL_e, pL_f, pL_c, pI_L, pL_I, qB_1, qZb_n, true_and, and_true, forall_const, not_true_eq_false, not_false_eq_true, Nat.reduceLT, Nat.reduceLeDiff, Nat.reduceEqDiff, Nat.reduceAdd, Nat.reduceMul, Nat.reduceSub, Nat.reduceMod, Nat.reduceDiv, false_implies, implies_true, sP_e, sP_f, sP_c]); exact r.nr0 i (by omega) hj
def vChg (N : vS) (p a b : Int32) : Prop := vTold (N 0 0) p ∧ vNum a ∧ vFst b
def nChg (N : vS) (p a b : Nat) : vS := sPut (sPut N 10 p a) 11 p b
theorem nChg_ok {p a b : Nat} (o : okS N) (ha : 1 ≤ a ∧ a ≤ 9999) (hb : b ≤ 9999) : okS (nChg N p a b) := by
  unfold nChg
  (refine okS.mk ?_ ?_ ?_ ?_ ?_ ?_ ?_ ?_ ?_ ?_ ?_ ?_ ?_ ?_ ?_ ?_); (all_goals (try simp (disch := omega) only [li, ll, nI_add, nI_mul', nI_sub', nI_div', qRem_nI, lN_add, lN_mul, lN_sub, lN_div', qRemL_lN, qIn_I, qIx_nI, nI_ltI, nI_leI, nI_eq, nI_eqn, nI_eqn', nI_len, nI_ltn, nI_nle', nI_nlt', lN_eqn, lg_lt, lg_gt, lg_eq, lg_le, lg_ge, lgn_lt, lgn_gt, lgn_eq, lgn_le, lgn_ge, pk_lLT, pk_lLE, pk_lEQ, nI_l, lN_i, qShl_n, nI_and, nI_or, lN_and, lN_or, nI_andn, lN_andn, pI_e, pI_f, pI_c, pL_e, pL_f, pL_c, pI_L, pL_I, qB_1, qZb_n, true_and, and_true, forall_const, not_true_eq_false, not_false_eq_true, Nat.reduceLT, Nat.reduceLeDiff, Nat.reduceEqDiff, Nat.reduceAdd, Nat.reduceMul, Nat.reduceSub, Nat.reduceMod, Nat.reduceDiv, false_implies, implies_true, sP_e, sP_f, sP_c])); (all_goals try (first | done | (first | done | exact o.p12 | exact o.day | exact o.clk | exact o.txs | exact o.rul | exact o.tks | exact o.gvs | exact o.nds | exact o.hds | exact o.num | exact o.fst | exact o.nr | exact o.gv | exact o.need | exact o.hrd | exact o.tlk) | (intro i hi; (try simp (disch := omega) only [li, ll, nI_add, nI_mul', nI_sub', nI_div', qRem_nI, lN_add, lN_mul, lN_sub, lN_div', qRemL_lN, qIn_I, qIx_nI, nI_ltI, nI_leI, nI_eq, nI_eqn, nI_eqn', nI_len, nI_ltn, nI_nle', nI_nlt', lN_eqn, lg_lt, lg_gt, lg_eq, lg_le, lg_ge, lgn_lt, lgn_gt, lgn_eq, lgn_le, lgn_ge, pk_lLT, pk_lLE, pk_lEQ, nI_l, lN_i, qShl_n, nI_and, nI_or, lN_and, lN_or, nI_andn, lN_andn, pI_e, pI_f, pI_c, pL_e, pL_f, pL_c, pI_L, pL_I, qB_1, qZb_n, true_and, and_true, forall_const, not_true_eq_false, not_false_eq_true, Nat.reduceLT, Nat.reduceLeDiff, Nat.reduceEqDiff, Nat.reduceAdd, Nat.reduceMul, Nat.reduceSub, Nat.reduceMod, Nat.reduceDiv, false_implies, implies_true, sP_e, sP_f, sP_c]); first | exact o.num i hi | exact o.fst i hi | exact o.nr i hi | exact o.gv i hi | exact o.need i hi | exact o.hrd i hi | exact o.tlk i hi)))
  · intro i hi
    by_cases q : i = p
    · subst q; simp (disch := omega) only [li, ll, nI_add, nI_mul', nI_sub', nI_div', qRem_nI, lN_add, lN_mul, lN_sub, lN_div', qRemL_lN, qIn_I, qIx_nI, nI_ltI, nI_leI, nI_eq, nI_eqn, nI_eqn', nI_len, nI_ltn, nI_nle', nI_nlt', lN_eqn, lg_lt, lg_gt, lg_eq, lg_le, lg_ge, lgn_lt, lgn_gt, lgn_eq, lgn_le, lgn_ge, pk_lLT, pk_lLE, pk_lEQ, nI_l, lN_i, qShl_n, nI_and, nI_or, lN_and, lN_or, nI_andn, lN_andn, pI_e, pI_f, pI_c, pL_e, pL_f, pL_c, pI_L, pL_I, qB_1, qZb_n, true_and, and_true, forall_const, not_true_eq_false, not_false_eq_true, Nat.reduceLT, Nat.reduceLeDiff, Nat.reduceEqDiff, Nat.reduceAdd, Nat.reduceMul, Nat.reduceSub, Nat.reduceMod, Nat.reduceDiv, false_implies, implies_true, sP_e, sP_f, sP_c]; exact ha
    · simp (disch := omega) only [li, ll, nI_add, nI_mul', nI_sub', nI_div', qRem_nI, lN_add, lN_mul, lN_sub, lN_div', qRemL_lN, qIn_I, qIx_nI, nI_ltI, nI_leI, nI_eq, nI_eqn, nI_eqn', nI_len, nI_ltn, nI_nle', nI_nlt', lN_eqn, lg_lt, lg_gt, lg_eq, lg_le, lg_ge, lgn_lt, lgn_gt, lgn_eq, lgn_le, lgn_ge, pk_lLT, pk_lLE, pk_lEQ, nI_l, lN_i, qShl_n, nI_and, nI_or, lN_and, lN_or, nI_andn, lN_andn, pI_e, pI_f, pI_c, pL_e, pL_f, pL_c, pI_L, pL_I, qB_1, qZb_n, true_and, and_true, forall_const, not_true_eq_false, not_false_eq_true, Nat.reduceLT, Nat.reduceLeDiff, Nat.reduceEqDiff, Nat.reduceAdd, Nat.reduceMul, Nat.reduceSub, Nat.reduceMod, Nat.reduceDiv, false_implies, implies_true, sP_e, sP_f, sP_c]; exact o.num i hi
  · intro i hi
    by_cases q : i = p
    · subst q; simp (disch := omega) only [li, ll, nI_add, nI_mul', nI_sub', nI_div', qRem_nI, lN_add, lN_mul, lN_sub, lN_div', qRemL_lN, qIn_I, qIx_nI, nI_ltI, nI_leI, nI_eq, nI_eqn, nI_eqn', nI_len, nI_ltn, nI_nle', nI_nlt', lN_eqn, lg_lt, lg_gt, lg_eq, lg_le, lg_ge, lgn_lt, lgn_gt, lgn_eq, lgn_le, lgn_ge, pk_lLT, pk_lLE, pk_lEQ, nI_l, lN_i, qShl_n, nI_and, nI_or, lN_and, lN_or, nI_andn, lN_andn, pI_e, pI_f, pI_c, pL_e, pL_f, pL_c, pI_L, pL_I, qB_1, qZb_n, true_and, and_true, forall_const, not_true_eq_false, not_false_eq_true, Nat.reduceLT, Nat.reduceLeDiff, Nat.reduceEqDiff, Nat.reduceAdd, Nat.reduceMul, Nat.reduceSub, Nat.reduceMod, Nat.reduceDiv, false_implies, implies_true, sP_e, sP_f, sP_c]; exact hb
    · simp (disch := omega) only [li, ll, nI_add, nI_mul', nI_sub', nI_div', qRem_nI, lN_add, lN_mul, lN_sub, lN_div', qRemL_lN, qIn_I, qIx_nI, nI_ltI, nI_leI, nI_eq, nI_eqn, nI_eqn', nI_len, nI_ltn, nI_nle', nI_nlt', lN_eqn, lg_lt, lg_gt, lg_eq, lg_le, lg_ge, lgn_lt, lgn_gt, lgn_eq, lgn_le, lgn_ge, pk_lLT, pk_lLE, pk_lEQ, nI_l, lN_i, qShl_n, nI_and, nI_or, lN_and, lN_or, nI_andn, lN_andn, pI_e, pI_f, pI_c, pL_e, pL_f, pL_c, pI_L, pL_I, qB_1, qZb_n, true_and, and_true, forall_const, not_true_eq_false, not_false_eq_true, Nat.reduceLT, Nat.reduceLeDiff, Nat.reduceEqDiff, Nat.reduceAdd, Nat.reduceMul, Nat.reduceSub, Nat.reduceMod, Nat.reduceDiv, false_implies, implies_true, sP_e, sP_f, sP_c]; exact o.fst i hi
theorem vChg_x {p a b : Int32} (o : okS N) (g : vChg N p a b) : ∃ i x y, i < N 0 0 ∧ (1 ≤ x ∧ x ≤ 9999) ∧ y ≤ 9999 ∧ p = nI i ∧ a = nI x ∧ b = nI y ∧ qIx p = i ∧ qIx a = x ∧ qIx b = y := by
  obtain ⟨i, hi, ep, ep2⟩ := vTold_x o.p12 g.1
  obtain ⟨x, h1, h2, e, e2⟩ := nI_rng 1 9999 g.2.1.1 g.2.1.2
  obtain ⟨y, h3, h4, f, f2⟩ := nI_rng 0 9999 g.2.2.1 g.2.2.2
  exact ⟨i, x, y, hi, ⟨h1, h2⟩, h4, ep, e, f, ep2, e2, f2⟩
theorem c_change {p a b : Int32} (hd : 6 ≤ d) (hX : rX w N K T Z) (hy : ∀ w', vChg N p a b → rX w' (nChg N (qIx p) (qIx a) (qIx b)) K T Z → fr (fun c => c < 72) w w' → Q 1 w') (hn : ¬ vChg N p a b → Q 0 w) : qCall (some s) d 26 [.ref 1, .int p, .int a, .int b] w (qQi Q) := by
  obtain ⟨d, rfl, hd1⟩ := dS hd
  have r := hX.n
  have o := hX.okn
  have o0 := o.p12
  refine A_X_change (c_isTold (by omega) r.ppl o0 (fun g1 => b1 (c_isNumber (by omega) (fun g2 => b1 (c_isFirst (by omega) (fun g3 => n1 ?_) (fun g => n0 (hn (fun q => g q.2.2))))) (fun g => b0 (hn (fun q => g q.2.1))))) (fun g => b0 (hn (fun q => g q.1))))
  have g : vChg N p a b := ⟨g1, g2, g3⟩
  obtain ⟨i, x, y, hi, hx, hy', ep, ea, eb, ep2, ea2, eb2⟩ := vChg_x o g
  rw [ep2, ea2, eb2] at hy
  subst ep ea eb
  have hi12 : i < 12 := by omega
  simp (disch := omega) only [li, ll, nI_add, nI_mul', nI_sub', nI_div', qRem_nI, lN_add, lN_mul, lN_sub, lN_div', qRemL_lN, qIn_I, qIx_nI, nI_ltI, nI_leI, nI_eq, nI_eqn, nI_eqn', nI_len, nI_ltn, nI_nle', nI_nlt', lN_eqn, lg_lt, lg_gt, lg_eq, lg_le, lg_ge, lgn_lt, lgn_gt, lgn_eq, lgn_le, lgn_ge, pk_lLT, pk_lLE, pk_lEQ, nI_l, lN_i, qShl_n, nI_and, nI_or, lN_and, lN_or, nI_andn, lN_andn, pI_e, pI_f, pI_c, pL_e, pL_f, pL_c, pI_L, pL_I, qB_1, qZb_n, true_and, and_true, forall_const, not_true_eq_false, not_false_eq_true, Nat.reduceLT, Nat.reduceLeDiff, Nat.reduceEqDiff, Nat.reduceAdd, Nat.reduceMul, Nat.reduceSub, Nat.reduceMod, Nat.reduceDiv, false_implies, implies_true]
  (repeat (refine And.intro (by omega) ?_))
  obtain ⟨O, hO, hb⟩ := hX.O
  have h : rW (qPutI (qPutI w 3 i (nI x)) 4 i (nI y)) (nChg N i x y) K T Z := by
    refine hX.wk.upd (A := fun c => 2 ≤ c ∧ c ≤ 12) (fr_I (fr_pI (by decide)) (by decide)) (fun c _ _ => by omega) ?_ (nChg_ok o hx hy') rfl hX.op2
    unfold nChg
    (refine rS.mk ?_ ?_ ?_ ?_ ?_ ?_ ?_ ?_ ?_ ?_ ?_ ?_ ?_ ?_ ?_ ?_ ?_ ?_ ?_ ?_); (all_goals (try simp (disch := omega) only [li, ll, nI_add, nI_mul', nI_sub', nI_div', qRem_nI, lN_add, lN_mul, lN_sub, lN_div', qRemL_lN, qIn_I, qIx_nI, nI_ltI, nI_leI, nI_eq, nI_eqn, nI_eqn', nI_len, nI_ltn, nI_nle', nI_nlt', lN_eqn, lg_lt, lg_gt, lg_eq, lg_le, lg_ge, lgn_lt, lgn_gt, lgn_eq, lgn_le, lgn_ge, pk_lLT, pk_lLE, pk_lEQ, nI_l, lN_i, qShl_n, nI_and, nI_or, lN_and, lN_or, nI_andn, lN_andn, pI_e, pI_f, pI_c, pL_e, pL_f, pL_c, pI_L, pL_I, qB_1, qZb_n, true_and, and_true, forall_const, not_true_eq_false, not_false_eq_true, Nat.reduceLT, Nat.reduceLeDiff, Nat.reduceEqDiff, Nat.reduceAdd, Nat.reduceMul, Nat.reduceSub, Nat.reduceMod, Nat.reduceDiv, false_implies, implies_true, sP_e, sP_f, sP_c])); (all_goals try (first | done | (first | done | exact r.ppl | exact r.day | exact r.clk | exact r.txs | exact r.rul | exact r.tks | exact r.gvs | exact r.nds | exact r.hds | exact r.hIs | exact r.num | exact r.fst | exact r.nr | exact r.tkh | exact r.tkp | exact r.gv | exact r.ndp | exact r.nda | exact r.ndh | exact r.hrd) | (intro i hi; (try simp (disch := omega) only [li, ll, nI_add, nI_mul', nI_sub', nI_div', qRem_nI, lN_add, lN_mul, lN_sub, lN_div', qRemL_lN, qIn_I, qIx_nI, nI_ltI, nI_leI, nI_eq, nI_eqn, nI_eqn', nI_len, nI_ltn, nI_nle', nI_nlt', lN_eqn, lg_lt, lg_gt, lg_eq, lg_le, lg_ge, lgn_lt, lgn_gt, lgn_eq, lgn_le, lgn_ge, pk_lLT, pk_lLE, pk_lEQ, nI_l, lN_i, qShl_n, nI_and, nI_or, lN_and, lN_or, nI_andn, lN_andn, pI_e, pI_f, pI_c, pL_e, pL_f, pL_c, pI_L, pL_I, qB_1, qZb_n, true_and, and_true, forall_const, not_true_eq_false, not_false_eq_true, Nat.reduceLT, Nat.reduceLeDiff, Nat.reduceEqDiff, Nat.reduceAdd, Nat.reduceMul, Nat.reduceSub, Nat.reduceMod, Nat.reduceDiv, false_implies, implies_true, sP_e, sP_f, sP_c]); first | exact r.num i hi | exact r.fst i hi | exact r.nr i hi | exact r.tkh i hi | exact r.tkp i hi | exact r.gv i hi | exact r.ndp i hi | exact r.nda i hi | exact r.ndh i hi | exact r.hrd i hi)))
    · intro j hj
      by_cases q : j = i
      · subst q; simp (disch := omega) only [li, ll, nI_add, nI_mul', nI_sub', nI_div', qRem_nI, lN_add, lN_mul, lN_sub, lN_div', qRemL_lN, qIn_I, qIx_nI, nI_ltI, nI_leI, nI_eq, nI_eqn, nI_eqn', nI_len, nI_ltn, nI_nle', nI_nlt', lN_eqn, lg_lt, lg_gt, lg_eq, lg_le, lg_ge, lgn_lt, lgn_gt, lgn_eq, lgn_le, lgn_ge, pk_lLT, pk_lLE, pk_lEQ, nI_l, lN_i, qShl_n, nI_and, nI_or, lN_and, lN_or, nI_andn, lN_andn, pI_e, pI_f, pI_c, pL_e, pL_f, pL_c, pI_L, pL_I, qB_1, qZb_n, true_and, and_true, forall_const, not_true_eq_false, not_false_eq_true, Nat.reduceLT, Nat.reduceLeDiff, Nat.reduceEqDiff, Nat.reduceAdd, Nat.reduceMul, Nat.reduceSub, Nat.reduceMod, Nat.reduceDiv, false_implies, implies_true, sP_e, sP_f, sP_c]
      · simp (disch := omega) only [li, ll, nI_add, nI_mul', nI_sub', nI_div', qRem_nI, lN_add, lN_mul, lN_sub, lN_div', qRemL_lN, qIn_I, qIx_nI, nI_ltI, nI_leI, nI_eq, nI_eqn, nI_eqn', nI_len, nI_ltn, nI_nle', nI_nlt', lN_eqn, lg_lt, lg_gt, lg_eq, lg_le, lg_ge, lgn_lt, lgn_gt, lgn_eq, lgn_le, lgn_ge, pk_lLT, pk_lLE, pk_lEQ, nI_l, lN_i, qShl_n, nI_and, nI_or, lN_and, lN_or, nI_andn, lN_andn, pI_e, pI_f, pI_c, pL_e, pL_f, pL_c, pI_L, pL_I, qB_1, qZb_n, true_and, and_true, forall_const, not_true_eq_false, not_false_eq_true, Nat.reduceLT, Nat.reduceLeDiff, Nat.reduceEqDiff, Nat.reduceAdd, Nat.reduceMul, Nat.reduceSub, Nat.reduceMod, Nat.reduceDiv, false_implies, implies_true, sP_e, sP_f, sP_c]; exact r.num j hj
    · intro j hj
      by_cases q : j = i
      · subst q; simp (disch := omega) only [li, ll, nI_add, nI_mul', nI_sub', nI_div', qRem_nI, lN_add, lN_mul, lN_sub, lN_div', qRemL_lN, qIn_I, qIx_nI, nI_ltI, nI_leI, nI_eq, nI_eqn, nI_eqn', nI_len, nI_ltn, nI_nle', nI_nlt', lN_eqn, lg_lt, lg_gt, lg_eq, lg_le, lg_ge, lgn_lt, lgn_gt, lgn_eq, lgn_le, lgn_ge, pk_lLT, pk_lLE, pk_lEQ, nI_l, lN_i, qShl_n, nI_and, nI_or, lN_and, lN_or, nI_andn, lN_andn, pI_e, pI_f, pI_c, pL_e, pL_f, pL_c, pI_L, pL_I, qB_1, qZb_n, true_and, and_true, forall_const, not_true_eq_false, not_false_eq_true, Nat.reduceLT, Nat.reduceLeDiff, Nat.reduceEqDiff, Nat.reduceAdd, Nat.reduceMul, Nat.reduceSub, Nat.reduceMod, Nat.reduceDiv, false_implies, implies_true, sP_e, sP_f, sP_c]
      · simp (disch := omega) only [li, ll, nI_add, nI_mul', nI_sub', nI_div', qRem_nI, lN_add, lN_mul, lN_sub, lN_div', qRemL_lN, qIn_I, qIx_nI, nI_ltI, nI_leI, nI_eq, nI_eqn, nI_eqn', nI_len, nI_ltn, nI_nle', nI_nlt', lN_eqn, lg_lt, lg_gt, lg_eq, lg_le, lg_ge, lgn_lt, lgn_gt, lgn_eq, lgn_le, lgn_ge, pk_lLT, pk_lLE, pk_lEQ, nI_l, lN_i, qShl_n, nI_and, nI_or, lN_and, lN_or, nI_andn, lN_andn, pI_e, pI_f, pI_c, pL_e, pL_f, pL_c, pI_L, pL_I, qB_1, qZb_n, true_and, and_true, forall_const, not_true_eq_false, not_false_eq_true, Nat.reduceLT, Nat.reduceLeDiff, Nat.reduceEqDiff, Nat.reduceAdd, Nat.reduceMul, Nat.reduceSub, Nat.reduceMod, Nat.reduceDiv, false_implies, implies_true, sP_e, sP_f, sP_c]; exact r.fst j hj
  refine c_openFor (O := O) (by omega) h.v (fun c hc => hO c hc) hi ?_
  intro w2 O2 f2 r2 h2
  refine hy w2 g (h.x f2 r2 ?_) (fr_tr (fr_I (fr_pI (by decide)) (by decide)) (fr_wk f2 (fun c hc => by omega)))
  intro c q hc hq
  have hq : q < N 0 0 := hq
  rw [h2 c q hc]
  by_cases e : q = i
  · subst e; rw [if_pos rfl]
  · rw [if_neg e, hb c q hc hq]
    rw [brd_eq (N := N) (N' := nChg N i x y) rfl (by unfold nChg; simp (disch := omega) only [li, ll, nI_add, nI_mul', nI_sub', nI_div', qRem_nI, lN_add, lN_mul, lN_sub, lN_div', qRemL_lN, qIn_I, qIx_nI, nI_ltI, nI_leI, nI_eq, nI_eqn, nI_eqn', nI_len, nI_ltn, nI_nle', nI_nlt', lN_eqn, lg_lt, lg_gt, lg_eq, lg_le, lg_ge, lgn_lt, lgn_gt, lgn_eq, lgn_le, lgn_ge, pk_lLT, pk_lLE, pk_lEQ, nI_l, lN_i, qShl_n, nI_and, nI_or, lN_and, lN_or, nI_andn, lN_andn, pI_e, pI_f, pI_c, pL_e, pL_f, pL_c, pI_L, pL_I, qB_1, qZb_n, true_and, and_true, forall_const, not_true_eq_false, not_false_eq_true, Nat.reduceLT, Nat.reduceLeDiff, Nat.reduceEqDiff, Nat.reduceAdd, Nat.reduceMul, Nat.reduceSub, Nat.reduceMod, Nat.reduceDiv, false_implies, implies_true, sP_e, sP_f, sP_c]) (by unfold nChg; simp (disch := omega) only [li, ll, nI_add, nI_mul', nI_sub', nI_div', qRem_nI, lN_add, lN_mul, lN_sub, lN_div', qRemL_lN, qIn_I, qIx_nI, nI_ltI, nI_leI, nI_eq, nI_eqn, nI_eqn', nI_len, nI_ltn, nI_nle', nI_nlt', lN_eqn, lg_lt, lg_gt, lg_eq, lg_le, lg_ge, lgn_lt, lgn_gt, lgn_eq, lgn_le, lgn_ge, pk_lLT, pk_lLE, pk_lEQ, nI_l, lN_i, qShl_n, nI_and, nI_or, lN_and, lN_or, nI_andn, lN_andn, pI_e, pI_f, pI_c, pL_e, pL_f, pL_c, pI_L, pL_I, qB_1, qZb_n, true_and, and_true, forall_const, not_true_eq_false, not_false_eq_true, Nat.reduceLT, Nat.reduceLeDiff, Nat.reduceEqDiff, Nat.reduceAdd, Nat.reduceMul, Nat.reduceSub, Nat.reduceMod, Nat.reduceDiv, false_implies, implies_true, sP_e, sP_f, sP_c])]
theorem m_change {p a b : Int32} (hd : 3 ≤ d) (hX : rM w N K T Z) (hy : ∀ w', vChg N p a b → rM w' (nChg N (qIx p) (qIx a) (qIx b)) K T Z → fr (fun c => 72 ≤ c) w w' → Q 1 w') (hn : ¬ vChg N p a b → Q 0 w) : qCall (some s) d 210 [.ref 72, .int p, .int a, .int b] w (qQi Q) := by
  obtain ⟨d, rfl, hd1⟩ := dS hd
  have r := hX.n
  have o := hX.okn
  have o0 := o.p12
  have o5 := o.tks
  have o6 := o.gvs
  have o7 := o.nds
  have o8 := o.hds
  refine A_Mo_change (m_isPerson (by omega) r.ppl o0 (fun g1 => b1 (m_isCaller (by omega) (fun g2 => n1 ?_) (fun g => n0 (hn (fun q => g q.2))))) (fun g => b0 (hn (fun q => g q.1))))
  have g : vChg N p a b := ⟨g1, g2⟩
  obtain ⟨i, x, y, hi, hx, hy', ep, ea, eb, ep2, ea2, eb2⟩ := vChg_x o g
  rw [ep2, ea2, eb2] at hy
  subst ep ea eb
  simp (disch := omega) only [li, ll, nI_add, nI_mul', nI_sub', nI_div', qRem_nI, lN_add, lN_mul, lN_sub, lN_div', qRemL_lN, qIn_I, qIx_nI, nI_ltI, nI_leI, nI_eq, nI_eqn, nI_eqn', nI_len, nI_ltn, nI_nle', nI_nlt', lN_eqn, lg_lt, lg_gt, lg_eq, lg_le, lg_ge, lgn_lt, lgn_gt, lgn_eq, lgn_le, lgn_ge, pk_lLT, pk_lLE, pk_lEQ, nI_l, lN_i, qShl_n, nI_and, nI_or, lN_and, lN_or, nI_andn, lN_andn, pI_e, pI_f, pI_c, pL_e, pL_f, pL_c, pI_L, pL_I, qB_1, qZb_n, true_and, and_true, forall_const, not_true_eq_false, not_false_eq_true, Nat.reduceLT, Nat.reduceLeDiff, Nat.reduceEqDiff, Nat.reduceAdd, Nat.reduceMul, Nat.reduceSub, Nat.reduceMod, Nat.reduceDiv, false_implies, implies_true]
  refine ⟨by omega, by omega, hy _ g ?_ (fr_I (fr_pI (by decide)) (by decide))⟩
  refine hX.upd (A := fun c => c = 73) (fr_I (fr_pI rfl) rfl) (fun c _ => by omega) ?_ (nChg_ok o hx hy') rfl
  unfold nChg
  (refine rR.mk ?_ ?_ ?_ ?_ ?_ ?_ ?_ ?_ ?_ ?_ ?_ ?_ ?_ ?_ ?_ ?_ ?_ ?_ ?_ ?_ ?_ ?_ ?_); (all_goals (try simp (disch := omega) only [li, ll, nI_add, nI_mul', nI_sub', nI_div', qRem_nI, lN_add, lN_mul, lN_sub, lN_div', qRemL_lN, qIn_I, qIx_nI, nI_ltI, nI_leI, nI_eq, nI_eqn, nI_eqn', nI_len, nI_ltn, nI_nle', nI_nlt', lN_eqn, lg_lt, lg_gt, lg_eq, lg_le, lg_ge, lgn_lt, lgn_gt, lgn_eq, lgn_le, lgn_ge, pk_lLT, pk_lLE, pk_lEQ, nI_l, lN_i, qShl_n, nI_and, nI_or, lN_and, lN_or, nI_andn, lN_andn, pI_e, pI_f, pI_c, pL_e, pL_f, pL_c, pI_L, pL_I, qB_1, qZb_n, true_and, and_true, forall_const, not_true_eq_false, not_false_eq_true, Nat.reduceLT, Nat.reduceLeDiff, Nat.reduceEqDiff, Nat.reduceAdd, Nat.reduceMul, Nat.reduceSub, Nat.reduceMod, Nat.reduceDiv, false_implies, implies_true, sP_e, sP_f, sP_c])); (all_goals try (first | done | (first | done | exact r.ppl | exact r.day | exact r.clk | exact r.txs | exact r.rul | exact r.tks | exact r.gvs | exact r.nds | exact r.hds | exact r.num | exact r.fst | exact r.nr | exact r.nr0 | exact r.gv | exact r.ndA | exact r.ndB | exact r.nda | exact r.ndh | exact r.hrd | exact r.hri | exact r.tkh | exact r.tkA | exact r.tkB) | (intro i hi; (try simp (disch := omega) only [li, ll, nI_add, nI_mul', nI_sub', nI_div', qRem_nI, lN_add, lN_mul, lN_sub, lN_div', qRemL_lN, qIn_I, qIx_nI, nI_ltI, nI_leI, nI_eq, nI_eqn, nI_eqn', nI_len, nI_ltn, nI_nle', nI_nlt', lN_eqn, lg_lt, lg_gt, lg_eq, lg_le, lg_ge, lgn_lt, lgn_gt, lgn_eq, lgn_le, lgn_ge, pk_lLT, pk_lLE, pk_lEQ, nI_l, lN_i, qShl_n, nI_and, nI_or, lN_and, lN_or, nI_andn, lN_andn, pI_e, pI_f, pI_c, pL_e, pL_f, pL_c, pI_L, pL_I, qB_1, qZb_n, true_and, and_true, forall_const, not_true_eq_false, not_false_eq_true, Nat.reduceLT, Nat.reduceLeDiff, Nat.reduceEqDiff, Nat.reduceAdd, Nat.reduceMul, Nat.reduceSub, Nat.reduceMod, Nat.reduceDiv, false_implies, implies_true, sP_e, sP_f, sP_c]); first | exact r.num i hi | exact r.fst i hi | exact r.nr i hi | exact r.gv i hi | exact r.ndA i hi | exact r.ndB i hi | exact r.nda i hi | exact r.ndh i hi | exact r.hrd i hi | exact r.hri i hi | exact r.tkh i hi | exact r.tkA i hi | exact r.tkB i hi) | (intro i hi hj; (try simp (disch := omega) only [li, ll, nI_add, nI_mul', nI_sub', nI_div', qRem_nI, lN_add, lN_mul, lN_sub, lN_div', qRemL_lN, qIn_I, qIx_nI, nI_ltI, nI_leI, nI_eq, nI_eqn, nI_eqn', nI_len, nI_ltn, nI_nle', nI_nlt', lN_eqn, lg_lt, lg_gt, lg_eq, lg_le, lg_ge, lgn_lt, lgn_gt, lgn_eq, lgn_le, lgn_ge, pk_lLT, pk_lLE, pk_lEQ, nI_l, lN_i, qShl_n, nI_and, nI_or, lN_and, lN_or, nI_andn, lN_andn, pI_e, pI_f, pI_c, pL_e, pL_f, pL_c, pI_L, pL_I, qB_1, qZb_n, true_and, and_true, forall_const, not_true_eq_false, not_false_eq_true, Nat.reduceLT, Nat.reduceLeDiff, Nat.reduceEqDiff, Nat.reduceAdd, Nat.reduceMul, Nat.reduceSub, Nat.reduceMod, Nat.reduceDiv, false_implies, implies_true, sP_e, sP_f, sP_c]); exact r.nr0 i hi hj)))
  · intro j hj
    by_cases q : j = i
    · subst q; simp (disch := omega) only [li, ll, nI_add, nI_mul', nI_sub', nI_div', qRem_nI, lN_add, lN_mul, lN_sub, lN_div', qRemL_lN, qIn_I, qIx_nI, nI_ltI, nI_leI, nI_eq, nI_eqn, nI_eqn', nI_len, nI_ltn, nI_nle', nI_nlt', lN_eqn, lg_lt, lg_gt, lg_eq, lg_le, lg_ge, lgn_lt, lgn_gt, lgn_eq, lgn_le, lgn_ge, pk_lLT, pk_lLE, pk_lEQ, nI_l, lN_i, qShl_n, nI_and, nI_or, lN_and, lN_or, nI_andn, lN_andn, pI_e, pI_f, pI_c, pL_e, pL_f, pL_c, pI_L, pL_I, qB_1, qZb_n, true_and, and_true, forall_const, not_true_eq_false, not_false_eq_true, Nat.reduceLT, Nat.reduceLeDiff, Nat.reduceEqDiff, Nat.reduceAdd, Nat.reduceMul, Nat.reduceSub, Nat.reduceMod, Nat.reduceDiv, false_implies, implies_true, sP_e, sP_f, sP_c]
    · simp (disch := omega) only [li, ll, nI_add, nI_mul', nI_sub', nI_div', qRem_nI, lN_add, lN_mul, lN_sub, lN_div', qRemL_lN, qIn_I, qIx_nI, nI_ltI, nI_leI, nI_eq, nI_eqn, nI_eqn', nI_len, nI_ltn, nI_nle', nI_nlt', lN_eqn, lg_lt, lg_gt, lg_eq, lg_le, lg_ge, lgn_lt, lgn_gt, lgn_eq, lgn_le, lgn_ge, pk_lLT, pk_lLE, pk_lEQ, nI_l, lN_i, qShl_n, nI_and, nI_or, lN_and, lN_or, nI_andn, lN_andn, pI_e, pI_f, pI_c, pL_e, pL_f, pL_c, pI_L, pL_I, qB_1, qZb_n, true_and, and_true, forall_const, not_true_eq_false, not_false_eq_true, Nat.reduceLT, Nat.reduceLeDiff, Nat.reduceEqDiff, Nat.reduceAdd, Nat.reduceMul, Nat.reduceSub, Nat.reduceMod, Nat.reduceDiv, false_implies, implies_true, sP_e, sP_f, sP_c]; exact r.num j hj
  · intro j hj
    by_cases q : j = i
    · subst q; simp (disch := omega) only [li, ll, nI_add, nI_mul', nI_sub', nI_div', qRem_nI, lN_add, lN_mul, lN_sub, lN_div', qRemL_lN, qIn_I, qIx_nI, nI_ltI, nI_leI, nI_eq, nI_eqn, nI_eqn', nI_len, nI_ltn, nI_nle', nI_nlt', lN_eqn, lg_lt, lg_gt, lg_eq, lg_le, lg_ge, lgn_lt, lgn_gt, lgn_eq, lgn_le, lgn_ge, pk_lLT, pk_lLE, pk_lEQ, nI_l, lN_i, qShl_n, nI_and, nI_or, lN_and, lN_or, nI_andn, lN_andn, pI_e, pI_f, pI_c, pL_e, pL_f, pL_c, pI_L, pL_I, qB_1, qZb_n, true_and, and_true, forall_const, not_true_eq_false, not_false_eq_true, Nat.reduceLT, Nat.reduceLeDiff, Nat.reduceEqDiff, Nat.reduceAdd, Nat.reduceMul, Nat.reduceSub, Nat.reduceMod, Nat.reduceDiv, false_implies, implies_true, sP_e, sP_f, sP_c]
    · simp (disch := omega) only [li, ll, nI_add, nI_mul', nI_sub', nI_div', qRem_nI, lN_add, lN_mul, lN_sub, lN_div', qRemL_lN, qIn_I, qIx_nI, nI_ltI, nI_leI, nI_eq, nI_eqn, nI_eqn', nI_len, nI_ltn, nI_nle', nI_nlt', lN_eqn, lg_lt, lg_gt, lg_eq, lg_le, lg_ge, lgn_lt, lgn_gt, lgn_eq, lgn_le, lgn_ge, pk_lLT, pk_lLE, pk_lEQ, nI_l, lN_i, qShl_n, nI_and, nI_or, lN_and, lN_or, nI_andn, lN_andn, pI_e, pI_f, pI_c, pL_e, pL_f, pL_c, pI_L, pL_I, qB_1, qZb_n, true_and, and_true, forall_const, not_true_eq_false, not_false_eq_true, Nat.reduceLT, Nat.reduceLeDiff, Nat.reduceEqDiff, Nat.reduceAdd, Nat.reduceMul, Nat.reduceSub, Nat.reduceMod, Nat.reduceDiv, false_implies, implies_true, sP_e, sP_f, sP_c]; exact r.fst j hj
def vClk (h : Int32) : Prop := 1 ≤ h ∧ h ≤ 60
def nClk (N : vS) (h : Int32) : vS := sPut N 2 0 (qIx h)
theorem nClk_ok {h : Int32} (o : okS N) (g : vClk h) : okS (nClk N h) := by
  obtain ⟨n, h1, h2, e, e2⟩ := nI_rng 1 60 g.1 g.2
  unfold nClk
  rw [e2]
  exact okS.mk o.p12 o.day ⟨h1, h2⟩ o.txs o.rul o.tks o.gvs o.nds o.hds o.num o.fst o.nr o.gv o.need o.hrd o.tlk
theorem c_clock {h : Int32} (hd : 7 ≤ d) (hX : rX w N K T Z) (hy : ∀ w', vClk h → rX w' (nClk N h) K T Z → fr (fun c => c < 72) w w' → Q 1 w') (hn : ¬ vClk h → Q 0 w) : qCall (some s) d 30 [.ref 1, .int h] w (qQi Q) := by
  obtain ⟨d, rfl, hd1⟩ := dS hd
  have r := hX.n
  refine A_X_clock ⟨fun g => hn (fun q => absurd g (Int32.not_lt.mpr q.1)), fun g1 => ⟨fun g2 => ?_, fun g => hn (fun q => g q.2)⟩⟩
  have g : vClk h := ⟨Int32.not_lt.mp g1, g2⟩
  have hW : rW (qPutI w 2 5 h) (nClk N h) K T Z := by
    refine hX.wk.upd (A := fun c => c = 2) (fr_pI rfl) (fun c _ _ => by omega) ?_ (nClk_ok hX.okn g) rfl hX.op2
    obtain ⟨n, h1, h2, e, e2⟩ := nI_rng 1 60 g.1 g.2
    unfold nClk
    rw [e2]
    subst e
    (refine rS.mk ?_ ?_ ?_ ?_ ?_ ?_ ?_ ?_ ?_ ?_ ?_ ?_ ?_ ?_ ?_ ?_ ?_ ?_ ?_ ?_); (all_goals (try simp (disch := omega) only [li, ll, nI_add, nI_mul', nI_sub', nI_div', qRem_nI, lN_add, lN_mul, lN_sub, lN_div', qRemL_lN, qIn_I, qIx_nI, nI_ltI, nI_leI, nI_eq, nI_eqn, nI_eqn', nI_len, nI_ltn, nI_nle', nI_nlt', lN_eqn, lg_lt, lg_gt, lg_eq, lg_le, lg_ge, lgn_lt, lgn_gt, lgn_eq, lgn_le, lgn_ge, pk_lLT, pk_lLE, pk_lEQ, nI_l, lN_i, qShl_n, nI_and, nI_or, lN_and, lN_or, nI_andn, lN_andn, pI_e, pI_f, pI_c, pL_e, pL_f, pL_c, pI_L, pL_I, qB_1, qZb_n, true_and, and_true, forall_const, not_true_eq_false, not_false_eq_true, Nat.reduceLT, Nat.reduceLeDiff, Nat.reduceEqDiff, Nat.reduceAdd, Nat.reduceMul, Nat.reduceSub, Nat.reduceMod, Nat.reduceDiv, false_implies, implies_true, sP_e, sP_f, sP_c])); (all_goals try (first | done | (first | done | exact r.ppl | exact r.day | exact r.clk | exact r.txs | exact r.rul | exact r.tks | exact r.gvs | exact r.nds | exact r.hds | exact r.hIs | exact r.num | exact r.fst | exact r.nr | exact r.tkh | exact r.tkp | exact r.gv | exact r.ndp | exact r.nda | exact r.ndh | exact r.hrd) | (intro i hi; (try simp (disch := omega) only [li, ll, nI_add, nI_mul', nI_sub', nI_div', qRem_nI, lN_add, lN_mul, lN_sub, lN_div', qRemL_lN, qIn_I, qIx_nI, nI_ltI, nI_leI, nI_eq, nI_eqn, nI_eqn', nI_len, nI_ltn, nI_nle', nI_nlt', lN_eqn, lg_lt, lg_gt, lg_eq, lg_le, lg_ge, lgn_lt, lgn_gt, lgn_eq, lgn_le, lgn_ge, pk_lLT, pk_lLE, pk_lEQ, nI_l, lN_i, qShl_n, nI_and, nI_or, lN_and, lN_or, nI_andn, lN_andn, pI_e, pI_f, pI_c, pL_e, pL_f, pL_c, pI_L, pL_I, qB_1, qZb_n, true_and, and_true, forall_const, not_true_eq_false, not_false_eq_true, Nat.reduceLT, Nat.reduceLeDiff, Nat.reduceEqDiff, Nat.reduceAdd, Nat.reduceMul, Nat.reduceSub, Nat.reduceMod, Nat.reduceDiv, false_implies, implies_true, sP_e, sP_f, sP_c]); first | exact r.num i hi | exact r.fst i hi | exact r.nr i hi | exact r.tkh i hi | exact r.tkp i hi | exact r.gv i hi | exact r.ndp i hi | exact r.nda i hi | exact r.ndh i hi | exact r.hrd i hi)))
  obtain ⟨O, hO⟩ := hW.O
  refine c_openForAll hd1 hW.v hO ?_
  intro w2 O2 f2 r2 h2
  exact hy w2 g (hW.x f2 r2 h2) (fr_tr (fr_pI (by decide)) (fr_wk f2 (fun c hc => by omega)))
theorem m_clock {h : Int32} (hd : 2 ≤ d) (hX : rM w N K T Z) (hy : ∀ w', vClk h → rM w' (nClk N h) K T Z → fr (fun c => 72 ≤ c) w w' → Q 1 w') (hn : ¬ vClk h → Q 0 w) : qCall (some s) d 214 [.ref 72, .int h] w (qQi Q) := by
  obtain ⟨d, rfl, hd1⟩ := dS hd
  have r := hX.n
  refine A_Mo_clock (m_isInB hd1 (fun g => n1 ⟨qIn_nI (j := 2) (by decide) (by decide), ?_⟩) (fun g => n0 (hn g)))
  refine hy _ g ?_ (fr_pI (by decide))
  refine hX.upd (A := fun c => c = 73) (fr_pI rfl) (fun c _ => by omega) ?_ (nClk_ok hX.okn g) rfl
  obtain ⟨n, h1, h2, e, e2⟩ := nI_rng 1 60 g.1 g.2
  unfold nClk
  rw [e2]
  subst e
  (refine rR.mk ?_ ?_ ?_ ?_ ?_ ?_ ?_ ?_ ?_ ?_ ?_ ?_ ?_ ?_ ?_ ?_ ?_ ?_ ?_ ?_ ?_ ?_ ?_); (all_goals (try simp (disch := omega) only [li, ll, nI_add, nI_mul', nI_sub', nI_div', qRem_nI, lN_add, lN_mul, lN_sub, lN_div', qRemL_lN, qIn_I, qIx_nI, nI_ltI, nI_leI, nI_eq, nI_eqn, nI_eqn', nI_len, nI_ltn, nI_nle', nI_nlt', lN_eqn, lg_lt, lg_gt, lg_eq, lg_le, lg_ge, lgn_lt, lgn_gt, lgn_eq, lgn_le, lgn_ge, pk_lLT, pk_lLE, pk_lEQ, nI_l, lN_i, qShl_n, nI_and, nI_or, lN_and, lN_or, nI_andn, lN_andn, pI_e, pI_f, pI_c, pL_e, pL_f, pL_c, pI_L, pL_I, qB_1, qZb_n, true_and, and_true, forall_const, not_true_eq_false, not_false_eq_true, Nat.reduceLT, Nat.reduceLeDiff, Nat.reduceEqDiff, Nat.reduceAdd, Nat.reduceMul, Nat.reduceSub, Nat.reduceMod, Nat.reduceDiv, false_implies, implies_true, sP_e, sP_f, sP_c])); (all_goals try (first | done | (first | done | exact r.ppl | exact r.day | exact r.clk | exact r.txs | exact r.rul | exact r.tks | exact r.gvs | exact r.nds | exact r.hds | exact r.num | exact r.fst | exact r.nr | exact r.nr0 | exact r.gv | exact r.ndA | exact r.ndB | exact r.nda | exact r.ndh | exact r.hrd | exact r.hri | exact r.tkh | exact r.tkA | exact r.tkB) | (intro i hi; (try simp (disch := omega) only [li, ll, nI_add, nI_mul', nI_sub', nI_div', qRem_nI, lN_add, lN_mul, lN_sub, lN_div', qRemL_lN, qIn_I, qIx_nI, nI_ltI, nI_leI, nI_eq, nI_eqn, nI_eqn', nI_len, nI_ltn, nI_nle', nI_nlt', lN_eqn, lg_lt, lg_gt, lg_eq, lg_le, lg_ge, lgn_lt, lgn_gt, lgn_eq, lgn_le, lgn_ge, pk_lLT, pk_lLE, pk_lEQ, nI_l, lN_i, qShl_n, nI_and, nI_or, lN_and, lN_or, nI_andn, lN_andn, pI_e, pI_f, pI_c, pL_e, pL_f, pL_c, pI_L, pL_I, qB_1, qZb_n, true_and, and_true, forall_const, not_true_eq_false, not_false_eq_true, Nat.reduceLT, Nat.reduceLeDiff, Nat.reduceEqDiff, Nat.reduceAdd, Nat.reduceMul, Nat.reduceSub, Nat.reduceMod, Nat.reduceDiv, false_implies, implies_true, sP_e, sP_f, sP_c]); first | exact r.num i hi | exact r.fst i hi | exact r.nr i hi | exact r.gv i hi | exact r.ndA i hi | exact r.ndB i hi | exact r.nda i hi | exact r.ndh i hi | exact r.hrd i hi | exact r.hri i hi | exact r.tkh i hi | exact r.tkA i hi | exact r.tkB i hi) | (intro i hi hj; (try simp (disch := omega) only [li, ll, nI_add, nI_mul', nI_sub', nI_div', qRem_nI, lN_add, lN_mul, lN_sub, lN_div', qRemL_lN, qIn_I, qIx_nI, nI_ltI, nI_leI, nI_eq, nI_eqn, nI_eqn', nI_len, nI_ltn, nI_nle', nI_nlt', lN_eqn, lg_lt, lg_gt, lg_eq, lg_le, lg_ge, lgn_lt, lgn_gt, lgn_eq, lgn_le, lgn_ge, pk_lLT, pk_lLE, pk_lEQ, nI_l, lN_i, qShl_n, nI_and, nI_or, lN_and, lN_or, nI_andn, lN_andn, pI_e, pI_f, pI_c, pL_e, pL_f, pL_c, pI_L, pL_I, qB_1, qZb_n, true_and, and_true, forall_const, not_true_eq_false, not_false_eq_true, Nat.reduceLT, Nat.reduceLeDiff, Nat.reduceEqDiff, Nat.reduceAdd, Nat.reduceMul, Nat.reduceSub, Nat.reduceMod, Nat.reduceDiv, false_implies, implies_true, sP_e, sP_f, sP_c]); exact r.nr0 i hi hj)))
def vBy (N : vS) (t : Int32) : Prop := -1 ≤ t ∧ t < nI (N 3 0)
def nBy (N : vS) (t : Int32) : vS := sPut N 4 0 (t.toInt + 1).toNat
theorem vBy_x {t : Int32} (o : okS N) (g : vBy N t) : ∃ n, (t.toInt + 1).toNat = n ∧ n ≤ N 3 0 ∧ t = nI n + -(nI 1) := by
  have o3 := o.txs
  have h1 := Int32.le_iff_toInt_le.mp g.1
  have h2 := Int32.lt_iff_toInt_lt.mp g.2
  rw [nI_toInt (by omega)] at h2
  have e1 : (-1 : Int32).toInt = -1 := by decide
  rw [e1] at h1
  refine ⟨(t.toInt + 1).toNat, rfl, by omega, ?_⟩
  apply Int32.toInt_inj.mp
  rw [Int32.toInt_add, nI_toInt (by omega)]
  have e2 : (-(nI 1)).toInt = -1 := by decide
  rw [e2, Int.bmod_eq_of_le (by omega) (by omega)]
  omega
theorem nBy_ok {t : Int32} (o : okS N) (g : vBy N t) : okS (nBy N t) := by
  obtain ⟨n, e, h1, e2⟩ := vBy_x o g
  unfold nBy
  rw [e]
  exact okS.mk o.p12 o.day o.clk o.txs h1 o.tks o.gvs o.nds o.hds o.num o.fst o.nr o.gv o.need o.hrd o.tlk
theorem c_by {t : Int32} (hd : 7 ≤ d) (hX : rX w N K T Z) (hy : ∀ w', vBy N t → rX w' (nBy N t) K T Z → fr (fun c => c < 72) w w' → Q 1 w') (hn : ¬ vBy N t → Q 0 w) : qCall (some s) d 90 [.ref 1, .int t] w (qQi Q) := by
  obtain ⟨d, rfl, hd1⟩ := dS hd
  have r := hX.n
  refine A_X_by ⟨fun g => hn (fun q => absurd g (Int32.not_lt.mpr q.1)), fun g1 => ?_⟩
  rw [r.txs]
  refine ⟨fun g2 => ?_, fun g => hn (fun q => g q.2)⟩
  have g : vBy N t := ⟨Int32.not_lt.mp g1, g2⟩
  have hW : rW (qPutI w 2 7 t) (nBy N t) K T Z := by
    refine hX.wk.upd (A := fun c => c = 2) (fr_pI rfl) (fun c _ _ => by omega) ?_ (nBy_ok hX.okn g) rfl hX.op2
    obtain ⟨n, e, h1, e2⟩ := vBy_x hX.okn g
    unfold nBy
    rw [e, e2]
    (refine rS.mk ?_ ?_ ?_ ?_ ?_ ?_ ?_ ?_ ?_ ?_ ?_ ?_ ?_ ?_ ?_ ?_ ?_ ?_ ?_ ?_); (all_goals (try simp (disch := omega) only [li, ll, nI_add, nI_mul', nI_sub', nI_div', qRem_nI, lN_add, lN_mul, lN_sub, lN_div', qRemL_lN, qIn_I, qIx_nI, nI_ltI, nI_leI, nI_eq, nI_eqn, nI_eqn', nI_len, nI_ltn, nI_nle', nI_nlt', lN_eqn, lg_lt, lg_gt, lg_eq, lg_le, lg_ge, lgn_lt, lgn_gt, lgn_eq, lgn_le, lgn_ge, pk_lLT, pk_lLE, pk_lEQ, nI_l, lN_i, qShl_n, nI_and, nI_or, lN_and, lN_or, nI_andn, lN_andn, pI_e, pI_f, pI_c, pL_e, pL_f, pL_c, pI_L, pL_I, qB_1, qZb_n, true_and, and_true, forall_const, not_true_eq_false, not_false_eq_true, Nat.reduceLT, Nat.reduceLeDiff, Nat.reduceEqDiff, Nat.reduceAdd, Nat.reduceMul, Nat.reduceSub, Nat.reduceMod, Nat.reduceDiv, false_implies, implies_true, sP_e, sP_f, sP_c])); (all_goals try (first | done | (first | done | exact r.ppl | exact r.day | exact r.clk | exact r.txs | exact r.rul | exact r.tks | exact r.gvs | exact r.nds | exact r.hds | exact r.hIs | exact r.num | exact r.fst | exact r.nr | exact r.tkh | exact r.tkp | exact r.gv | exact r.ndp | exact r.nda | exact r.ndh | exact r.hrd) | (intro i hi; (try simp (disch := omega) only [li, ll, nI_add, nI_mul', nI_sub', nI_div', qRem_nI, lN_add, lN_mul, lN_sub, lN_div', qRemL_lN, qIn_I, qIx_nI, nI_ltI, nI_leI, nI_eq, nI_eqn, nI_eqn', nI_len, nI_ltn, nI_nle', nI_nlt', lN_eqn, lg_lt, lg_gt, lg_eq, lg_le, lg_ge, lgn_lt, lgn_gt, lgn_eq, lgn_le, lgn_ge, pk_lLT, pk_lLE, pk_lEQ, nI_l, lN_i, qShl_n, nI_and, nI_or, lN_and, lN_or, nI_andn, lN_andn, pI_e, pI_f, pI_c, pL_e, pL_f, pL_c, pI_L, pL_I, qB_1, qZb_n, true_and, and_true, forall_const, not_true_eq_false, not_false_eq_true, Nat.reduceLT, Nat.reduceLeDiff, Nat.reduceEqDiff, Nat.reduceAdd, Nat.reduceMul, Nat.reduceSub, Nat.reduceMod, Nat.reduceDiv, false_implies, implies_true, sP_e, sP_f, sP_c]); first | exact r.num i hi | exact r.fst i hi | exact r.nr i hi | exact r.tkh i hi | exact r.tkp i hi | exact r.gv i hi | exact r.ndp i hi | exact r.nda i hi | exact r.ndh i hi | exact r.hrd i hi)))
  obtain ⟨O, hO⟩ := hW.O
  refine c_openForAll hd1 hW.v hO ?_
  intro w2 O2 f2 r2 h2
  exact hy w2 g (hW.x f2 r2 h2) (fr_tr (fr_pI (by decide)) (fr_wk f2 (fun c hc => by omega)))
theorem le_pred {n : Nat} (hn : n < 100) {t : Int32} : t ≤ nI n - nI 1 ↔ t < nI n := by
  have e : (nI n - nI 1).toInt = (n : Int) - 1 := by
    rw [Int32.toInt_sub, nI_toInt (by omega), nI_toInt (by decide), Int.bmod_eq_of_le (by omega) (by omega)]
    rfl
  rw [Int32.le_iff_toInt_le, Int32.lt_iff_toInt_lt, e, nI_toInt (by omega)]
  omega
theorem m_by {t : Int32} (hd : 2 ≤ d) (hX : rM w N K T Z) (hy : ∀ w', vBy N t → rM w' (nBy N t) K T Z → fr (fun c => 72 ≤ c) w w' → Q 1 w') (hn : ¬ vBy N t → Q 0 w) : qCall (some s) d 249 [.ref 72, .int t] w (qQi Q) := by
  obtain ⟨d, rfl, hd1⟩ := dS hd
  have r := hX.n
  have o3 := hX.okn.txs
  have key : (-1 ≤ t ∧ t ≤ nI (N 3 0) - 1) ↔ vBy N t := by
    unfold vBy
    rw [show (nI (N 3 0) - 1 : Int32) = nI (N 3 0) - nI 1 from rfl, le_pred (by omega)]
  refine A_Mo_by ⟨qIn_nI (j := 3) (by decide) (by decide), ?_⟩
  rw [show qIx (3 : Int32) = 3 from rfl, r.txs]
  refine m_isInB hd1 (fun g => n1 ⟨qIn_nI (j := 4) (by decide) (by decide), ?_⟩) (fun g => n0 (hn (fun q => g (key.mpr q))))
  have g := key.mp g
  refine hy _ g ?_ (fr_pI (by decide))
  refine hX.upd (A := fun c => c = 73) (fr_pI rfl) (fun c _ => by omega) ?_ (nBy_ok hX.okn g) rfl
  obtain ⟨n, e, h1, e2⟩ := vBy_x hX.okn g
  unfold nBy
  rw [e, e2]
  (refine rR.mk ?_ ?_ ?_ ?_ ?_ ?_ ?_ ?_ ?_ ?_ ?_ ?_ ?_ ?_ ?_ ?_ ?_ ?_ ?_ ?_ ?_ ?_ ?_); (all_goals (try simp (disch := omega) only [li, ll, nI_add, nI_mul', nI_sub', nI_div', qRem_nI, lN_add, lN_mul, lN_sub, lN_div', qRemL_lN, qIn_I, qIx_nI, nI_ltI, nI_leI, nI_eq, nI_eqn, nI_eqn', nI_len, nI_ltn, nI_nle', nI_nlt', lN_eqn, lg_lt, lg_gt, lg_eq, lg_le, lg_ge, lgn_lt, lgn_gt, lgn_eq, lgn_le, lgn_ge, pk_lLT, pk_lLE, pk_lEQ, nI_l, lN_i, qShl_n, nI_and, nI_or, lN_and, lN_or, nI_andn, lN_andn, pI_e, pI_f, pI_c, pL_e, pL_f, pL_c, pI_L, pL_I, qB_1, qZb_n, true_and, and_true, forall_const, not_true_eq_false, not_false_eq_true, Nat.reduceLT, Nat.reduceLeDiff, Nat.reduceEqDiff, Nat.reduceAdd, Nat.reduceMul, Nat.reduceSub, Nat.reduceMod, Nat.reduceDiv, false_implies, implies_true, sP_e, sP_f, sP_c])); (all_goals try (first | done | (first | done | exact r.ppl | exact r.day | exact r.clk | exact r.txs | exact r.rul | exact r.tks | exact r.gvs | exact r.nds | exact r.hds | exact r.num | exact r.fst | exact r.nr | exact r.nr0 | exact r.gv | exact r.ndA | exact r.ndB | exact r.nda | exact r.ndh | exact r.hrd | exact r.hri | exact r.tkh | exact r.tkA | exact r.tkB) | (intro i hi; (try simp (disch := omega) only [li, ll, nI_add, nI_mul', nI_sub', nI_div', qRem_nI, lN_add, lN_mul, lN_sub, lN_div', qRemL_lN, qIn_I, qIx_nI, nI_ltI, nI_leI, nI_eq, nI_eqn, nI_eqn', nI_len, nI_ltn, nI_nle', nI_nlt', lN_eqn, lg_lt, lg_gt, lg_eq, lg_le, lg_ge, lgn_lt, lgn_gt, lgn_eq, lgn_le, lgn_ge, pk_lLT, pk_lLE, pk_lEQ, nI_l, lN_i, qShl_n, nI_and, nI_or, lN_and, lN_or, nI_andn, lN_andn, pI_e, pI_f, pI_c, pL_e, pL_f, pL_c, pI_L, pL_I, qB_1, qZb_n, true_and, and_true, forall_const, not_true_eq_false, not_false_eq_true, Nat.reduceLT, Nat.reduceLeDiff, Nat.reduceEqDiff, Nat.reduceAdd, Nat.reduceMul, Nat.reduceSub, Nat.reduceMod, Nat.reduceDiv, false_implies, implies_true, sP_e, sP_f, sP_c]); first | exact r.num i hi | exact r.fst i hi | exact r.nr i hi | exact r.gv i hi | exact r.ndA i hi | exact r.ndB i hi | exact r.nda i hi | exact r.ndh i hi | exact r.hrd i hi | exact r.hri i hi | exact r.tkh i hi | exact r.tkA i hi | exact r.tkB i hi) | (intro i hi hj; (try simp (disch := omega) only [li, ll, nI_add, nI_mul', nI_sub', nI_div', qRem_nI, lN_add, lN_mul, lN_sub, lN_div', qRemL_lN, qIn_I, qIx_nI, nI_ltI, nI_leI, nI_eq, nI_eqn, nI_eqn', nI_len, nI_ltn, nI_nle', nI_nlt', lN_eqn, lg_lt, lg_gt, lg_eq, lg_le, lg_ge, lgn_lt, lgn_gt, lgn_eq, lgn_le, lgn_ge, pk_lLT, pk_lLE, pk_lEQ, nI_l, lN_i, qShl_n, nI_and, nI_or, lN_and, lN_or, nI_andn, lN_andn, pI_e, pI_f, pI_c, pL_e, pL_f, pL_c, pI_L, pL_I, qB_1, qZb_n, true_and, and_true, forall_const, not_true_eq_false, not_false_eq_true, Nat.reduceLT, Nat.reduceLeDiff, Nat.reduceEqDiff, Nat.reduceAdd, Nat.reduceMul, Nat.reduceSub, Nat.reduceMod, Nat.reduceDiv, false_implies, implies_true, sP_e, sP_f, sP_c]); exact r.nr0 i hi hj)))
theorem c_back (hd : 7 ≤ d) (hX : rX w N K T Z) (h : ∀ w', rX w' K K T Z → fr (fun c => c < 72) w w' → Q (nI (K 0 0)) w') : qCall (some s) d 202 [.ref 1] w (qQi Q) := by
  obtain ⟨d, rfl, hd1⟩ := dS hd
  refine A_X_back (c_takeOut (by omega) hX.k hX.okk fun w' h2 hf => ?_)
  have e : ∀ c, ¬ (2 ≤ c ∧ c ≤ 12) → w'.1 c = w.1 c ∧ w'.2.1 c = w.2.1 c := fun c hc => hf c hc
  have o3 := hX.okn.txs
  have kt := hX.kt
  have hW : rW w' K K T Z := by
    refine rW.mk h2 (rS_fr hX.k fun k hk => e _ (by omega)) hX.okk hX.okk (Nat.le_refl _) (fun i hi => rT_fr (hX.t i (by omega)) fun k hk => (e _ (by omega)).1) (fun i hi => hX.okt i (by omega)) ?_ hX.l300 ?_ hX.byt ?_ ?_ ?_
    · rw [(e 25 (by omega)).1]; exact hX.len
    · rw [(e 26 (by omega)).1]; exact hX.tape
    · rw [(e 25 (by omega)).1]; exact hX.flt
    · rw [(e 25 (by omega)).1]; exact hX.plc
    · rw [(e 51 (by omega)).1]; exact hX.op2
  obtain ⟨O, hO⟩ := hW.O
  refine c_openForAll hd1 hW.v hO ?_
  intro w2 O2 f2 r2 h3
  have hX2 := hW.x f2 r2 h3
  rw [hX2.n.ppl]
  exact h w2 hX2 (fr_tr (fr_wk hf (fun c hc => by omega)) (fr_wk f2 (fun c hc => by omega)))
end People
