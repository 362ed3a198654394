/-! next and together of the reference, without a day. -/
section Ref0
variable {s : Nat × (Nat → Int32)} {d : Nat} {w : qW} {Q : Int32 → qW → Prop} {QL : Int64 → qW → Prop} {R : qW → Prop} {N S K : vS} {T : Nat → vT} {Z : vZ}
/-- what a question of the reference needs -/
def rQ (w : qW) (N : vS) (K : vS) (T : Nat → vT) (Z : vZ) (S : vS) : Prop := (rM w N K T Z) ∧ (alike S N) ∧ (okS S) ∧ (tkA w T S)
theorem rQ.x {w : qW} {N : vS} {K : vS} {T : Nat → vT} {Z : vZ} {S : vS} (h : rQ w N K T Z S) : rM w N K T Z := h.1
theorem rQ.al {w : qW} {N : vS} {K : vS} {T : Nat → vT} {Z : vZ} {S : vS} (h : rQ w N K T Z S) : alike S N := h.2.1
theorem rQ.ok {w : qW} {N : vS} {K : vS} {T : Nat → vT} {Z : vZ} {S : vS} (h : rQ w N K T Z S) : okS S := h.2.2.1
theorem rQ.tk {w : qW} {N : vS} {K : vS} {T : Nat → vT} {Z : vZ} {S : vS} (h : rQ w N K T Z S) : tkA w T S := h.2.2.2
theorem rQ.mk {w : qW} {N : vS} {K : vS} {T : Nat → vT} {Z : vZ} {S : vS} (f_x : rM w N K T Z) (f_al : alike S N) (f_ok : okS S) (f_tk : tkA w T S) : rQ w N K T Z S := ⟨f_x, f_al, f_ok, f_tk⟩
theorem rQ.frM {w w' : qW} (h : rQ w N K T Z S) (f : frM w w') : rQ w' N K T Z S := rQ.mk (h.x.frM f) h.al h.ok (h.tk.frM f)
theorem rQ.ppl (h : rQ w N K T Z S) : w.1 73 0 = nI (S 0 0) := by rw [h.x.n.ppl, h.al.1]
theorem rQ.day (h : rQ w N K T Z S) : w.1 73 1 = nI (S 1 0) := by rw [h.x.n.day, h.al.2.1]
theorem rQ.clk (h : rQ w N K T Z S) : w.1 73 2 = nI (S 2 0) := by rw [h.x.n.clk, h.al.2.2.1]
theorem rQ.keep {w w' : qW} {A : Nat → Prop} (h : rQ w N K T Z S) (hf : fr A w w') (hA : ∀ c, 72 ≤ c → c ≤ 86 → ¬ A c) : rQ w' N K T Z S := rQ.mk (h.x.keep hf (fun c h1 h2 => hA c h1 (by omega))) h.al h.ok (tkA_fr h.tk hf (fun c hc => hA c (by unfold takeA barA at hc; omega) (by unfold takeA barA at hc; omega)))
theorem m_isOpen {set c : Nat} (hd : 2 ≤ d) (hR : rQ w N K T Z S) (hs : set < 4096) (hc : c < S 2 0) (hQ : Q (tI (opB T S set c && rcB S set (S 0 0) c)) w) : qCall (some s) d 273 [.ref 72, .int (nI set), .int (nI c)] w (qQi Q) := by
  obtain ⟨d, rfl, hd1⟩ := dS hd
  have o := hR.ok
  have o0 := o.p12
  have oc := o.clk
  refine A_Mo_isOpen ?_
  refine lpN (i := 0) (n := S 0 0) (P := fun i => (∀ p, p < i → set.testBit p = true → brd T S p c = false ∧ ((Nat.gcd (S 10 p) (S 2 0) : Nat) : Int) ∣ (c : Int) - (S 11 p : Int)) → qAt s d c_Mo_isOpen (qQi Q) 2 [some (.ref 72), some (.int (nI set)), some (.int (nI c)), some (.int (nI i))] [] w) ?_ ?_ (Nat.zero_le _) (fun p hp => absurd hp (Nat.not_lt_zero _))
  · intro h
    have e1 : opB T S set c = true := opB_t.mpr (fun p hp hb => (h p hp hb).1)
    have e2 : rcB S set (S 0 0) c = true := by
      unfold rcB
      rw [List.all_eq_true]
      intro p hp
      cases hb : set.testBit p with
      | false => rfl
      | true => rw [decide_eq_true (h p (List.mem_range.mp hp) hb).2]; rfl
    rw [e1, e2] at hQ
    refine A_Mo_isOpen_2 ?_
    simp (disch := omega) only [li, ll, nI_add, nI_mul', nI_sub', nI_div', qRem_nI, lN_add, lN_mul, lN_sub, lN_div', qRemL_lN, qIn_I, qIx_nI, nI_ltI, nI_leI, nI_eq, nI_eqn, nI_eqn', nI_len, nI_ltn, nI_nle', nI_nlt', lN_eqn, lg_lt, lg_gt, lg_eq, lg_le, lg_ge, lgn_lt, lgn_gt, lgn_eq, lgn_le, lgn_ge, pk_lLT, pk_lLE, pk_lEQ, nI_l, lN_i, qShl_n, nI_and, nI_or, lN_and, lN_or, nI_andn, lN_andn, pI_e, pI_f, pI_c, pL_e, pL_f, pL_c, pI_L, pL_I, qB_1, qZb_n, true_and, and_true, forall_const, not_true_eq_false, not_false_eq_true, Nat.reduceLT, Nat.reduceLeDiff, Nat.reduceEqDiff, Nat.reduceAdd, Nat.reduceMul, Nat.reduceSub, Nat.reduceMod, Nat.reduceDiv, false_implies, implies_true, hR.ppl]
    exact ⟨fun _ => hQ, fun g => absurd (Nat.le_refl _) g⟩
  · intro i hi ih h
    have on := o.num i hi
    have of := o.fst i hi
    have k := hR.tk i hi
    have gb : 1 ≤ Nat.gcd (S 10 i) (S 2 0) ∧ Nat.gcd (S 10 i) (S 2 0) ≤ 60 := ⟨Nat.gcd_pos_of_pos_left _ on.1, Nat.le_trans (Nat.gcd_le_right _ oc.1) oc.2⟩
    have no : set.testBit i = true → (brd T S i c = true ∨ ¬ ((Nat.gcd (S 10 i) (S 2 0) : Nat) : Int) ∣ (c : Int) - (S 11 i : Int)) → Q 0 w := by
      intro hb hq
      have : (opB T S set c && rcB S set (S 0 0) c) = false := by
        rcases hq with hq | hq
        · have : opB T S set c = false := by
            cases h2 : opB T S set c with
            | false => rfl
            | true => have := opB_t.mp h2 i hi hb; rw [hq] at this; cases this
          rw [this]; rfl
        · have : rcB S set (S 0 0) c = false := by
            unfold rcB
            rw [List.all_eq_false]
            exact ⟨i, List.mem_range.mpr hi, by rw [hb, decide_eq_false hq]; decide⟩
          rw [this, Bool.and_false]
      rw [this] at hQ
      exact hQ
    refine A_Mo_isOpen_2 ?_
    have ep : w.1 73 0 = nI (S 0 0) := hR.ppl
    have ec : w.1 73 2 = nI (S 2 0) := hR.clk
    rw [qIx_0, ep, nI_leI (by omega) (by omega), nI_1, qIx_nI (by omega), show (60 : Int32) = nI 60 from rfl, nI_mul', nI_add, qIx_nI (by omega)]
    refine ⟨qIn_0 (by decide) (by decide), fun g => absurd g (by omega), fun _ => m_has (by omega) (by omega) (by omega) (fun g1 => b1 ⟨qIn_nI (by omega) (by decide), ?_⟩) (fun g1 => b0 (ih ?_))⟩
    · rw [k.cls c hc]
      refine tI_n (fun g2 => no g1 (Or.inl g2)) (fun g2 => ⟨qIn_nI (by omega) (by decide), qIn_nI (by omega) (by decide), qIn_nI (j := 2) (by decide) (by decide), ?_⟩)
      rw [show qIx (2 : Int32) = 2 from rfl, ec, k.num, nI_l (by omega), nI_l (by omega)]
      refine m_common (by omega) (by omega) (by omega) ?_
      rw [k.fst, rem0 (by omega) (by omega) gb.1 (by omega), eqL0 (by omega)]
      have neg : ((Nat.gcd (S 10 i) (S 2 0) : Nat) : Int) ∣ (S 11 i : Int) - (c : Int) ↔ ((Nat.gcd (S 10 i) (S 2 0) : Nat) : Int) ∣ (c : Int) - (S 11 i : Int) := by
        have e : (c : Int) - (S 11 i : Int) = -((S 11 i : Int) - (c : Int)) := by omega
        rw [e, Int.dvd_neg]
      rw [neg]
      refine ⟨by omega, fun g3 => ih (fun p hp hb => ?_), fun g3 => no g1 (Or.inr g3)⟩
      by_cases e : p = i
      · subst e; exact ⟨g2, g3⟩
      · exact h p (by omega) hb
    · intro p hp hb
      by_cases e : p = i
      · subst e; rw [g1] at hb; cases hb
      · exact h p (by omega) hb
theorem m_findHours {set c : Nat} (hd : 3 ≤ d) (hR : rQ w N K T Z S) (hs : set < 4096) (hc : c < S 2 0) (hp : paF S set = none) (hr : rcB S set (S 0 0) c = true) (hQ : ∀ w' b, frM w w' → ((b = 0 ∧ ∀ x, x ≤ tLast → ¬ slv ([(c, S 2 0)] ++ memK S set (S 0 0)) x) ∨ (b = 1 ∧ ∃ st sp, mst w' st sp ∧ jv ([(c, S 2 0)] ++ memK S set (S 0 0)) st sp)) → Q b w') : qCall (some s) d 274 [.ref 72, .int (nI set), .int (nI c)] w (qQi Q) := by
  obtain ⟨d, rfl, hd1⟩ := dS hd
  have o := hR.ok
  have o0 := o.p12
  have oc := o.clk
  have hL := tL
  refine A_Mo_findHours ⟨qIn_nI (j := 2) (by decide) (by decide), ?_⟩
  rw [show qIx (2 : Int32) = 2 from rfl, hR.clk, nI_l (by omega), nI_l (by omega)]
  refine lpU (i := 0) (n := S 0 0) (I := fun i w2 => frM w w2 ∧ ∃ st sp, mst w2 st sp ∧ jv ([(c, S 2 0)] ++ memK S set i) st sp) (P := fun i w2 => qAt s d c_Mo_findHours (qQi Q) 19 [some (.ref 72), some (.int (nI set)), none, some (.int (nI i))] [] w2) ?_ ?_ (Nat.zero_le _) ?_
  · intro w2 ⟨f, st, sp, h1, h2⟩
    refine A_Mo_findHours_19 ?_
    simp (disch := omega) only [li, ll, nI_add, nI_mul', nI_sub', nI_div', qRem_nI, lN_add, lN_mul, lN_sub, lN_div', qRemL_lN, qIn_I, qIx_nI, nI_ltI, nI_leI, nI_eq, nI_eqn, nI_eqn', nI_len, nI_ltn, nI_nle', nI_nlt', lN_eqn, lg_lt, lg_gt, lg_eq, lg_le, lg_ge, lgn_lt, lgn_gt, lgn_eq, lgn_le, lgn_ge, pk_lLT, pk_lLE, pk_lEQ, nI_l, lN_i, qShl_n, nI_and, nI_or, lN_and, lN_or, nI_andn, lN_andn, pI_e, pI_f, pI_c, pL_e, pL_f, pL_c, pI_L, pL_I, qB_1, qZb_n, true_and, and_true, forall_const, not_true_eq_false, not_false_eq_true, Nat.reduceLT, Nat.reduceLeDiff, Nat.reduceEqDiff, Nat.reduceAdd, Nat.reduceMul, Nat.reduceSub, Nat.reduceMod, Nat.reduceDiv, false_implies, implies_true, (hR.frM f).ppl]
    exact ⟨fun _ => hQ w2 1 f (Or.inr ⟨rfl, st, sp, h1, h2⟩), fun g => absurd (Nat.le_refl _) g⟩
  · intro i w2 hi ⟨f, st, sp, h1, h2⟩ ih
    have hR2 := hR.frM f
    refine A_Mo_findHours_19 ?_
    simp (disch := omega) only [li, ll, nI_add, nI_mul', nI_sub', nI_div', qRem_nI, lN_add, lN_mul, lN_sub, lN_div', qRemL_lN, qIn_I, qIx_nI, nI_ltI, nI_leI, nI_eq, nI_eqn, nI_eqn', nI_len, nI_ltn, nI_nle', nI_nlt', lN_eqn, lg_lt, lg_gt, lg_eq, lg_le, lg_ge, lgn_lt, lgn_gt, lgn_eq, lgn_le, lgn_ge, pk_lLT, pk_lLE, pk_lEQ, nI_l, lN_i, qShl_n, nI_and, nI_or, lN_and, lN_or, nI_andn, lN_andn, pI_e, pI_f, pI_c, pL_e, pL_f, pL_c, pI_L, pL_I, qB_1, qZb_n, true_and, and_true, forall_const, not_true_eq_false, not_false_eq_true, Nat.reduceLT, Nat.reduceLeDiff, Nat.reduceEqDiff, Nat.reduceAdd, Nat.reduceMul, Nat.reduceSub, Nat.reduceMod, Nat.reduceDiv, false_implies, implies_true, hR2.ppl]
    refine ⟨fun g => absurd g (by omega), fun _ => m_has (by omega) (by omega) (by omega) (fun g1 => b1 ?_) (fun g1 => b0 (ih w2 ⟨f, st, sp, h1, ?_⟩))⟩
    · have em : [(c, S 2 0)] ++ memK S set (i + 1) = ([(c, S 2 0)] ++ memK S set i) ++ [(S 11 i, S 10 i)] := by
        have : memK S set (i + 1) = memK S set i ++ [(S 11 i, S 10 i)] := by show (if set.testBit i then _ else _) = _; rw [if_pos g1]
        rw [this, List.append_assoc]
      refine m_join hd1 h1 h2 hR2.tk o hi ?_ ?_
      · intro q hq
        rcases List.mem_append.mp hq with hq | hq
        · rw [List.mem_singleton.mp hq]
          unfold rcB at hr
          have := List.all_eq_true.mp hr i (List.mem_range.mpr hi)
          rw [g1] at this
          simp at this
          rw [Nat.gcd_comm]
          exact this
        · exact mem_comp o hp hi g1 q hq
      · intro w3 b f3 h4
        rcases h4 with ⟨e, no⟩ | ⟨e, st', sp', h5, h6⟩
        · rw [e]
          refine n0 (hQ w3 0 (frM_tr f f3) (Or.inl ⟨rfl, fun x hx hsl => no x hx ?_⟩))
          rw [← em]
          intro q hq
          refine hsl q ?_
          rcases List.mem_append.mp hq with hq | hq
          · exact List.mem_append.mpr (Or.inl hq)
          · obtain ⟨j, hj, hb, e⟩ := memK_of.mp hq
            exact List.mem_append.mpr (Or.inr (memK_of.mpr ⟨j, by omega, hb, e⟩))
        · rw [e]
          refine n1 (ih w3 ⟨frM_tr f f3, st', sp', h5, ?_⟩)
          rw [em]; exact h6
    · have : memK S set (i + 1) = memK S set i := by show (if set.testBit i then _ else _) = _; rw [if_neg (by rw [g1]; decide)]
      rw [this]; exact h2
  · refine ⟨frM_tr (frM_pL _ _ _) (frM_pL _ _ _), c, S 2 0, ⟨?_, ?_, Or.inl (by omega)⟩, ?_⟩
    · rw [pL_f (by decide), pL_e]
    · rw [pL_e]
    · exact jv_one hc oc.2
theorem m_begin {set h : Nat} (hd : 2 ≤ d) (hR : rQ w N K T Z S) (hs : set < 4096) (hh : h ≤ tLast) (hQ : QL (lN (lsF S set h (S 0 0))) w) : qCall (some s) d 277 [.ref 72, .int (nI set), .long (lN h)] w (qQl QL) := by
  obtain ⟨d, rfl, hd1⟩ := dS hd
  have o := hR.ok
  have o0 := o.p12
  have hL := tL
  have lb : ∀ k, k ≤ S 0 0 → lsF S set h k ≤ tLast := fun k hk => lsF_le.mpr ⟨hh, fun i hi hb => by have := o.fst i (by omega); omega⟩
  refine A_Mo_begin ?_
  refine lpN (i := 0) (n := S 0 0) (P := fun i => qAt s d c_Mo_begin (qQl QL) 6 [some (.ref 72), some (.int (nI set)), none, none, some (.long (lN (lsF S set h i))), none, some (.int (nI i))] [] w) ?_ ?_ (Nat.zero_le _)
  · refine A_Mo_begin_6 ?_
    simp (disch := omega) only [li, ll, nI_add, nI_mul', nI_sub', nI_div', qRem_nI, lN_add, lN_mul, lN_sub, lN_div', qRemL_lN, qIn_I, qIx_nI, nI_ltI, nI_leI, nI_eq, nI_eqn, nI_eqn', nI_len, nI_ltn, nI_nle', nI_nlt', lN_eqn, lg_lt, lg_gt, lg_eq, lg_le, lg_ge, lgn_lt, lgn_gt, lgn_eq, lgn_le, lgn_ge, pk_lLT, pk_lLE, pk_lEQ, nI_l, lN_i, qShl_n, nI_and, nI_or, lN_and, lN_or, nI_andn, lN_andn, pI_e, pI_f, pI_c, pL_e, pL_f, pL_c, pI_L, pL_I, qB_1, qZb_n, true_and, and_true, forall_const, not_true_eq_false, not_false_eq_true, Nat.reduceLT, Nat.reduceLeDiff, Nat.reduceEqDiff, Nat.reduceAdd, Nat.reduceMul, Nat.reduceSub, Nat.reduceMod, Nat.reduceDiv, false_implies, implies_true, hR.ppl]
    exact ⟨fun _ => hQ, fun g => absurd (Nat.le_refl _) g⟩
  · intro i hi ih
    have lbi := lb i (by omega)
    have of := o.fst i hi
    refine A_Mo_begin_6 ?_
    have ep : w.1 73 0 = nI (S 0 0) := hR.ppl
    rw [qIx_0, ep, nI_leI (by omega) (by omega), nI_1, qIx_nI (by omega)]
    refine ⟨qIn_0 (by decide) (by decide), fun g => absurd g (by omega), fun _ => m_has (by omega) (by omega) (by omega) (fun g1 => b1 ⟨qIn_nI (by omega) (by decide), ?_⟩) (fun g1 => b0 ?_)⟩
    · have e : lsF S set h (i + 1) = max (lsF S set h i) (S 11 i) := by show (if set.testBit i then _ else _) = _; rw [if_pos g1]
      rw [e] at ih
      rw [(hR.tk i hi).fst, nI_l (by omega), lg_le, pk_lLE (by omega) (by omega)]
      refine ⟨fun g => ?_, fun g => ⟨qIn_nI (by omega) (by decide), ?_⟩⟩
      · rw [Nat.max_eq_left (by omega)] at ih; exact ih
      · rw [Nat.max_eq_right (by omega)] at ih; exact ih
    · have e : lsF S set h (i + 1) = lsF S set h i := by show (if set.testBit i then _ else _) = _; rw [if_neg (by rw [g1]; decide)]
      rw [e] at ih
      exact ih
theorem m_from {J : jL} {st sp L : Nat} (hd : 1 ≤ d) (hc : mst w st sp) (hj : jv J st sp) (hL2 : L ≤ tLast) (hQ : ∀ y, y ≤ 3 * tLast → (y ≤ tLast → y = apF st sp L) → (tLast < y → tLast < apF st sp L) → QL (lN y) w) : qCall (some s) d 278 [.ref 72, .long (lN L)] w (qQl QL) := by
  obtain ⟨d, rfl, hd1⟩ := dS hd
  obtain ⟨e2, e3, hsp⟩ := hc
  have hL := tL
  have hB := tB
  have hle := hj.le
  have hp := hj.pos
  refine A_Mo_from ?_
  rw [e2, e3, lg_lt, pk_lLT (by omega) (by omega), kB, lg_eq, pk_lEQ (by omega) (by omega), eqL0 (by omega)]
  refine ⟨fun g => ⟨fun g2 => ⟨by omega, ?_⟩, fun g2 => ?_⟩, fun g => hQ st (by omega) (fun _ => ?_) (fun q => by omega)⟩
  · have hs : sp ≤ tLast := by rcases hsp with q | q
                               · exact q
                               · exact absurd q g2
    have hq : (L - st + sp - 1) / sp * sp ≤ L - st + sp - 1 := Nat.div_mul_le_self _ _
    have hq2 : (L - st + sp - 1) / sp ≤ L - st + sp - 1 := Nat.div_le_self _ _
    rw [lN_sub (by omega), lN_add, show (1 : Int64) = lN 1 from rfl, lN_sub (by omega), lN_div' (by omega) (by omega) (by omega), lN_mul, lN_add]
    have e : apF st sp L = st + (L - st + sp - 1) / sp * sp := by unfold apF; rw [if_pos g]
    exact hQ _ (by omega) (fun _ => e.symm) (fun q => by omega)
  · refine hQ (tLast + 1) (by omega) (fun q => by omega) (fun _ => ?_)
    unfold apF
    rw [if_pos g]
    have c1 : 1 ≤ (L - st + sp - 1) / sp := (Nat.one_le_div_iff (by omega)).mpr (by omega)
    have c2 : sp ≤ (L - st + sp - 1) / sp * sp := Nat.le_mul_of_pos_left _ c1
    omega
  · unfold apF
    rw [if_neg g]
theorem slv_c {set c x : Nat} (hc : c < S 2 0) : slv ([(c, S 2 0)] ++ memK S set (S 0 0)) x ↔ x % S 2 0 = c ∧ slv (memK S set (S 0 0)) x := by
  have e : (S 2 0 : Int) ∣ (x : Int) - (c : Int) ↔ x % S 2 0 = c := by
    constructor
    · intro h
      have h1 : (S 2 0 : Int) ∣ ((x % S 2 0 : Nat) : Int) - (c : Int) := by
        have h2 : (S 2 0 : Int) ∣ (x : Int) - ((x % S 2 0 : Nat) : Int) := by rw [Int.natCast_emod]; exact Int.dvd_self_sub_emod
        have h3 := Int.dvd_sub h h2
        have e : (x : Int) - (c : Int) - ((x : Int) - ((x % S 2 0 : Nat) : Int)) = ((x % S 2 0 : Nat) : Int) - (c : Int) := by omega
        rw [e] at h3
        exact h3
      exact z_small (by omega) (Nat.mod_lt _ (by omega)) hc h1
    · intro h
      rw [← h, Int.natCast_emod]
      exact Int.dvd_self_sub_emod
  unfold slv
  constructor
  · intro h
    exact ⟨e.mp (h (c, S 2 0) (List.mem_append.mpr (Or.inl (List.mem_singleton.mpr rfl)))), fun q hq => h q (List.mem_append.mpr (Or.inr hq))⟩
  · rintro ⟨h1, h2⟩ q hq
    rcases List.mem_append.mp hq with hq | hq
    · rw [List.mem_singleton.mp hq]; exact e.mpr h1
    · exact h2 q hq
/-- an hour that all speak in comes to a clock that is open and within reach -/
theorem all_rc {set x : Nat} (oS : okS S) (hd : S 1 0 = 0) (h : allSpk T S set x = true) : opB T S set (x % S 2 0) = true ∧ rcB S set (S 0 0) (x % S 2 0) = true := by
  obtain ⟨h1, h2, h3⟩ := (all_iff oS hd).mp h
  refine ⟨h3, ?_⟩
  unfold rcB
  rw [List.all_eq_true]
  intro p hp
  cases hb : set.testBit p with
  | false => rfl
  | true =>
    have a := slv_mem.mp h1 p (List.mem_range.mp hp) hb
    have ga : ((Nat.gcd (S 10 p) (S 2 0) : Nat) : Int) ∣ (x : Int) - (S 11 p : Int) := Int.dvd_trans (Int.natCast_dvd_natCast.mpr (Nat.gcd_dvd_left _ _)) a
    have gb : ((Nat.gcd (S 10 p) (S 2 0) : Nat) : Int) ∣ (x : Int) - ((x % S 2 0 : Nat) : Int) := Int.dvd_trans (Int.natCast_dvd_natCast.mpr (Nat.gcd_dvd_right _ _)) (by rw [Int.natCast_emod]; exact Int.dvd_self_sub_emod)
    have c := Int.dvd_sub ga gb
    have e : (x : Int) - (S 11 p : Int) - ((x : Int) - ((x % S 2 0 : Nat) : Int)) = ((x % S 2 0 : Nat) : Int) - (S 11 p : Int) := by omega
    rw [e] at c
    rw [decide_eq_true c]; rfl
theorem all_rowc {set h st sp x c : Nat} (oS : okS S) (hd : S 1 0 = 0) (hc : c < S 2 0) (hj : jv ([(c, S 2 0)] ++ memK S set (S 0 0)) st sp) (ho : opB T S set c = true) (hx : x ≤ tLast) : (h ≤ x ∧ x % S 2 0 = c ∧ allSpk T S set x = true) ↔ ∃ j, x = apF st sp (lsF S set h (S 0 0)) + j * sp := by
  rw [← apF_iff hj hx, all_iff oS hd, lsF_le, slv_c hc]
  constructor
  · rintro ⟨h1, h2, h3, h4, h5⟩; exact ⟨⟨h1, h4⟩, h2, h3⟩
  · rintro ⟨⟨h1, h4⟩, h2, h3⟩; exact ⟨h1, h2, h3, h4, by rw [h2]; exact ho⟩
end Ref0
