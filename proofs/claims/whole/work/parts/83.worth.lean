/-! Worths of needs: both sides. -/
section Worth
variable {s : Nat × (Nat → Int32)} {d : Nat} {w : qW} {Q : Int32 → qW → Prop} {QL : Int64 → qW → Prop} {R : qW → Prop} {N S K : vS} {T : Nat → vT} {Z : vZ}
theorem mil_hd {ns : List Int} (h : ∀ x, x ∈ ns → mil x) : mil (ns.headD 0) := by
  cases ns with
  | nil => exact ⟨by decide, by decide⟩
  | cons a l => exact h a List.mem_cons_self
theorem mil_tl {ns : List Int} (h : ∀ x, x ∈ ns → mil x) : ∀ x, x ∈ ns.tail → mil x := fun x hx => h x (List.mem_of_mem_tail hx)
theorem evc_mil {b : Bool} {nm : Nat → Int} (hnm : ∀ k, k < 7 → b = decide (k < 4) → mil (nm k)) : ∀ (r : List (Nat × Nat)) (ns : List Int) (ts : List Bool) (n t : Nat), tyc b r n t → (∀ x, x ∈ ns → mil x) → ∀ x, x ∈ (evc nm r ns ts).1 → mil x
  | [], ns, ts, n, t, _, h => h
  | (o, v) :: r, ns, ts, n, t, ht, h => by
    obtain ⟨_, ht⟩ := ht
    have cons : ∀ (y : Int) (l : List Int), mil y → (∀ x, x ∈ l → mil x) → ∀ x, x ∈ y :: l → mil x := fun y l hy hl x hx => by
      rcases List.mem_cons.mp hx with e | e
      · rw [e]; exact hy
      · exact hl x e
    rcases ht with ⟨e, hv, h2⟩ | ⟨e, hv, hb, h2⟩ | ⟨e, hn, h2⟩ | ⟨e1, e2, hn, h2⟩ | ⟨e1, e2, hn, h2⟩ | ⟨e, hn, h1, h2⟩ | ⟨e, hn, h1, h2⟩
    · subst e
      exact evc_mil hnm r _ ts _ _ h2 (cons _ _ ⟨by omega, by omega⟩ h)
    · subst e
      exact evc_mil hnm r _ ts _ _ h2 (cons _ _ (hnm v hv hb) h)
    · subst e
      have hm := mil_hd h
      exact evc_mil hnm r _ ts _ _ h2 (cons _ _ ⟨by have := hm.2; omega, by have := hm.1; omega⟩ (mil_tl h))
    · have e : evc nm ((o, v) :: r) ns ts = evc nm r (op2 o (ns.tail.headD 0) (ns.headD 0) :: ns.tail.tail) ts := by
        show (if o = 0 then _ else if o = 1 then _ else if o = 2 then _ else if o ≤ 7 then _ else _) = _
        rw [if_neg (by omega), if_neg (by omega), if_neg (by omega), if_pos (by omega)]
      rw [e]
      exact evc_mil hnm r _ ts _ _ h2 (cons _ _ (mil_op2 o (mil_hd (mil_tl h))) (mil_tl (mil_tl h)))
    · have e : evc nm ((o, v) :: r) ns ts = evc nm r ns.tail.tail (opc o (ns.tail.headD 0) (ns.headD 0) :: ts) := by
        show (if o = 0 then _ else if o = 1 then _ else if o = 2 then _ else if o ≤ 7 then _ else if o ≤ 15 then _ else _) = _
        rw [if_neg (by omega), if_neg (by omega), if_neg (by omega), if_neg (by omega), if_pos (by omega)]
      rw [e]
      exact evc_mil hnm r _ _ _ _ h2 (mil_tl (mil_tl h))
    · subst e
      exact evc_mil hnm r _ _ _ _ h2 h
    · rcases e with e | e <;> subst e <;> exact evc_mil hnm r _ _ _ _ h2 h
/-- the clause that tells a worth -/
def wcl (t : vT) : Option Nat := (List.range t.1).find? (fun k => decide ((t.2.1 k).1 = 2))
def nmW (g a h : Nat) (k : Nat) : Int := if k = 4 then (g : Int) else if k = 5 then (a : Int) else (h : Int)
def cl9 (z : Int) : Int := if z < -9999 then -9999 else if 9999 < z then 9999 else z
def gotF (T : Nat → vT) (S : vS) (k : Nat) : Nat := tgF T S (2 ^ S 14 k ||| 2 ^ S 15 k) 0 (S 17 k)
def wtF (T : Nat → vT) (S : vS) (k : Nat) : Int := match (if S 4 0 = 0 then none else wcl (rul T S)) with
  | none => if S 16 k ≤ gotF T S k then 1 else 0
  | some c => cl9 ((evc (nmW (gotF T S k) (S 16 k) (S 17 k)) ((rul T S).2.2 c) [] []).1.headD 0)
theorem cl9_b (z : Int) : -9999 ≤ cl9 z ∧ cl9 z ≤ 9999 := by
  unfold cl9
  split
  · omega
  · split
    · omega
    · omega
theorem wtF_b (T : Nat → vT) (S : vS) (k : Nat) : -9999 ≤ wtF T S k ∧ wtF T S k ≤ 9999 := by
  unfold wtF
  split
  · split
    · omega
    · omega
  · exact cl9_b _
theorem wcl_some {t : vT} (ot : okT t) {k : Nat} (hk : k < t.1) (h2 : (t.2.1 k).1 = 2) : wcl t = some k := by
  refine find_some hk (decide_eq_true h2) (fun j hj => decide_eq_false (fun h => ?_))
  have := ot.one k j hk (by omega) h2 h
  omega
theorem wcl_none {t : vT} (h : ∀ k, k < t.1 → ¬ (t.2.1 k).1 = 2) : wcl t = none := find_none (fun j hj => decide_eq_false (h j hj))
theorem tx_gr {i f : Nat} (h : i < 4) (hf : f = 4 ∨ f = 5 ∨ f = 6) {KK : Nat → Prop} {F : Prop} (hk : KK (27 + 5 * i + (f - 3))) : qGr (some s) w (27 + 5 * i) f KK F := by
  have hi : i = 0 ∨ i = 1 ∨ i = 2 ∨ i = 3 := by omega
  rcases hi with rfl | rfl | rfl | rfl <;> rcases hf with rfl | rfl | rfl <;> exact hk
theorem tx_ald {i j : Nat} (h : i < 4) (hj : j = 1 ∨ j = 2 ∨ j = 3) {x : Int32} {A : Int32 → Prop} (hx : qIn x 24) (hA : A (w.1 (27 + 5 * i + j) (qIx x))) : qAld (some s) w (27 + 5 * i + j) x A := by
  have hi : i = 0 ∨ i = 1 ∨ i = 2 ∨ i = 3 := by omega
  rcases hi with rfl | rfl | rfl | rfl <;> rcases hj with rfl | rfl | rfl <;> exact ⟨hx, hA⟩
theorem need_set {k : Nat} (o : okS N) (hk : k < N 7 0) : 0 < 2 ^ N 14 k ||| 2 ^ N 15 k ∧ 2 ^ N 14 k ||| 2 ^ N 15 k < 2 ^ N 0 0 ∧ 2 ^ N 14 k ||| 2 ^ N 15 k < 4096 := by
  have on := o.need k hk
  have o0 := o.p12
  refine ⟨?_, ?_, pair_lt (by omega) (by omega)⟩
  · rcases Nat.eq_zero_or_pos (2 ^ N 14 k ||| 2 ^ N 15 k) with e | e
    · have := congrArg (fun n => n.testBit (N 14 k)) e
      simp only [pair_bit, decide_true, Bool.true_or, Nat.zero_testBit] at this
      exact Bool.noConfusion this
    · exact e
  · exact Nat.or_lt_two_pow (Nat.pow_lt_pow_right (by decide) (by omega)) (Nat.pow_lt_pow_right (by decide) (by omega))
theorem c_clamp9 {z : Int} (hd : 1 ≤ d) (hz : mil z) (hQ : Q (iZ (cl9 z)) w) : qCall (some s) d 23 [.int (9999 : Int32), .int (iZ z)] w (qQi fun x13 w12 => qCall (some s) d 21 [.int (-9999 : Int32), .int x13] w12 (qQi fun x15 w14 => Q x15 w14)) := by
  obtain ⟨d, rfl, -⟩ := dS hd
  obtain ⟨h1, h2⟩ := hz
  refine A_Math_min ?_
  unfold cl9 at hQ
  rw [show (9999 : Int32) = iZ 9999 from rfl, iZ_lt (by omega) (by omega)]
  refine ⟨fun g => A_Math_max ?_, fun g => A_Math_max ?_⟩
  · rw [iZ_neg, iZ_lt (by omega) (by omega)]
    refine ⟨fun g2 => ?_, fun g2 => ?_⟩
    · rw [if_neg (by omega), if_neg (by omega)] at hQ; exact hQ
    · by_cases e : z < -9999
      · rw [if_pos e] at hQ; exact hQ
      · rw [if_neg e, if_neg (by omega)] at hQ
        have : z = -9999 := by omega
        rw [this] at hQ; exact hQ
  · rw [iZ_neg, iZ_lt (by omega) (by omega)]
    refine ⟨fun g2 => ?_, fun g2 => absurd (by omega) g2⟩
    by_cases e : 9999 < z
    · rw [if_neg (by omega), if_pos e] at hQ; exact hQ
    · rw [if_neg (by omega), if_neg e] at hQ
      have : z = 9999 := by omega
      rw [this] at hQ; exact hQ
def wtA (c : Nat) : Prop := c = 48 ∨ c = 49 ∨ c = 53 ∨ c = 54
theorem rX.wt {w' : qW} (h : rX w N K T Z) (f : fr wtA w w') : rX w' N K T Z := h.keep f (fun c => ⟨fun _ _ => by unfold wtA; omega, by unfold wtA; omega⟩)
theorem c_worthOf {k : Nat} (hd : 6 ≤ d) (hX : rX w N K T Z) (hk : k < N 7 0) (hQ : ∀ w', fr wtA w w' → Q (iZ (wtF T N k)) w') : qCall (some s) d 156 [.ref 59, .int (nI k)] w (qQi Q) := by
  obtain ⟨d, rfl, hd1⟩ := dS hd
  have o := hX.okn
  have o0 := o.p12
  have o7 := o.nds
  have on := o.need k hk
  have hL := tL
  obtain ⟨s1, s2, s3⟩ := need_set o hk
  have r := hX.n
  refine A_Gifts_worthOf ⟨qIn_nI (by omega) (by decide), qIn_nI (by omega) (by decide), ?_⟩
  have e9 : w.1 9 k = nI (2 ^ N 14 k ||| 2 ^ N 15 k) := r.ndp k hk
  have e11 : w.1 11 k = nI (N 17 k) := r.ndh k hk
  rw [qIx_nI (by omega), e9, e11, show (1 : Int32) = nI 1 from rfl, nI_sub' (by omega), nI_l (by omega), show (0 : Int64) = lN 0 from rfl, show N 17 k - 1 = 0 + N 17 k - 1 by omega]
  refine c_countOf (by omega) hX s1 s2 (by omega) (by omega) ?_
  intro w2 f2
  have f2' : fr wtA w w2 := fr_wk f2 (fun c hc => by unfold wtA; omega)
  have hX2 := hX.wt f2'
  have gb : tgF T N (2 ^ N 14 k ||| 2 ^ N 15 k) 0 (N 17 k) ≤ N 17 k := tgF_le _ _ _ _ _
  have eg : tgF T N (2 ^ N 14 k ||| 2 ^ N 15 k) 0 (N 17 k) = gotF T N k := rfl
  rw [eg] at gb ⊢
  have at65 : ∀ w3, rX w3 N K T Z → fr wtA w w3 → (if N 4 0 = 0 then none else wcl (rul T N)) = none → qAt s d c_Gifts_worthOf (qQi Q) 65 [some (.ref 59), some (.int (nI k)), some (.long (lN (gotF T N k))), none, none, none] [] w3 := by
    intro w3 hX3 f3 hn
    have hz := hQ w3 f3
    unfold wtF at hz
    rw [hn] at hz
    have hz : Q (iZ (if N 16 k ≤ gotF T N k then 1 else 0)) w3 := hz
    refine A_Gifts_worthOf_65 ⟨qIn_nI (by omega) (by decide), ?_⟩
    have e10 : w3.1 10 k = nI (N 16 k) := hX3.n.nda k hk
    rw [qIx_nI (by omega), e10, nI_l (by omega), lg_lt, pk_lLT (by omega) (by omega)]
    refine ⟨fun g => ?_, fun g => ?_⟩
    · rw [if_neg (by omega)] at hz; exact hz
    · rw [if_pos (by omega)] at hz; exact hz
  refine c_rulingText (by omega) hX2.v (fun e4 => ⟨fun u hu => (by cases hu), fun _ => at65 w2 hX2 f2' (by rw [if_pos e4])⟩) (fun i e4 hi hi3 => ⟨fun u hu => ?_, fun e => (by cases e)⟩)
  have eu : 27 + 5 * i = u := Option.some.inj hu
  subst eu
  have er : rul T N = T i := by unfold rul; rw [e4]; rfl
  have rt := hX2.t i hi3
  have ot := hX2.okt i hi3
  have o24 := ot.nc
  refine qAl4 hi ?_
  rcases rt.wor with ⟨ew, no⟩ | ⟨c, hc, ew, h2⟩
  · rw [ew]
    refine ⟨fun _ => at65 w2 hX2 f2' (by rw [if_neg (by omega), er]; exact wcl_none no), fun g => absurd (by decide) g⟩
  · have hw : (if N 4 0 = 0 then none else wcl (rul T N)) = some c := by rw [if_neg (by omega), er]; exact wcl_some ot hc h2
    rw [ew, rt.nc, show (nI c < (0 : Int32)) ↔ c < 0 from nI_ltI (b := 0) (by omega) (by omega)]
    refine ⟨fun g => absurd g (by omega), fun _ => qAl4 hi (qAl4 hi ?_)⟩
    rw [nI_ltI (by omega) (by omega)]
    refine ⟨fun _ => ⟨qIn_nI (j := 4) (by decide) (by decide), qIn_nI (by omega) (by decide), qIn_nI (j := 5) (by decide) (by decide), qIn_nI (by omega) (by decide), qIn_nI (j := 6) (by decide) (by decide), ?_⟩, fun g => absurd hc g⟩
    have e10 : w2.1 10 k = nI (N 16 k) := hX2.n.nda k hk
    have e11' : w2.1 11 k = nI (N 17 k) := hX2.n.ndh k hk
    rw [lN_i, e10, e11', show qIx (4 : Int32) = 4 from rfl, show qIx (5 : Int32) = 5 from rfl, show qIx (6 : Int32) = 6 from rfl]
    have f3 : fr wtA w (qPutI (qPutI (qPutI w2 48 4 (nI (gotF T N k))) 48 5 (nI (N 16 k))) 48 6 (nI (N 17 k))) := fr_I (fr_I (fr_I f2' (by unfold wtA; omega)) (by unfold wtA; omega)) (by unfold wtA; omega)
    generalize hw3 : qPutI (qPutI (qPutI w2 48 4 (nI (gotF T N k))) 48 5 (nI (N 16 k))) 48 6 (nI (N 17 k)) = w3 at *
    have m4 : w3.1 48 4 = nI (gotF T N k) := by rw [← hw3]; simp (disch := omega) only [li, ll, nI_add, nI_mul', nI_sub', nI_div', qRem_nI, lN_add, lN_mul, lN_sub, lN_div', qRemL_lN, qIn_I, qIx_nI, nI_ltI, nI_leI, nI_eq, nI_eqn, nI_eqn', nI_len, nI_ltn, nI_nle', nI_nlt', lN_eqn, lg_lt, lg_gt, lg_eq, lg_le, lg_ge, lgn_lt, lgn_gt, lgn_eq, lgn_le, lgn_ge, pk_lLT, pk_lLE, pk_lEQ, nI_l, lN_i, qShl_n, nI_and, nI_or, lN_and, lN_or, nI_andn, lN_andn, pI_e, pI_f, pI_c, pL_e, pL_f, pL_c, pI_L, pL_I, qB_1, qZb_n, true_and, and_true, forall_const, not_true_eq_false, not_false_eq_true, Nat.reduceLT, Nat.reduceLeDiff, Nat.reduceEqDiff, Nat.reduceAdd, Nat.reduceMul, Nat.reduceSub, Nat.reduceMod, Nat.reduceDiv, false_implies, implies_true]
    have m5 : w3.1 48 5 = nI (N 16 k) := by rw [← hw3]; simp (disch := omega) only [li, ll, nI_add, nI_mul', nI_sub', nI_div', qRem_nI, lN_add, lN_mul, lN_sub, lN_div', qRemL_lN, qIn_I, qIx_nI, nI_ltI, nI_leI, nI_eq, nI_eqn, nI_eqn', nI_len, nI_ltn, nI_nle', nI_nlt', lN_eqn, lg_lt, lg_gt, lg_eq, lg_le, lg_ge, lgn_lt, lgn_gt, lgn_eq, lgn_le, lgn_ge, pk_lLT, pk_lLE, pk_lEQ, nI_l, lN_i, qShl_n, nI_and, nI_or, lN_and, lN_or, nI_andn, lN_andn, pI_e, pI_f, pI_c, pL_e, pL_f, pL_c, pI_L, pL_I, qB_1, qZb_n, true_and, and_true, forall_const, not_true_eq_false, not_false_eq_true, Nat.reduceLT, Nat.reduceLeDiff, Nat.reduceEqDiff, Nat.reduceAdd, Nat.reduceMul, Nat.reduceSub, Nat.reduceMod, Nat.reduceDiv, false_implies, implies_true]
    have m6 : w3.1 48 6 = nI (N 17 k) := by rw [← hw3]; simp (disch := omega) only [li, ll, nI_add, nI_mul', nI_sub', nI_div', qRem_nI, lN_add, lN_mul, lN_sub, lN_div', qRemL_lN, qIn_I, qIx_nI, nI_ltI, nI_leI, nI_eq, nI_eqn, nI_eqn', nI_len, nI_ltn, nI_nle', nI_nlt', lN_eqn, lg_lt, lg_gt, lg_eq, lg_le, lg_ge, lgn_lt, lgn_gt, lgn_eq, lgn_le, lgn_ge, pk_lLT, pk_lLE, pk_lEQ, nI_l, lN_i, qShl_n, nI_and, nI_or, lN_and, lN_or, nI_andn, lN_andn, pI_e, pI_f, pI_c, pL_e, pL_f, pL_c, pI_L, pL_I, qB_1, qZb_n, true_and, and_true, forall_const, not_true_eq_false, not_false_eq_true, Nat.reduceLT, Nat.reduceLeDiff, Nat.reduceEqDiff, Nat.reduceAdd, Nat.reduceMul, Nat.reduceSub, Nat.reduceMod, Nat.reduceDiv, false_implies, implies_true]
    have hX3 := hX.wt f3
    have rt3 := hX3.t i hi3
    have ew3 : w3.1 (27 + 5 * i) 2 = nI c := by
      rcases rt3.wor with ⟨_, no⟩ | ⟨c', hc', ew', h2'⟩
      · exact absurd h2 (no c hc)
      · rw [ew', ot.one c c' hc hc' h2 h2']
    refine qAl4 hi (tx_gr hi (Or.inr (Or.inl rfl)) (qAl4 hi ?_))
    rw [ew3]
    obtain ⟨f0, c1, c2, c3, c4⟩ := rt3.code c hc (by omega)
    have i24 : qIn (nI c) 24 := qIn_nI (by omega) (by decide)
    refine tx_ald hi (Or.inr (Or.inl rfl)) i24 (qAl4 hi (tx_gr hi (Or.inr (Or.inr rfl)) (qAl4 hi ?_)))
    refine tx_ald hi (Or.inr (Or.inr rfl)) i24 ?_
    rw [qIx_nI (by omega)]
    show qCall (some s) d 20 [.ref 47, .ref (27 + 5 * i), .int (w3.1 (27 + 5 * i + 2) c), .int (w3.1 (27 + 5 * i + 3) c)] w3 _
    rw [c1, c2]
    have hm : ∀ j, j < 7 → false = decide (j < 4) → w3.1 48 j = iZ (nmW (gotF T N k) (N 16 k) (N 17 k) j) ∧ mil (nmW (gotF T N k) (N 16 k) (N 17 k) j) := by
      intro j hj hb
      have : ¬ j < 4 := of_decide_eq_false hb.symm
      have : j = 4 ∨ j = 5 ∨ j = 6 := by omega
      rcases this with rfl | rfl | rfl
      · rw [m4]; exact ⟨nI_Z _, by show mil (gotF T N k : Int); unfold mil; omega⟩
      · rw [m5]; exact ⟨nI_Z _, by show mil (N 16 k : Int); unfold mil; omega⟩
      · rw [m6]; exact ⟨nI_Z _, by show mil (N 17 k : Int); unfold mil; omega⟩
    refine c_run (b := false) (by omega) (txc_i hi) hm c3 (ot.p2 c hc h2) c4 ?_
    intro w4 f4
    have hmil := mil_hd (evc_mil (b := false) (fun j hj hb => (hm j hj hb).2) _ [] [] _ _ (ot.p2 c hc h2) (fun x hx => by cases hx))
    refine c_clamp9 (by omega) hmil ?_
    have hz := hQ w4 (fr_tr f3 (fr_wk f4 (fun c hc => by unfold wtA; omega)))
    unfold wtF at hz
    rw [hw, er] at hz
    exact hz
/-- the worths of the first n needs, added -/
def wtT (T : Nat → vT) (S : vS) : Nat → Int
  | 0 => 0
  | k + 1 => wtT T S k + wtF T S k
theorem wtT_b (T : Nat → vT) (S : vS) : ∀ n : Nat, -(9999 * (n : Int)) ≤ wtT T S n ∧ wtT T S n ≤ 9999 * (n : Int)
  | 0 => by unfold wtT; omega
  | k + 1 => by
    have := wtT_b T S k
    have := wtF_b T S k
    unfold wtT
    omega
theorem c_total (hd : 7 ≤ d) (hX : rX w N K T Z) (hQ : ∀ w', fr (fun c => wtA c ∨ c = 60) w w' → (∀ i, i < N 7 0 → w'.1 60 i = iZ (wtF T N i)) → Q (iZ (wtT T N (N 7 0))) w') : qCall (some s) d 155 [.ref 59] w (qQi Q) := by
  obtain ⟨d, rfl, hd1⟩ := dS hd
  have o7 := hX.okn.nds
  refine A_Gifts_total ?_
  refine lpU (i := 0) (n := N 7 0) (I := fun i w2 => fr (fun c => wtA c ∨ c = 60) w w2 ∧ ∀ j, j < i → w2.1 60 j = iZ (wtF T N j)) (P := fun i w2 => qAt s d c_Gifts_total (qQi Q) 4 [some (.ref 59), some (.int (iZ (wtT T N i))), some (.int (nI i))] [] w2) ?_ ?_ (Nat.zero_le _) ⟨fr_rf _ _, fun j hj => absurd hj (Nat.not_lt_zero _)⟩
  · intro w2 ⟨f, h⟩
    have hX2 := hX.keep f (fun c => ⟨fun _ _ => by unfold wtA; omega, by unfold wtA; omega⟩)
    refine A_Gifts_total_4 ?_
    have e : w2.1 2 13 = nI (N 7 0) := hX2.n.nds
    rw [e]
    exact ⟨fun _ => hQ w2 f h, fun g => absurd (Int32.le_refl _) g⟩
  · intro i w2 hi ⟨f, h⟩ ih
    have hX2 := hX.keep f (fun c => ⟨fun _ _ => by unfold wtA; omega, by unfold wtA; omega⟩)
    refine A_Gifts_total_4 ?_
    have e : w2.1 2 13 = nI (N 7 0) := hX2.n.nds
    rw [e, nI_leI (by omega) (by omega), qIx_nI (by omega), nI_1]
    refine ⟨fun g => absurd g (by omega), fun _ => c_worthOf (by omega) hX2 hi (fun w3 f3 => ⟨qIn_nI (by omega) (by decide), qIn_nI (by omega) (by decide), ?_⟩)⟩
    rw [pI_e, iZ_add]
    refine ih _ ⟨fr_I (fr_tr f (fr_wk f3 (fun c hc => Or.inl hc))) (Or.inr rfl), fun j hj => ?_⟩
    by_cases ej : j = i
    · subst ej; rw [pI_e]
    · rw [pI_f ej, (f3 60 (by unfold wtA; omega)).1]
      exact h j (by omega)
def vWth (N : vS) (k : Int32) : Prop := -1 ≤ k ∧ k < nI (N 7 0)
def fWth (T : Nat → vT) (N : vS) (k : Int32) : Int32 := if k = -1 then iZ (wtT T N (N 7 0)) else iZ (wtF T N (qIx k))
theorem c_worth {k : Int32} (hd : 8 ≤ d) (hX : rX w N K T Z) (hy : ∀ w', vWth N k → rX w' N K T Z → fr (fun c => c < 72) w w' → Q (fWth T N k) w') (hn : ¬ vWth N k → Q (-1000000) w) : qCall (some s) d 154 [.ref 1, .int k] w (qQi Q) := by
  obtain ⟨d, rfl, hd1⟩ := dS hd
  have o7 := hX.okn.nds
  refine A_X_worth ⟨fun g => hn (fun q => absurd g (Int32.not_lt.mpr q.1)), fun g1 => ?_⟩
  have e : w.1 2 13 = nI (N 7 0) := hX.n.nds
  rw [e]
  refine ⟨fun g2 => ?_, fun g => hn (fun q => g q.2)⟩
  have g : vWth N k := ⟨Int32.not_lt.mp g1, g2⟩
  unfold fWth at hy
  refine ⟨fun g3 => ?_, fun g3 => ?_⟩
  · have k0 : ¬ k < 0 := by
      intro q
      have h1 := Int32.le_iff_toInt_le.mp g.1
      have h2 := Int32.lt_iff_toInt_lt.mp q
      rw [show (-1 : Int32).toInt = -1 by decide] at h1
      rw [show (0 : Int32).toInt = 0 by decide] at h2
      exact g3 (Int32.toInt_inj.mp (by rw [show (-1 : Int32).toInt = -1 by decide]; omega))
    obtain ⟨j, hj, rfl⟩ := nI_of k0
    rw [if_neg g3, qIx_nI hj] at hy
    refine c_worthOf (by omega) hX ((nI_ltI hj (by omega)).mp g2) ?_
    intro w2 f2
    exact hy w2 g (hX.wt f2) (fr_wk f2 (fun c hc => by unfold wtA at hc; omega))
  · rw [if_pos g3] at hy
    refine c_total hd1 hX ?_
    intro w2 f2 _
    exact hy w2 g (hX.keep f2 (fun c => ⟨fun _ _ => by unfold wtA; omega, by unfold wtA; omega⟩)) (fr_wk f2 (fun c hc => by unfold wtA at hc; omega))
end Worth
