/-! Machine.run of the class: a row of steps done. -/
section Run
variable {s : Nat × (Nat → Int32)} {d : Nat} {w : qW} {Q : Int32 → qW → Prop}
/-- a stack in a row of cells, the last first -/
def stI (w : qW) (c : Nat) : List Int32 → Prop
  | [] => True
  | a :: L => w.1 c L.length = a ∧ stI w c L
theorem stI_put {w : qW} {c k : Nat} {v : Int32} : ∀ {L : List Int32}, L.length ≤ k → stI w c L → stI (qPutI w c k v) c L
  | [], _, _ => trivial
  | a :: L, hk, h => by
    have hk' : L.length + 1 ≤ k := hk
    exact ⟨by rw [pI_f (by omega)]; exact h.1, stI_put (by omega) h.2⟩
theorem stI_push {w : qW} {c : Nat} {v : Int32} {L : List Int32} (h : stI w c L) : stI (qPutI w c L.length v) c (v :: L) := ⟨pI_e _ _ _ _, stI_put (Nat.le_refl _) h⟩
abbrev tI (t : Bool) : Int32 := nI t.toNat
def resB (b : Bool) (p : List Int × List Bool) : Int32 := if b then tI (p.2.headD false) else iZ (p.1.headD 0)
theorem txc_49 {c : Nat} (hc : txc c) : ¬ c + 4 = 49 := by
  unfold txc at hc
  omega
theorem txc_lt {c : Nat} (hc : txc c) : c ≤ 42 := by
  unfold txc at hc
  omega
theorem map_add_len (ns : List Int) (ts : List Bool) : (ns.map iZ ++ ts.map tI).length = ns.length + ts.length := by simp
theorem run_loop {c : Nat} (hd : 2 ≤ d) (hc : txc c) {b : Bool} {nm : Nat → Int} (hnm : ∀ k, k < 7 → b = decide (k < 4) → w.1 48 k = iZ (nm k) ∧ mil (nm k)) {e : Nat} (he : e ≤ 300) :
    ∀ (r : List (Nat × Nat)) (i : Nat) (ns : List Int) (ts : List Bool) (w' : qW), tyc b r ns.length ts.length → (∀ x, x ∈ ns → mil x) → stI w' 49 (ns.map iZ ++ ts.map tI) → fr (fun c => c = 49) w w' → (∀ j, j < r.length → w.1 (c + 4) (i + j) = nI (enc (r.getD j (0, 0)))) → i + r.length = e → (∀ w'', fr (fun c => c = 49) w w'' → Q (resB b (evc nm r ns ts)) w'') →
      qAt s d c_Machine_run (qQi Q) 10 [some (.ref 47), some (.ref c), none, some (.int (nI e)), some (.int (nI (ns.length + ts.length))), some (.int (nI i)), none] [] w' := by
  intro r
  induction r with
  | nil =>
    intro i ns ts w' ht hm hs hf hcd hie hQ
    have hie' : i = e := hie
    subst hie'
    refine G_Machine_run_10 hc ?_
    have hfin : ns.length + ts.length = 1 ∧ w'.1 49 0 = resB b (ns, ts) := by
      unfold tyc at ht
      cases b with
      | true =>
        obtain ⟨h1, h2⟩ := ht
        match ns, ts, h1, h2 with
        | [], [t], _, _ => exact ⟨rfl, hs.1⟩
      | false =>
        obtain ⟨h1, h2⟩ := ht
        match ns, ts, h1, h2 with
        | [x], [], _, _ => exact ⟨rfl, hs.1⟩
    rw [hfin.1]
    simp (disch := omega) only [li, ll, nI_add, nI_mul', nI_sub', nI_div', qRem_nI, lN_add, lN_mul, lN_sub, lN_div', qRemL_lN, qIn_I, qIx_nI, nI_ltI, nI_leI, nI_eq, nI_eqn, nI_eqn', nI_len, nI_ltn, nI_nle', nI_nlt', lN_eqn, lg_lt, lg_gt, lg_eq, lg_le, lg_ge, lgn_lt, lgn_gt, lgn_eq, lgn_le, lgn_ge, pk_lLT, pk_lLE, pk_lEQ, nI_l, lN_i, qShl_n, nI_and, nI_or, lN_and, lN_or, nI_andn, lN_andn, pI_e, pI_f, pI_c, pL_e, pL_f, pL_c, pI_L, pL_I, qB_1, qZb_n, true_and, and_true, forall_const, not_true_eq_false, not_false_eq_true, Nat.reduceLT, Nat.reduceLeDiff, Nat.reduceEqDiff, Nat.reduceAdd, Nat.reduceMul, Nat.reduceSub, Nat.reduceMod, Nat.reduceDiv, false_implies, implies_true, hfin.2]
    exact ⟨fun _ => hQ w' hf, fun g => absurd (Nat.le_refl _) g⟩
  | cons ov r ih =>
    obtain ⟨o, v⟩ := ov
    intro i ns ts w' ht hm hs hf hcd hie hQ
    have hie' : i + (r.length + 1) = e := hie
    have ec : w'.1 (c + 4) i = nI (enc (o, v)) := by
      rw [(hf (c + 4) (txc_49 hc)).1]
      exact hcd 0 (Nat.succ_pos _)
    have hcd' : ∀ j, j < r.length → w.1 (c + 4) (i + 1 + j) = nI (enc (r.getD j (0, 0))) := fun j hj => by
      have := hcd (j + 1) (Nat.succ_lt_succ hj)
      rw [show i + 1 + j = i + (j + 1) by omega]
      exact this
    have nx := fun ns' ts' w2 h1 h2 h3 h4 h5 => ih (i + 1) ns' ts' w2 h1 h2 h3 h4 hcd' (by omega) h5
    have hlen := map_add_len ns ts
    refine G_Machine_run_10 hc ?_
    have h48 : ∀ k, w'.1 48 k = w.1 48 k := fun k => by rw [(hf 48 (by decide)).1]
    unfold tyc at ht
    obtain ⟨h50, ht⟩ := ht
    rcases ht with ⟨rfl, hv, ht⟩ | ⟨rfl, hv, hb, ht⟩ | ⟨rfl, h1, ht⟩ | ⟨h1, h2, h3, ht⟩ | ⟨h1, h2, h3, ht⟩ | ⟨rfl, h2, h3, ht⟩ | ⟨h1, h2, h3, ht⟩
    · have e0 : enc (0, v) = v := rfl
      rw [e0] at ec
      simp (disch := omega) only [li, ll, nI_add, nI_mul', nI_sub', nI_div', qRem_nI, lN_add, lN_mul, lN_sub, lN_div', qRemL_lN, qIn_I, qIx_nI, nI_ltI, nI_leI, nI_eq, nI_eqn, nI_eqn', nI_len, nI_ltn, nI_nle', nI_nlt', lN_eqn, lg_lt, lg_gt, lg_eq, lg_le, lg_ge, lgn_lt, lgn_gt, lgn_eq, lgn_le, lgn_ge, pk_lLT, pk_lLE, pk_lEQ, nI_l, lN_i, qShl_n, nI_and, nI_or, lN_and, lN_or, nI_andn, lN_andn, pI_e, pI_f, pI_c, pL_e, pL_f, pL_c, pI_L, pL_I, qB_1, qZb_n, true_and, and_true, forall_const, not_true_eq_false, not_false_eq_true, Nat.reduceLT, Nat.reduceLeDiff, Nat.reduceEqDiff, Nat.reduceAdd, Nat.reduceMul, Nat.reduceSub, Nat.reduceMod, Nat.reduceDiv, false_implies, implies_true, ec]
      refine ⟨fun g => by omega, fun _ => ⟨fun g => by omega, fun _ => ⟨by omega, fun g => by omega, fun _ => ⟨fun g => by omega, fun _ => ⟨fun g => by omega, fun _ => ⟨by omega, ?_⟩⟩⟩⟩⟩⟩
      have p := nx ((v : Int) :: ns) ts (qPutI w' 49 (ns.length + ts.length) (nI v)) ht (fun x hx => by
        rcases List.mem_cons.mp hx with rfl | hx
        · unfold mil; omega
        · exact hm x hx) (by rw [nI_Z v, ← hlen]; exact stI_push hs) (fr_I hf rfl) hQ
      rw [List.length_cons, show ns.length + 1 + ts.length = ns.length + ts.length + 1 by omega] at p
      exact p
    · obtain ⟨hn1, hn2⟩ := hnm v hv hb
      have e0 : enc (1, v) = 10000 + v := rfl
      rw [e0] at ec
      simp (disch := omega) only [li, ll, nI_add, nI_mul', nI_sub', nI_div', qRem_nI, lN_add, lN_mul, lN_sub, lN_div', qRemL_lN, qIn_I, qIx_nI, nI_ltI, nI_leI, nI_eq, nI_eqn, nI_eqn', nI_len, nI_ltn, nI_nle', nI_nlt', lN_eqn, lg_lt, lg_gt, lg_eq, lg_le, lg_ge, lgn_lt, lgn_gt, lgn_eq, lgn_le, lgn_ge, pk_lLT, pk_lLE, pk_lEQ, nI_l, lN_i, qShl_n, nI_and, nI_or, lN_and, lN_or, nI_andn, lN_andn, pI_e, pI_f, pI_c, pL_e, pL_f, pL_c, pI_L, pL_I, qB_1, qZb_n, true_and, and_true, forall_const, not_true_eq_false, not_false_eq_true, Nat.reduceLT, Nat.reduceLeDiff, Nat.reduceEqDiff, Nat.reduceAdd, Nat.reduceMul, Nat.reduceSub, Nat.reduceMod, Nat.reduceDiv, false_implies, implies_true, ec]
      refine ⟨fun g => by omega, fun _ => ⟨fun g => by omega, fun _ => ⟨by omega, fun g => by omega, fun _ => ⟨fun g => by omega, fun _ => ⟨fun _ => ⟨by omega, by omega, ?_⟩, fun g => by omega⟩⟩⟩⟩⟩
      rw [show 10000 + v - 10000 = v by omega, h48, hn1]
      have p := nx (nm v :: ns) ts (qPutI w' 49 (ns.length + ts.length) (iZ (nm v))) ht (fun x hx => by
        rcases List.mem_cons.mp hx with rfl | hx
        · exact hn2
        · exact hm x hx) (by rw [← hlen]; exact stI_push hs) (fr_I hf rfl) hQ
      rw [List.length_cons, show ns.length + 1 + ts.length = ns.length + ts.length + 1 by omega] at p
      exact p
    · match ns, h1 with
      | x :: ns, _ =>
        have e0 : enc (2, v) = 10024 := rfl
        rw [e0] at ec
        have hl2 := map_add_len ns ts
        have hx : w'.1 49 (ns.length + ts.length) = iZ x := by rw [← hl2]; exact hs.1
        rw [List.length_cons] at h50 ⊢
        simp (disch := omega) only [li, ll, nI_add, nI_mul', nI_sub', nI_div', qRem_nI, lN_add, lN_mul, lN_sub, lN_div', qRemL_lN, qIn_I, qIx_nI, nI_ltI, nI_leI, nI_eq, nI_eqn, nI_eqn', nI_len, nI_ltn, nI_nle', nI_nlt', lN_eqn, lg_lt, lg_gt, lg_eq, lg_le, lg_ge, lgn_lt, lgn_gt, lgn_eq, lgn_le, lgn_ge, pk_lLT, pk_lLE, pk_lEQ, nI_l, lN_i, qShl_n, nI_and, nI_or, lN_and, lN_or, nI_andn, lN_andn, pI_e, pI_f, pI_c, pL_e, pL_f, pL_c, pI_L, pL_I, qB_1, qZb_n, true_and, and_true, forall_const, not_true_eq_false, not_false_eq_true, Nat.reduceLT, Nat.reduceLeDiff, Nat.reduceEqDiff, Nat.reduceAdd, Nat.reduceMul, Nat.reduceSub, Nat.reduceMod, Nat.reduceDiv, false_implies, implies_true, ec]
        refine ⟨fun g => by omega, fun _ => ⟨fun g => by omega, fun _ => ⟨by omega, G_Machine_run_101 hc ?_⟩⟩⟩
        simp (disch := omega) only [li, ll, nI_add, nI_mul', nI_sub', nI_div', qRem_nI, lN_add, lN_mul, lN_sub, lN_div', qRemL_lN, qIn_I, qIx_nI, nI_ltI, nI_leI, nI_eq, nI_eqn, nI_eqn', nI_len, nI_ltn, nI_nle', nI_nlt', lN_eqn, lg_lt, lg_gt, lg_eq, lg_le, lg_ge, lgn_lt, lgn_gt, lgn_eq, lgn_le, lgn_ge, pk_lLT, pk_lLE, pk_lEQ, nI_l, lN_i, qShl_n, nI_and, nI_or, lN_and, lN_or, nI_andn, lN_andn, pI_e, pI_f, pI_c, pL_e, pL_f, pL_c, pI_L, pL_I, qB_1, qZb_n, true_and, and_true, forall_const, not_true_eq_false, not_false_eq_true, Nat.reduceLT, Nat.reduceLeDiff, Nat.reduceEqDiff, Nat.reduceAdd, Nat.reduceMul, Nat.reduceSub, Nat.reduceMod, Nat.reduceDiv, false_implies, implies_true]
        refine ⟨fun g => by omega, fun _ => ⟨by omega, by omega, ?_⟩⟩
        rw [show ns.length + 1 + ts.length - 1 = ns.length + ts.length by omega, hx, iZ_neg]
        exact nx (-x :: ns) ts _ ht (fun y hy => by
          rcases List.mem_cons.mp hy with rfl | hy
          · have := hm x (List.mem_cons_self)
            unfold mil at *
            omega
          · exact hm y (List.mem_cons_of_mem _ hy)) (by rw [← hl2]; exact stI_push hs.2) (fr_I hf rfl) hQ
    · match ns, h3 with
      | y :: x :: ns, _ =>
        have e0 : enc (o, v) = 10007 + o := by
          unfold enc
          simp only []
          rw [if_neg (by omega), if_neg (by omega), if_neg (by omega), if_pos (by omega)]
        rw [e0] at ec
        have hl2 := map_add_len ns ts
        have hl3 : (List.map iZ (x :: ns) ++ List.map tI ts).length = ns.length + 1 + ts.length := by rw [map_add_len]; rfl
        have hy : w'.1 49 (ns.length + 1 + ts.length) = iZ y := by rw [← hl3]; exact hs.1
        have hx : w'.1 49 (ns.length + ts.length) = iZ x := by rw [← hl2]; exact hs.2.1
        have hmy := hm y List.mem_cons_self
        have hmx := hm x (List.mem_cons_of_mem _ List.mem_cons_self)
        rw [List.length_cons, List.length_cons] at h50 ⊢
        have m1 : nI (ns.length + 1 + 1 + ts.length) + (-(nI 1)) = nI (ns.length + 1 + ts.length) := by
          rw [show ns.length + 1 + 1 + ts.length = ns.length + 1 + ts.length + 1 by omega]; exact pk_m1 _
        simp (disch := omega) only [li, ll, nI_add, nI_mul', nI_sub', nI_div', qRem_nI, lN_add, lN_mul, lN_sub, lN_div', qRemL_lN, qIn_I, qIx_nI, nI_ltI, nI_leI, nI_eq, nI_eqn, nI_eqn', nI_len, nI_ltn, nI_nle', nI_nlt', lN_eqn, lg_lt, lg_gt, lg_eq, lg_le, lg_ge, lgn_lt, lgn_gt, lgn_eq, lgn_le, lgn_ge, pk_lLT, pk_lLE, pk_lEQ, nI_l, lN_i, qShl_n, nI_and, nI_or, lN_and, lN_or, nI_andn, lN_andn, pI_e, pI_f, pI_c, pL_e, pL_f, pL_c, pI_L, pL_I, qB_1, qZb_n, true_and, and_true, forall_const, not_true_eq_false, not_false_eq_true, Nat.reduceLT, Nat.reduceLeDiff, Nat.reduceEqDiff, Nat.reduceAdd, Nat.reduceMul, Nat.reduceSub, Nat.reduceMod, Nat.reduceDiv, false_implies, implies_true, ec, m1]
        rw [show ns.length + 1 + ts.length - 1 = ns.length + ts.length by omega, hy, hx]
        refine ⟨fun g => by omega, fun _ => ⟨fun g => by omega, fun _ => ⟨by omega, fun _ => ⟨fun g => by omega, fun _ => ⟨fun _ => ⟨fun g => by omega, fun _ => ⟨by omega, by omega, ?_⟩⟩, fun g => by omega⟩⟩, fun g => by omega⟩⟩⟩
        refine c_join2 hd h1 h2 hmx hmy ⟨by omega, ?_⟩
        exact nx (op2 o x y :: ns) ts _ ht (fun z hz => by
          rcases List.mem_cons.mp hz with rfl | hz
          · exact mil_op2 o hmx
          · exact hm z (List.mem_cons_of_mem _ (List.mem_cons_of_mem _ hz))) (by rw [← hl2]; exact stI_push hs.2.2) (fr_I hf rfl) (by
            intro w'' hw
            have := hQ w'' hw
            unfold evc at this
            rw [if_neg (by omega), if_neg (by omega), if_neg (by omega), if_pos (by omega)] at this
            exact this)
    · match ns, h3 with
      | [y, x], _ =>
        have e0 : enc (o, v) = 10005 + o := by
          unfold enc
          simp only []
          rw [if_neg (by omega), if_neg (by omega), if_neg (by omega), if_neg (by omega), if_pos (by omega)]
        rw [e0] at ec
        have hl3 : (List.map iZ [x] ++ List.map tI ts).length = 1 + ts.length := by rw [map_add_len]; rfl
        have hl2 : (List.map tI ts).length = ts.length := by simp
        have hy : w'.1 49 (1 + ts.length) = iZ y := by rw [← hl3]; exact hs.1
        have hx : w'.1 49 (ts.length) = iZ x := by rw [← hl2]; exact hs.2.1
        have hmy := hm y List.mem_cons_self
        have hmx := hm x (List.mem_cons_of_mem _ List.mem_cons_self)
        have e2 : [y, x].length = 2 := rfl
        rw [e2] at h50 ⊢
        have m1 : nI (2 + ts.length) + (-(nI 1)) = nI (1 + ts.length) := by
          rw [show 2 + ts.length = 1 + ts.length + 1 by omega]; exact pk_m1 _
        simp (disch := omega) only [li, ll, nI_add, nI_mul', nI_sub', nI_div', qRem_nI, lN_add, lN_mul, lN_sub, lN_div', qRemL_lN, qIn_I, qIx_nI, nI_ltI, nI_leI, nI_eq, nI_eqn, nI_eqn', nI_len, nI_ltn, nI_nle', nI_nlt', lN_eqn, lg_lt, lg_gt, lg_eq, lg_le, lg_ge, lgn_lt, lgn_gt, lgn_eq, lgn_le, lgn_ge, pk_lLT, pk_lLE, pk_lEQ, nI_l, lN_i, qShl_n, nI_and, nI_or, lN_and, lN_or, nI_andn, lN_andn, pI_e, pI_f, pI_c, pL_e, pL_f, pL_c, pI_L, pL_I, qB_1, qZb_n, true_and, and_true, forall_const, not_true_eq_false, not_false_eq_true, Nat.reduceLT, Nat.reduceLeDiff, Nat.reduceEqDiff, Nat.reduceAdd, Nat.reduceMul, Nat.reduceSub, Nat.reduceMod, Nat.reduceDiv, false_implies, implies_true, ec, m1]
        rw [show 1 + ts.length - 1 = ts.length by omega, hy, hx]
        refine ⟨fun g => by omega, fun _ => ⟨fun g => by omega, fun _ => ⟨by omega, fun _ => ⟨fun g => by omega, fun _ => ⟨fun _ => ⟨fun g => by omega, fun _ => ⟨by omega, by omega, ?_⟩⟩, fun g => by omega⟩⟩, fun g => by omega⟩⟩⟩
        refine c_joinc hd h1 h2 hmx hmy ⟨by omega, ?_⟩
        have p := nx [] (opc o x y :: ts) (qPutI w' 49 ts.length (nI (opc o x y).toNat)) ht (fun z hz => by cases hz) (by
            have : stI (qPutI w' 49 (List.map tI ts).length (tI (opc o x y))) 49 (tI (opc o x y) :: List.map tI ts) := stI_push hs.2.2
            rw [hl2] at this
            exact this) (fr_I hf rfl) (by
            intro w'' hw
            have := hQ w'' hw
            unfold evc at this
            rw [if_neg (by omega), if_neg (by omega), if_neg (by omega), if_neg (by omega), if_pos (by omega)] at this
            exact this)
        rw [List.length_nil, List.length_cons, show 0 + (ts.length + 1) = 1 + ts.length by omega] at p
        exact p
    · match ns, ts, h2, h3 with
      | [], t :: ts, _, _ =>
        have e0 : enc (20, v) = 10023 := rfl
        rw [e0] at ec
        have hl2 : (List.map tI ts).length = ts.length := by simp
        have hx : w'.1 49 ts.length = tI t := by rw [← hl2]; exact hs.1
        rw [List.length_nil, List.length_cons, Nat.zero_add] at h50 ⊢
        simp (disch := omega) only [li, ll, nI_add, nI_mul', nI_sub', nI_div', qRem_nI, lN_add, lN_mul, lN_sub, lN_div', qRemL_lN, qIn_I, qIx_nI, nI_ltI, nI_leI, nI_eq, nI_eqn, nI_eqn', nI_len, nI_ltn, nI_nle', nI_nlt', lN_eqn, lg_lt, lg_gt, lg_eq, lg_le, lg_ge, lgn_lt, lgn_gt, lgn_eq, lgn_le, lgn_ge, pk_lLT, pk_lLE, pk_lEQ, nI_l, lN_i, qShl_n, nI_and, nI_or, lN_and, lN_or, nI_andn, lN_andn, pI_e, pI_f, pI_c, pL_e, pL_f, pL_c, pI_L, pL_I, qB_1, qZb_n, true_and, and_true, forall_const, not_true_eq_false, not_false_eq_true, Nat.reduceLT, Nat.reduceLeDiff, Nat.reduceEqDiff, Nat.reduceAdd, Nat.reduceMul, Nat.reduceSub, Nat.reduceMod, Nat.reduceDiv, false_implies, implies_true, ec]
        refine ⟨fun g => by omega, fun _ => ⟨fun g => by omega, fun _ => ⟨by omega, G_Machine_run_101 hc ?_⟩⟩⟩
        simp (disch := omega) only [li, ll, nI_add, nI_mul', nI_sub', nI_div', qRem_nI, lN_add, lN_mul, lN_sub, lN_div', qRemL_lN, qIn_I, qIx_nI, nI_ltI, nI_leI, nI_eq, nI_eqn, nI_eqn', nI_len, nI_ltn, nI_nle', nI_nlt', lN_eqn, lg_lt, lg_gt, lg_eq, lg_le, lg_ge, lgn_lt, lgn_gt, lgn_eq, lgn_le, lgn_ge, pk_lLT, pk_lLE, pk_lEQ, nI_l, lN_i, qShl_n, nI_and, nI_or, lN_and, lN_or, nI_andn, lN_andn, pI_e, pI_f, pI_c, pL_e, pL_f, pL_c, pI_L, pL_I, qB_1, qZb_n, true_and, and_true, forall_const, not_true_eq_false, not_false_eq_true, Nat.reduceLT, Nat.reduceLeDiff, Nat.reduceEqDiff, Nat.reduceAdd, Nat.reduceMul, Nat.reduceSub, Nat.reduceMod, Nat.reduceDiv, false_implies, implies_true]
        refine ⟨by omega, by omega, ?_⟩
        rw [show ts.length + 1 - 1 = ts.length by omega, hx]
        have et : nI 1 - tI t = tI (!t) := by cases t <;> decide
        rw [et]
        have p := nx [] ((!t) :: ts) (qPutI w' 49 ts.length (tI (!t))) ht (fun z hz => by cases hz) (by
            have : stI (qPutI w' 49 (List.map tI ts).length (tI (!t))) 49 (tI (!t) :: List.map tI ts) := stI_push hs.2
            rw [hl2] at this
            exact this) (fr_I hf rfl) hQ
        rw [List.length_nil, List.length_cons, Nat.zero_add] at p
        exact p
    · match ns, ts, h2, h3 with
      | [], u :: t :: ts, _, _ =>
        have hl2 : (List.map tI ts).length = ts.length := by simp
        have hl3 : (List.map tI (t :: ts)).length = ts.length + 1 := by simp
        have hu : w'.1 49 (ts.length + 1) = tI u := by rw [← hl3]; exact hs.1
        have hx : w'.1 49 ts.length = tI t := by rw [← hl2]; exact hs.2.1
        rw [List.length_nil, List.length_cons, List.length_cons, Nat.zero_add] at h50 ⊢
        have m1 : nI (ts.length + 1 + 1) + (-(nI 1)) = nI (ts.length + 1) := pk_m1 _
        rcases h1 with rfl | rfl
        · have e0 : enc (21, v) = 10021 := rfl
          rw [e0] at ec
          simp (disch := omega) only [li, ll, nI_add, nI_mul', nI_sub', nI_div', qRem_nI, lN_add, lN_mul, lN_sub, lN_div', qRemL_lN, qIn_I, qIx_nI, nI_ltI, nI_leI, nI_eq, nI_eqn, nI_eqn', nI_len, nI_ltn, nI_nle', nI_nlt', lN_eqn, lg_lt, lg_gt, lg_eq, lg_le, lg_ge, lgn_lt, lgn_gt, lgn_eq, lgn_le, lgn_ge, pk_lLT, pk_lLE, pk_lEQ, nI_l, lN_i, qShl_n, nI_and, nI_or, lN_and, lN_or, nI_andn, lN_andn, pI_e, pI_f, pI_c, pL_e, pL_f, pL_c, pI_L, pL_I, qB_1, qZb_n, true_and, and_true, forall_const, not_true_eq_false, not_false_eq_true, Nat.reduceLT, Nat.reduceLeDiff, Nat.reduceEqDiff, Nat.reduceAdd, Nat.reduceMul, Nat.reduceSub, Nat.reduceMod, Nat.reduceDiv, false_implies, implies_true, ec, m1]
          rw [show ts.length + 1 - 1 = ts.length by omega, hu, hx]
          refine ⟨fun g => by omega, fun _ => ⟨fun g => by omega, fun _ => ⟨by omega, by omega, by omega, c_joinA (by omega) ⟨by omega, ?_⟩⟩⟩⟩
          have p := nx [] ((t && u) :: ts) (qPutI w' 49 ts.length (tI (t && u))) ht (fun z hz => by cases hz) (by
              have : stI (qPutI w' 49 (List.map tI ts).length (tI (t && u))) 49 (tI (t && u) :: List.map tI ts) := stI_push hs.2.2
              rw [hl2] at this
              exact this) (fr_I hf rfl) hQ
          rw [List.length_nil, List.length_cons, Nat.zero_add] at p
          exact p
        · have e0 : enc (22, v) = 10022 := rfl
          rw [e0] at ec
          simp (disch := omega) only [li, ll, nI_add, nI_mul', nI_sub', nI_div', qRem_nI, lN_add, lN_mul, lN_sub, lN_div', qRemL_lN, qIn_I, qIx_nI, nI_ltI, nI_leI, nI_eq, nI_eqn, nI_eqn', nI_len, nI_ltn, nI_nle', nI_nlt', lN_eqn, lg_lt, lg_gt, lg_eq, lg_le, lg_ge, lgn_lt, lgn_gt, lgn_eq, lgn_le, lgn_ge, pk_lLT, pk_lLE, pk_lEQ, nI_l, lN_i, qShl_n, nI_and, nI_or, lN_and, lN_or, nI_andn, lN_andn, pI_e, pI_f, pI_c, pL_e, pL_f, pL_c, pI_L, pL_I, qB_1, qZb_n, true_and, and_true, forall_const, not_true_eq_false, not_false_eq_true, Nat.reduceLT, Nat.reduceLeDiff, Nat.reduceEqDiff, Nat.reduceAdd, Nat.reduceMul, Nat.reduceSub, Nat.reduceMod, Nat.reduceDiv, false_implies, implies_true, ec, m1]
          rw [show ts.length + 1 - 1 = ts.length by omega, hu, hx]
          refine ⟨fun g => by omega, fun _ => ⟨fun g => by omega, fun _ => ⟨by omega, by omega, by omega, c_joinO (by omega) ⟨by omega, ?_⟩⟩⟩⟩
          have p := nx [] ((t || u) :: ts) (qPutI w' 49 ts.length (tI (t || u))) ht (fun z hz => by cases hz) (by
              have : stI (qPutI w' 49 (List.map tI ts).length (tI (t || u))) 49 (tI (t || u) :: List.map tI ts) := stI_push hs.2.2
              rw [hl2] at this
              exact this) (fr_I hf rfl) hQ
          rw [List.length_nil, List.length_cons, Nat.zero_add] at p
          exact p
theorem c_run {c f : Nat} {r : List (Nat × Nat)} (hd : 3 ≤ d) (hc : txc c) {b : Bool} {nm : Nat → Int} (hnm : ∀ k, k < 7 → b = decide (k < 4) → w.1 48 k = iZ (nm k) ∧ mil (nm k)) (he : f + r.length ≤ 300) (ht : tyc b r 0 0) (hcd : ∀ j, j < r.length → w.1 (c + 4) (f + j) = nI (enc (r.getD j (0, 0)))) (hQ : ∀ w'', fr (fun c => c = 49) w w'' → Q (resB b (evc nm r [] [])) w'') : qCall (some s) d 20 [.ref 47, .ref c, .int (nI f), .int (nI (f + r.length))] w (qQi Q) := by
  obtain ⟨d, rfl, hd1⟩ := dS hd
  obtain ⟨d2, rfl, -⟩ := dS hd1
  refine G_Machine_run hc (A_Math_max ?_)
  simp (disch := omega) only [li, ll, nI_add, nI_mul', nI_sub', nI_div', qRem_nI, lN_add, lN_mul, lN_sub, lN_div', qRemL_lN, qIn_I, qIx_nI, nI_ltI, nI_leI, nI_eq, nI_eqn, nI_eqn', nI_len, nI_ltn, nI_nle', nI_nlt', lN_eqn, lg_lt, lg_gt, lg_eq, lg_le, lg_ge, lgn_lt, lgn_gt, lgn_eq, lgn_le, lgn_ge, pk_lLT, pk_lLE, pk_lEQ, nI_l, lN_i, qShl_n, nI_and, nI_or, lN_and, lN_or, nI_andn, lN_andn, pI_e, pI_f, pI_c, pL_e, pL_f, pL_c, pI_L, pL_I, qB_1, qZb_n, true_and, and_true, forall_const, not_true_eq_false, not_false_eq_true, Nat.reduceLT, Nat.reduceLeDiff, Nat.reduceEqDiff, Nat.reduceAdd, Nat.reduceMul, Nat.reduceSub, Nat.reduceMod, Nat.reduceDiv, false_implies, implies_true]
  have p := run_loop (s := s) (Q := Q) hd1 hc hnm he r f [] [] w ht (fun x hx => by cases hx) trivial (fr_rf _ _) hcd rfl hQ
  refine ⟨fun _ => p, fun g => ?_⟩
  have e : f = 0 := by omega
  subst e
  exact p
end Run
