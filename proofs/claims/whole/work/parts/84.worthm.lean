/-! Worths: the reference. -/
section WorthM
variable {s : Nat × (Nat → Int32)} {d : Nat} {w : qW} {Q : Int32 → qW → Prop} {QL : Int64 → qW → Prop} {R : qW → Prop} {N S K : vS} {T : Nat → vT} {Z : vZ}
/-- now, but for numbers -/
def nrm (S N : vS) : Prop := ∀ a, ¬ a = 10 → ∀ i, S a i = N a i
theorem nrm_rf (N : vS) : nrm N N := fun _ _ _ => rfl
theorem tkA_fr2 {w w' : qW} {A : Nat → Prop} (h : tkA w T S) (f : fr A w w') (hA : ∀ c, 83 ≤ c → c ≤ 86 → ¬ A c) : tkA w' T S := by
  intro p hp
  have k := h p hp
  refine tk1.mk ?_ ?_ ?_ ?_
  · rw [(f 83 (hA 83 (by omega) (by omega))).1]; exact k.num
  · rw [(f 84 (hA 84 (by omega) (by omega))).1]; exact k.fst
  · rw [(f 85 (hA 85 (by omega) (by omega))).1]; exact k.cls
  · rw [(f 86 (hA 86 (by omega) (by omega))).1]; exact k.dun
theorem rQ.keep2 {w w' : qW} {A : Nat → Prop} (h : rQ w N K T Z S) (hf : fr A w w') (hA : ∀ c, (72 ≤ c → c ≤ 78 → ¬ A c) ∧ (83 ≤ c → c ≤ 86 → ¬ A c)) : rQ w' N K T Z S := rQ.mk (h.x.keep hf (fun c h1 h2 => (hA c).1 h1 h2)) h.al h.ok (tkA_fr2 h.tk hf (fun c h1 h2 => (hA c).2 h1 h2))
def wmA (c : Nat) : Prop := c = 72 ∨ c = 80 ∨ c = 81 ∨ c = 82 ∨ c = 87
theorem m_worthOf {k : Nat} (hd : 6 ≤ d) (hR : rQ w N K T Z S) (hS : nrm S N) (hk : k < N 7 0) (hQ : ∀ w', rQ w' N K T Z S → fr wmA w w' → Q (iZ (wtF T S k)) w') : qCall (some s) d 302 [.ref 72, .int (nI k)] w (qQi Q) := by
  obtain ⟨d, rfl, hd1⟩ := dS hd
  have o := hR.ok
  have o0 := o.p12
  have o7 := o.nds
  have k7 : k < S 7 0 := by rw [hS 7 (by decide) 0]; exact hk
  have on := o.need k k7
  have hL := tL
  obtain ⟨s1, s2, s3⟩ := need_set o k7
  have r := hR.x.n
  have e14 := r.ndA k hk
  have e15 := r.ndB k hk
  have e17 := r.ndh k hk
  rw [← hS 14 (by decide) k] at e14
  rw [← hS 15 (by decide) k] at e15
  rw [← hS 17 (by decide) k] at e17
  refine A_Mo_worthOf ?_
  rw [show (65 : Int32) = nI 65 from rfl, show (4 : Int32) = nI 4 from rfl, nI_mul', nI_add, show nI (65 + 4 * k) + (1 : Int32) = nI (65 + 4 * k + 1) from nI_1 _, show nI (65 + 4 * k) + (3 : Int32) = nI (65 + 4 * k + 3) from nI_add _ 3, show nI (65 + 4 * k) + (2 : Int32) = nI (65 + 4 * k + 2) from nI_add _ 2, qIx_nI (by omega), qIx_nI (by omega), qIx_nI (by omega), qIx_nI (by omega), e14, e15, e17, show (1 : Int32) = nI 1 from rfl, qShl_n (by omega), qShl_n (by omega), nI_or, nI_l (by omega)]
  refine ⟨qIn_nI (by omega) (by decide), qIn_nI (by omega) (by decide), qIn_nI (by omega) (by decide), m_togetherOf (h := 0) (by omega) hR s3 (by omega) (by omega) ?_⟩
  intro w2 hR2 f2
  have gb : tgF T S (2 ^ S 14 k ||| 2 ^ S 15 k) 0 (S 17 k) ≤ S 17 k := tgF_le _ _ _ _ _
  have eg : tgF T S (2 ^ S 14 k ||| 2 ^ S 15 k) 0 (S 17 k) = gotF T S k := rfl
  rw [eg] at gb ⊢
  have r2 := hR2.x.n
  have e16 := r2.nda k hk
  have e17' := r2.ndh k hk
  rw [← hS 16 (by decide) k] at e16
  rw [← hS 17 (by decide) k] at e17'
  rw [lN_i, show qIx (nI (65 + 4 * k + 2)) = 65 + 4 * k + 2 from qIx_nI (by omega), e16, e17', show qIx (5 : Int32) = 5 from rfl, show qIx (6 : Int32) = 6 from rfl]
  refine ⟨qIn_nI (by decide) (by decide), qIn_nI (by omega) (by decide), qIn_nI (j := 5) (by decide) (by decide), qIn_nI (by omega) (by decide), qIn_nI (j := 6) (by decide) (by decide), ?_⟩
  have f3 : fr (fun c => c = 80) w2 (qPutI (qPutI (qPutI w2 80 4 (nI (gotF T S k))) 80 5 (nI (S 16 k))) 80 6 (nI (S 17 k))) := fr_I (fr_I (fr_pI rfl) rfl) rfl
  generalize hw3 : qPutI (qPutI (qPutI w2 80 4 (nI (gotF T S k))) 80 5 (nI (S 16 k))) 80 6 (nI (S 17 k)) = w3 at *
  have m4 : w3.1 80 4 = nI (gotF T S k) := by rw [← hw3]; simp (disch := omega) only [li, ll, nI_add, nI_mul', nI_sub', nI_div', qRem_nI, lN_add, lN_mul, lN_sub, lN_div', qRemL_lN, qIn_I, qIx_nI, nI_ltI, nI_leI, nI_eq, nI_eqn, nI_eqn', nI_len, nI_ltn, nI_nle', nI_nlt', lN_eqn, lg_lt, lg_gt, lg_eq, lg_le, lg_ge, lgn_lt, lgn_gt, lgn_eq, lgn_le, lgn_ge, pk_lLT, pk_lLE, pk_lEQ, nI_l, lN_i, qShl_n, nI_and, nI_or, lN_and, lN_or, nI_andn, lN_andn, pI_e, pI_f, pI_c, pL_e, pL_f, pL_c, pI_L, pL_I, qB_1, qZb_n, true_and, and_true, forall_const, not_true_eq_false, not_false_eq_true, Nat.reduceLT, Nat.reduceLeDiff, Nat.reduceEqDiff, Nat.reduceAdd, Nat.reduceMul, Nat.reduceSub, Nat.reduceMod, Nat.reduceDiv, false_implies, implies_true]
  have m5 : w3.1 80 5 = nI (S 16 k) := by rw [← hw3]; simp (disch := omega) only [li, ll, nI_add, nI_mul', nI_sub', nI_div', qRem_nI, lN_add, lN_mul, lN_sub, lN_div', qRemL_lN, qIn_I, qIx_nI, nI_ltI, nI_leI, nI_eq, nI_eqn, nI_eqn', nI_len, nI_ltn, nI_nle', nI_nlt', lN_eqn, lg_lt, lg_gt, lg_eq, lg_le, lg_ge, lgn_lt, lgn_gt, lgn_eq, lgn_le, lgn_ge, pk_lLT, pk_lLE, pk_lEQ, nI_l, lN_i, qShl_n, nI_and, nI_or, lN_and, lN_or, nI_andn, lN_andn, pI_e, pI_f, pI_c, pL_e, pL_f, pL_c, pI_L, pL_I, qB_1, qZb_n, true_and, and_true, forall_const, not_true_eq_false, not_false_eq_true, Nat.reduceLT, Nat.reduceLeDiff, Nat.reduceEqDiff, Nat.reduceAdd, Nat.reduceMul, Nat.reduceSub, Nat.reduceMod, Nat.reduceDiv, false_implies, implies_true]
  have m6 : w3.1 80 6 = nI (S 17 k) := by rw [← hw3]; simp (disch := omega) only [li, ll, nI_add, nI_mul', nI_sub', nI_div', qRem_nI, lN_add, lN_mul, lN_sub, lN_div', qRemL_lN, qIn_I, qIx_nI, nI_ltI, nI_leI, nI_eq, nI_eqn, nI_eqn', nI_len, nI_ltn, nI_nle', nI_nlt', lN_eqn, lg_lt, lg_gt, lg_eq, lg_le, lg_ge, lgn_lt, lgn_gt, lgn_eq, lgn_le, lgn_ge, pk_lLT, pk_lLE, pk_lEQ, nI_l, lN_i, qShl_n, nI_and, nI_or, lN_and, lN_or, nI_andn, lN_andn, pI_e, pI_f, pI_c, pL_e, pL_f, pL_c, pI_L, pL_I, qB_1, qZb_n, true_and, and_true, forall_const, not_true_eq_false, not_false_eq_true, Nat.reduceLT, Nat.reduceLeDiff, Nat.reduceEqDiff, Nat.reduceAdd, Nat.reduceMul, Nat.reduceSub, Nat.reduceMod, Nat.reduceDiv, false_implies, implies_true]
  have f3' : fr wmA w w3 := fr_tr (fr_wk f2 (fun c hc => by unfold wmA; omega)) (fr_wk f3 (fun c hc => by unfold wmA; omega))
  have hR3 := hR2.keep2 f3 (fun c => ⟨fun _ _ => by omega, fun _ _ => by omega⟩)
  have a4 := hR.al.2.2.2
  have ermS : rul T S = rul T N := by unfold rul; rw [a4]
  have fin : (if S 4 0 = 0 then none else wcl (rul T S)) = none → ∀ kk, kk = (if N 4 0 = 0 then 0 else (rul T N).1) → qAt s d c_Mo_worthOf (qQi Q) 81 [some (.ref 72), none, some (.int (nI (65 + 4 * k))), some (.int (nI (gotF T S k))), some (.int (nI kk))] [] w3 := by
    intro hn kk hkk
    have hz := hQ w3 hR3 f3'
    unfold wtF at hz
    rw [hn] at hz
    have hz : Q (iZ (if S 16 k ≤ gotF T S k then 1 else 0)) w3 := hz
    refine A_Mo_worthOf_81 (m_clauses (by omega) hR3.x ?_)
    rw [← hkk]
    have e16'' := hR3.x.n.nda k hk
    rw [← hS 16 (by decide) k] at e16''
    rw [show nI (65 + 4 * k) + (2 : Int32) = nI (65 + 4 * k + 2) from nI_add _ 2, qIx_nI (by omega), e16'', nI_ltI (by omega) (by omega)]
    refine ⟨fun _ => ⟨qIn_nI (by omega) (by decide), fun g => ?_, fun g => ?_⟩, fun g => absurd (Int32.le_refl _) g⟩
    · rw [if_neg (by omega)] at hz; exact hz
    · rw [if_pos (by omega)] at hz; exact hz
  by_cases h0 : N 4 0 = 0
  · exact fin (by rw [if_pos (by omega)]) 0 (by rw [if_pos h0])
  · obtain ⟨i, ei4⟩ : ∃ i, N 4 0 = i + 1 := ⟨N 4 0 - 1, by omega⟩
    have er : rul T N = T i := by unfold rul; rw [ei4]; rfl
    have i3 : i < N 3 0 := by have := hR.x.okn.rul; omega
    have ot := hR.x.okt i i3
    have hn24 := ot.nc
    refine lpN (i := 0) (n := (T i).1) (P := fun kk => (∀ j, j < kk → ¬ ((T i).2.1 j).1 = 2) → qAt s d c_Mo_worthOf (qQi Q) 81 [some (.ref 72), none, some (.int (nI (65 + 4 * k))), some (.int (nI (gotF T S k))), some (.int (nI kk))] [] w3) ?_ ?_ (Nat.zero_le _) (fun j hj => absurd hj (Nat.not_lt_zero _))
    · intro no
      exact fin (by rw [if_neg (by omega), ermS, er]; exact wcl_none no) _ (by rw [if_neg h0, er])
    · intro kk hkk ih no
      refine A_Mo_worthOf_81 (m_clauses (by omega) hR3.x ?_)
      rw [if_neg h0, er, nI_leI (by omega) (by omega), nI_1]
      refine ⟨fun g => absurd g (by omega), fun _ => m_sortAt (by omega) hR3.x ei4 i3 hkk ?_⟩
      have hk4 := ot.kind kk hkk
      rw [show (2 : Int32) = nI 2 from rfl, nI_eq (by omega) (by omega)]
      refine ⟨fun g2 => ?_, fun g2 => ih (fun j hj => ?_)⟩
      · have hw : (if S 4 0 = 0 then none else wcl (rul T S)) = some kk := by rw [if_neg (by omega), ermS, er]; exact wcl_some ot hkk g2
        have hm : ∀ j, j < 7 → false = decide (j < 4) → w3.1 80 j = iZ (nmW (gotF T S k) (S 16 k) (S 17 k) j) ∧ mil (nmW (gotF T S k) (S 16 k) (S 17 k) j) := by
          intro j hj hb
          have : ¬ j < 4 := of_decide_eq_false hb.symm
          have : j = 4 ∨ j = 5 ∨ j = 6 := by omega
          rcases this with rfl | rfl | rfl
          · rw [m4]; exact ⟨nI_Z _, by show mil (gotF T S k : Int); unfold mil; omega⟩
          · rw [m5]; exact ⟨nI_Z _, by show mil (S 16 k : Int); unfold mil; omega⟩
          · rw [m6]; exact ⟨nI_Z _, by show mil (S 17 k : Int); unfold mil; omega⟩
        refine m_work (b := false) (by omega) hR3.x ei4 i3 hkk g2 hm ?_
        intro w4 f4 _ hv
        have hv := hv rfl
        have hmil := mil_hd (evc_mil (b := false) (fun j hj hb => (hm j hj hb).2) _ [] [] _ _ (ot.p2 kk hkk g2) (fun x hx => by cases hx))
        have hz := hQ w4 (hR3.keep2 f4 (fun c => ⟨fun _ _ => by omega, fun _ _ => by omega⟩)) (fr_tr f3' (fr_wk f4 (fun c hc => by unfold wmA; omega)))
        unfold wtF at hz
        rw [hw, ermS, er] at hz
        have hz : Q (iZ (cl9 ((evc (nmW (gotF T S k) (S 16 k) (S 17 k)) ((T i).2.2 kk) [] []).1.headD 0))) w4 := hz
        obtain ⟨q1, q2⟩ := hmil
        generalize (evc (nmW (gotF T S k) (S 16 k) (S 17 k)) ((T i).2.2 kk) [] []).1.headD 0 = z at *
        rw [qIx_0, hv, show (-9999 : Int64) = lZ (-9999) from rfl, show (9999 : Int64) = lZ 9999 from rfl, lg_ge, lg_le, lZ_le (by omega) (by omega), lZ_le (by omega) (by omega), lZ_i]
        have i0 : qIn (0 : Int32) 330 := qIn_0 (by decide) (by decide)
        unfold cl9 at hz
        refine ⟨i0, fun g3 => ⟨i0, fun g4 => ⟨i0, ?_⟩, fun g4 => ?_⟩, fun g3 => ?_⟩
        · rw [if_neg (by omega), if_neg (by omega)] at hz; exact hz
        · rw [if_neg (by omega), if_pos (by omega)] at hz; exact hz
        · rw [if_pos (by omega)] at hz; exact hz
      · by_cases e : j = kk
        · subst e; exact g2
        · exact no j (by omega)
theorem m_worthOfAll (hd : 7 ≤ d) (hR : rQ w N K T Z S) (hS : nrm S N) (hQ : ∀ w', rQ w' N K T Z S → fr wmA w w' → Q (iZ (wtT T S (N 7 0))) w') : qCall (some s) d 301 [.ref 72] w (qQi Q) := by
  obtain ⟨d, rfl, hd1⟩ := dS hd
  have o7 := hR.x.okn.nds
  refine A_Mo_worthOfAll ?_
  refine lpU (i := 0) (n := N 7 0) (I := fun i w2 => rQ w2 N K T Z S ∧ fr wmA w w2) (P := fun i w2 => qAt s d c_Mo_worthOfAll (qQi Q) 4 [some (.ref 72), some (.int (iZ (wtT T S i))), some (.int (nI i))] [] w2) ?_ ?_ (Nat.zero_le _) ⟨hR, fr_rf _ _⟩
  · intro w2 ⟨hR2, f2⟩
    refine A_Mo_worthOfAll_4 ?_
    have e : w2.1 73 7 = nI (N 7 0) := hR2.x.n.nds
    rw [show qIx (7 : Int32) = 7 from rfl, e]
    exact ⟨qIn_nI (j := 7) (by decide) (by decide), fun _ => hQ w2 hR2 f2, fun g => absurd (Int32.le_refl _) g⟩
  · intro i w2 hi ⟨hR2, f2⟩ ih
    refine A_Mo_worthOfAll_4 ?_
    have e : w2.1 73 7 = nI (N 7 0) := hR2.x.n.nds
    rw [show qIx (7 : Int32) = 7 from rfl, e, nI_leI (by omega) (by omega), nI_1]
    refine ⟨qIn_nI (j := 7) (by decide) (by decide), fun g => absurd g (by omega), fun _ => m_worthOf (by omega) hR2 hS hi (fun w3 hR3 f3 => ?_)⟩
    rw [iZ_add]
    exact ih w3 ⟨hR3, fr_tr f2 f3⟩
theorem m_worth {k : Int32} (hd : 8 ≤ d) (hX : rM w N K T Z) (hy : ∀ w', vWth N k → rM w' N K T Z → fr (fun c => 72 ≤ c) w w' → Q (fWth T N k) w') (hn : ¬ vWth N k → Q (-1000000) w) : qCall (some s) d 300 [.ref 72, .int k] w (qQi Q) := by
  obtain ⟨d, rfl, hd1⟩ := dS hd
  have o7 := hX.okn.nds
  have key : (-1 ≤ k ∧ k ≤ nI (N 7 0) - 1) ↔ vWth N k := by
    unfold vWth
    rw [show (nI (N 7 0) - 1 : Int32) = nI (N 7 0) - nI 1 from rfl, le_pred (by omega)]
  refine A_Mo_worth ⟨qIn_nI (j := 7) (by decide) (by decide), ?_⟩
  rw [show qIx (7 : Int32) = 7 from rfl, hX.n.nds]
  refine m_isInB (by omega) (fun g => n1 ?_) (fun g => n0 (hn (fun q => g (key.mpr q))))
  have g := key.mp g
  refine m_take' (by omega) hX ?_
  intro w2 f2 hX2 t2
  have hR := rQ_of hX2 t2
  have f2' : fr (fun c => 72 ≤ c) w w2 := fr_wk f2 (fun c hc => by omega)
  unfold fWth at hy
  refine ⟨fun k0 => ?_, fun k0 => ?_⟩
  · obtain ⟨j, hj, rfl⟩ := nI_of (Int32.not_lt.mpr k0)
    have : ¬ nI j = -1 := by
      intro q
      have q : nI j = -(nI 1) := q
      rw [nI_eqn hj (by omega) (by omega)] at q
      exact q
    rw [if_neg this, qIx_nI hj] at hy
    refine m_worthOf (by omega) hR (nrm_rf N) ((nI_ltI hj (by omega)).mp g.2) ?_
    intro w3 hR3 f3
    exact hy w3 g hR3.x (fr_tr f2' (fr_wk f3 (fun c hc => by unfold wmA at hc; omega)))
  · have : k = -1 := by
      have h1 := Int32.le_iff_toInt_le.mp g.1
      have h2 := Int32.lt_iff_toInt_lt.mp (Int32.not_le.mp k0)
      rw [show (-1 : Int32).toInt = -1 by decide] at h1
      rw [show (0 : Int32).toInt = 0 by decide] at h2
      exact Int32.toInt_inj.mp (by rw [show (-1 : Int32).toInt = -1 by decide]; omega)
    rw [if_pos this] at hy
    refine m_worthOfAll hd1 hR (nrm_rf N) ?_
    intro w3 hR3 f3
    exact hy w3 g hR3.x (fr_tr f2' (fr_wk f3 (fun c hc => by unfold wmA at hc; omega)))
end WorthM
