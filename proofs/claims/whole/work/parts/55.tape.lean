/-! end, fault, feed, about, image and the copies; both sides. -/
section Tape
variable {s : Nat × (Nat → Int32)} {d : Nat} {w : qW} {Q : Int32 → qW → Prop} {N K : vS} {T : Nat → vT} {Z : vZ}
theorem rX.tap {w w' : qW} {Z' : vZ} (h : rX w N K T Z) (hf : fr (fun c => c = 25 ∨ c = 26) w w') (hl : w'.1 25 1 = nI Z'.1) (h3 : Z'.1 ≤ 300) (ht : ∀ j, j < Z'.1 → w'.1 26 j = nI (Z'.2.1 j)) (hb : ∀ j, j < Z'.1 → Z'.2.1 j < 256) (h2 : w'.1 25 2 = Z'.2.2.1) (hp : w'.1 25 3 = Z'.2.2.2) : rX w' N K T Z' := by
  have e : ∀ c, ¬ c = 25 → ¬ c = 26 → w'.1 c = w.1 c ∧ w'.2.1 c = w.2.1 c := fun c h1 h2 => hf c (by omega)
  have o := h.okn.txs
  exact rX.mk (rS_fr h.n fun k hk => e _ (by omega) (by omega)) (rS_fr h.k fun k hk => e _ (by omega) (by omega)) h.okn h.okk h.kt (fun i hi => rT_fr (h.t i hi) fun k hk => (e _ (by omega) (by omega)).1) h.okt hl h3 ht hb h2 hp (by rw [(e 51 (by decide) (by decide)).1]; exact h.opn) (by rw [(e 51 (by decide) (by decide)).1]; exact h.op2)
theorem rM.tap {w w' : qW} {Z' : vZ} (h : rM w N K T Z) (hf : fr (fun c => c = 72 ∨ c = 78) w w') (hl : w'.1 72 6 = nI Z'.1) (h3 : Z'.1 ≤ 300) (ht : ∀ j, j < Z'.1 → w'.1 78 j = nI (Z'.2.1 j)) (hb : ∀ j, j < Z'.1 → Z'.2.1 j < 256) (h2 : w'.1 72 7 = Z'.2.2.1) (hp : w'.1 72 8 = Z'.2.2.2) : rM w' N K T Z' := by
  have e : ∀ c, ¬ c = 72 → ¬ c = 78 → w'.1 c = w.1 c ∧ w'.2.1 c = w.2.1 c := fun c h1 h2 => hf c (by omega)
  exact rM.mk (rR_fr h.n (e 73 (by decide) (by decide)).1 (e 75 (by decide) (by decide)).2) (rR_fr h.k (e 74 (by decide) (by decide)).1 (e 76 (by decide) (by decide)).2) h.okn h.okk h.kt (fun i hi => rU_fr (h.t i hi) (e 77 (by decide) (by decide)).1) h.okt hl h3 ht hb h2 hp
def vEn (Z : vZ) (n : Int32) : Prop := 0 ≤ n ∧ n ≤ nI Z.1
def zEnd (Z : vZ) (n : Int32) : vZ := (qIx n, Z.2)
theorem c_end {n : Int32} (hd : 1 ≤ d) (hX : rX w N K T Z) (hy : ∀ w', vEn Z n → rX w' N K T (zEnd Z n) → fr (fun c => c < 72) w w' → Q n w') (hn : ¬ vEn Z n → Q (-1) w) : qCall (some s) d 38 [.ref 1, .int n] w (qQi Q) := by
  obtain ⟨d, rfl, -⟩ := dS hd
  have l3 := hX.l300
  refine A_X_end ⟨fun g => hn (fun q => absurd g (Int32.not_lt.mpr q.1)), fun g => ?_⟩
  rw [hX.len]
  refine ⟨fun g2 => ?_, fun g2 => hn (fun q => g2 q.2)⟩
  have gg : vEn Z n := ⟨Int32.not_lt.mp g, g2⟩
  obtain ⟨x, hx, hx2, e, e2⟩ := nI_rng 0 Z.1 gg.1 gg.2
  refine hy _ gg ?_ (fr_pI (by decide))
  refine hX.tap (fr_pI (Or.inl rfl)) ?_ ?_ ?_ ?_ ?_ ?_
  · rw [pI_e]; show n = nI (qIx n); rw [e2, e]
  · show qIx n ≤ 300; omega
  · intro j hj
    have hj' : j < qIx n := hj
    rw [pI_c (by decide)]; exact hX.tape j (by omega)
  · intro j hj
    have hj' : j < qIx n := hj
    exact hX.byt j (by omega)
  · rw [pI_f (by decide)]; exact hX.flt
  · rw [pI_f (by decide)]; exact hX.plc
theorem m_end {n : Int32} (hd : 2 ≤ d) (hX : rM w N K T Z) (hy : ∀ w', vEn Z n → rM w' N K T (zEnd Z n) → fr (fun c => 72 ≤ c) w w' → Q n w') (hn : ¬ vEn Z n → Q (-1) w) : qCall (some s) d 218 [.ref 72, .int n] w (qQi Q) := by
  obtain ⟨d, rfl, hd1⟩ := dS hd
  have l3 := hX.l300
  refine A_Mo_end ?_
  rw [hX.len]
  refine m_isInB hd1 (fun g => n1 ?_) (fun g => n0 (hn g))
  obtain ⟨x, hx, hx2, e, e2⟩ := nI_rng 0 Z.1 g.1 g.2
  refine hy _ g ?_ (fr_pI (by decide))
  refine hX.tap (fr_pI (Or.inl rfl)) ?_ ?_ ?_ ?_ ?_ ?_
  · rw [pI_e]; show n = nI (qIx n); rw [e2, e]
  · show qIx n ≤ 300; omega
  · intro j hj
    have hj' : j < qIx n := hj
    rw [pI_c (by decide)]; exact hX.tape j (by omega)
  · intro j hj
    have hj' : j < qIx n := hj
    exact hX.byt j (by omega)
  · rw [pI_f (by decide)]; exact hX.flt
  · rw [pI_f (by decide)]; exact hX.plc
def fFlt (Z : vZ) (a : Int32) : Int32 := if a = 0 then Z.2.2.1 else if a = 1 then Z.2.2.2 else -1
theorem c_fault {a : Int32} (hd : 1 ≤ d) (hX : rX w N K T Z) (h : Q (fFlt Z a) w) : qCall (some s) d 89 [.ref 1, .int a] w (qQi Q) := by
  obtain ⟨d, rfl, -⟩ := dS hd
  refine A_X_fault ⟨fun g => ⟨fun g2 => ?_, fun g2 => ?_⟩, fun g => ?_⟩
  · unfold fFlt at h; rw [if_neg g, if_neg g2] at h; exact h
  · unfold fFlt at h; rw [if_neg g, if_pos g2] at h; rw [hX.plc]; exact h
  · unfold fFlt at h; rw [if_pos g] at h; rw [hX.flt]; exact h
theorem m_fault {a : Int32} (hd : 1 ≤ d) (hX : rM w N K T Z) (h : Q (fFlt Z a) w) : qCall (some s) d 248 [.ref 72, .int a] w (qQi Q) := by
  obtain ⟨d, rfl, -⟩ := dS hd
  refine A_Mo_fault ⟨fun g => ⟨fun g2 => ?_, fun g2 => ?_⟩, fun g => ?_⟩
  · unfold fFlt at h; rw [if_neg g, if_neg g2] at h; exact h
  · unfold fFlt at h; rw [if_neg g, if_pos g2] at h; rw [hX.plc]; exact h
  · unfold fFlt at h; rw [if_pos g] at h; rw [hX.flt]; exact h
/-- a byte of an int -/
def by8 (v : Int32) (k : Nat) : Nat := v.toBitVec.toNat / 2 ^ k % 256
theorem nI_self (v : Int32) : v = nI v.toBitVec.toNat := by
  apply Int32.toBitVec_inj.mp
  show v.toBitVec = BitVec.ofNat 32 v.toBitVec.toNat
  rw [BitVec.ofNat_toNat, BitVec.setWidth_eq]
theorem and255 (n : Nat) : n &&& 255 = n % 256 := Nat.and_two_pow_sub_one_eq_mod n 8
theorem by8_u {v : Int32} {k : Nat} (hk : k < 32) : qUshr v (nI k) &&& 255 = nI (by8 v k) := by
  have h1 : v.toBitVec.toNat < 2 ^ 32 := v.toBitVec.isLt
  have e : qUshr v (nI k) = nI (v.toBitVec.toNat / 2 ^ k) := by
    have := qUshr_nI (n := v.toBitVec.toNat) (i := k) h1 hk
    rw [← nI_self] at this
    exact this
  rw [e, li, nI_and, and255]
  rfl
theorem by8_s {v : Int32} {k : Nat} (hk : k ≤ 24) : qShr v (nI k) &&& 255 = nI (by8 v k) := by
  rw [← by8_u (v := v) (k := k) (by omega)]
  apply Int32.toBitVec_inj.mp
  rw [Int32.toBitVec_and, Int32.toBitVec_and]
  have e1 : (qShr v (nI k)).toBitVec = v.toBitVec.sshiftRight k := by
    unfold qShr
    rw [Int32.toBitVec_shiftRight]
    show v.toBitVec.sshiftRight (((nI k &&& 31).toBitVec.smod 32).toNat) = _
    rw [qSh_amt ⟨k, by omega⟩]
  have e2 : (qUshr v (nI k)).toBitVec = v.toBitVec >>> k := by
    unfold qUshr
    show (v.toBitVec >>> ((((nI k).toUInt32 &&& Int32.toUInt32 31).toBitVec % 32).toNat)) = _
    rw [qUs_amt ⟨k, by omega⟩]
  rw [e1, e2]
  apply BitVec.eq_of_getLsbD_eq
  intro i hi
  rw [BitVec.getLsbD_and, BitVec.getLsbD_and]
  by_cases h8 : i < 8
  · rw [BitVec.getLsbD_sshiftRight, BitVec.getLsbD_ushiftRight]
    have h32 : k + i < 32 := by omega
    have h33 : i < 32 := by omega
    have h34 : ¬ 32 ≤ i := by omega
    simp [h32, h33, h34]
  · have : (Int32.toBitVec 255).getLsbD i = false := by
      show (255#32).getLsbD i = false
      rw [BitVec.getLsbD_ofNat]
      have : Nat.testBit 255 i = false := Nat.testBit_lt_two_pow (Nat.lt_of_lt_of_le (by decide : 255 < 2 ^ 8) (Nat.pow_le_pow_right (by decide) (by omega)))
      simp [this]
    rw [this, Bool.and_false, Bool.and_false]
def zAdd (Z : vZ) (b : Nat) : vZ := (Z.1 + 1, (fun j => if j = Z.1 then b else Z.2.1 j), Z.2.2)
theorem rX.add (hX : rX w N K T Z) (hl : Z.1 < 300) {b : Nat} (hb : b < 256) : rX (qPutI (qPutI w 26 Z.1 (nI b)) 25 1 (nI (Z.1 + 1))) N K T (zAdd Z b) := by
  refine hX.tap (fr_I (fr_pI (Or.inr rfl)) (Or.inl rfl)) ?_ hl ?_ ?_ ?_ ?_
  · rw [pI_e]; rfl
  · intro j hj
    have hj' : j < Z.1 + 1 := hj
    show _ = nI (if j = Z.1 then b else Z.2.1 j)
    rw [pI_c (by decide)]
    by_cases e : j = Z.1
    · subst e; rw [pI_e, if_pos rfl]
    · rw [pI_f e, if_neg e]; exact hX.tape j (by omega)
  · intro j hj
    have hj' : j < Z.1 + 1 := hj
    show (if j = Z.1 then b else Z.2.1 j) < 256
    by_cases e : j = Z.1
    · rw [if_pos e]; exact hb
    · rw [if_neg e]; exact hX.byt j (by omega)
  · rw [pI_f (by decide), pI_c (by decide)]; exact hX.flt
  · rw [pI_f (by decide), pI_c (by decide)]; exact hX.plc
theorem rM.add (hX : rM w N K T Z) (hl : Z.1 < 300) {b : Nat} (hb : b < 256) : rM (qPutI (qPutI w 78 Z.1 (nI b)) 72 6 (nI (Z.1 + 1))) N K T (zAdd Z b) := by
  refine hX.tap (fr_I (fr_pI (Or.inr rfl)) (Or.inl rfl)) ?_ hl ?_ ?_ ?_ ?_
  · rw [pI_e]; rfl
  · intro j hj
    have hj' : j < Z.1 + 1 := hj
    show _ = nI (if j = Z.1 then b else Z.2.1 j)
    rw [pI_c (by decide)]
    by_cases e : j = Z.1
    · subst e; rw [pI_e, if_pos rfl]
    · rw [pI_f e, if_neg e]; exact hX.tape j (by omega)
  · intro j hj
    have hj' : j < Z.1 + 1 := hj
    show (if j = Z.1 then b else Z.2.1 j) < 256
    by_cases e : j = Z.1
    · rw [if_pos e]; exact hb
    · rw [if_neg e]; exact hX.byt j (by omega)
  · rw [pI_f (by decide), pI_c (by decide)]; exact hX.flt
  · rw [pI_f (by decide), pI_c (by decide)]; exact hX.plc
def zFour (Z : vZ) (v : Int32) : vZ := zAdd (zAdd (zAdd (zAdd Z (by8 v 24)) (by8 v 16)) (by8 v 8)) (by8 v 0)
theorem by8_lt (v : Int32) (k : Nat) : by8 v k < 256 := Nat.mod_lt _ (by decide)
theorem c_addFour {R : qW → Prop} {v : Int32} (hd : 1 ≤ d) (hX : rX w N K T Z) (hl : Z.1 + 4 ≤ 300) (h : ∀ w', rX w' N K T (zFour Z v) → fr (fun c => c < 72) w w' → R w') : qCall (some s) d 37 [.ref 25, .int v] w (qQv R) := by
  obtain ⟨d, rfl, -⟩ := dS hd
  have st : ∀ {w : qW} {Z : vZ} (k : Nat) (x : Int32), k ≤ 24 → rX w N K T Z → Z.1 < 300 → nI k + (-8 : Int32) = x → (∀ w', rX w' N K T (zAdd Z (by8 v k)) → fr (fun c => c < 72) w w' → qAt s d c_Reader_addFour (qQv R) 3 [some (.ref 25), some (.int v), some (.int x)] [] w') → qAt s d c_Reader_addFour (qQv R) 3 [some (.ref 25), some (.int v), some (.int (nI k))] [] w := by
    intro w Z k x hk hX hl ex hh
    refine A_Reader_addFour_3 ?_
    rw [ex, by8_u (by omega)]
    simp only [hX.len]
    refine ⟨fun e => absurd e (nI_pos (by omega)), fun _ => ⟨fun e => absurd e (nI_pos (by omega)), fun _ => ⟨fun e => absurd e (nI_ge (b := 300) hl (by decide)), fun _ => ⟨qIn_nI hl (by decide), ?_⟩⟩⟩⟩
    rw [qIx_nI (by omega), nI_1]
    exact hh _ (hX.add hl (by8_lt v k)) (fr_I (fr_pI (by decide)) (by decide))
  refine A_Reader_addFour (st 24 (nI 16) (by omega) hX (by omega) (by decide) fun w1 h1 f1 => st 16 (nI 8) (by omega) h1 (show Z.1 + 1 < 300 by omega) (by decide) fun w2 h2 f2 => st 8 (nI 0) (by omega) h2 (show Z.1 + 1 + 1 < 300 by omega) (by decide) fun w3 h3 f3 => st 0 (-8) (by omega) h3 (show Z.1 + 1 + 1 + 1 < 300 by omega) (by decide) fun w4 h4 f4 => A_Reader_addFour_3 ⟨fun _ => h w4 h4 (fr_tr (fr_tr (fr_tr f1 f2) f3) f4), fun e => absurd (by decide) e⟩)
theorem m_four {R : qW → Prop} {v : Int32} (hd : 1 ≤ d) (hX : rM w N K T Z) (hl : Z.1 + 4 ≤ 300) (h : ∀ w', rM w' N K T (zFour Z v) → fr (fun c => 72 ≤ c) w w' → R w') : qCall (some s) d 217 [.ref 72, .int v] w (qQv R) := by
  obtain ⟨d, rfl, -⟩ := dS hd
  have st : ∀ {w : qW} {Z : vZ} (k : Nat) (x : Int32), k ≤ 24 → rM w N K T Z → Z.1 < 300 → nI k + (-8 : Int32) = x → (∀ w', rM w' N K T (zAdd Z (by8 v k)) → fr (fun c => 72 ≤ c) w w' → qAt s d c_Mo_four (qQv R) 3 [some (.ref 72), some (.int v), some (.int x)] [] w') → qAt s d c_Mo_four (qQv R) 3 [some (.ref 72), some (.int v), some (.int (nI k))] [] w := by
    intro w Z k x hk hX hl ex hh
    refine A_Mo_four_3 ?_
    rw [ex, by8_s hk]
    simp only [hX.len]
    refine ⟨fun e => absurd e (nI_pos (by omega)), fun _ => ⟨qIn_nI hl (by decide), ?_⟩⟩
    rw [qIx_nI (by omega), nI_1]
    exact hh _ (hX.add hl (by8_lt v k)) (fr_I (fr_pI (by decide)) (by decide))
  refine A_Mo_four (st 24 (nI 16) (by omega) hX (by omega) (by decide) fun w1 h1 f1 => st 16 (nI 8) (by omega) h1 (show Z.1 + 1 < 300 by omega) (by decide) fun w2 h2 f2 => st 8 (nI 0) (by omega) h2 (show Z.1 + 1 + 1 < 300 by omega) (by decide) fun w3 h3 f3 => st 0 (-8) (by omega) h3 (show Z.1 + 1 + 1 + 1 < 300 by omega) (by decide) fun w4 h4 f4 => A_Mo_four_3 ⟨fun _ => h w4 h4 (fr_tr (fr_tr (fr_tr f1 f2) f3) f4), fun e => absurd (by decide) e⟩)
def zFeed (Z : vZ) (a b c e f : Int32) : vZ := zFour (zFour (zFour (zFour (zFour Z a) b) c) e) f
theorem c_feed {a b c e f : Int32} (hd : 2 ≤ d) (hX : rX w N K T Z) (hy : ∀ w', Z.1 ≤ 280 → rX w' N K T (zFeed Z a b c e f) → fr (fun c => c < 72) w w' → Q (nI (Z.1 + 20)) w') (hn : ¬ Z.1 ≤ 280 → Q (-1) w) : qCall (some s) d 35 [.ref 1, .int a, .int b, .int c, .int e, .int f] w (qQi Q) := by
  obtain ⟨d, rfl, hd1⟩ := dS hd
  obtain ⟨d2, rfl, -⟩ := dS hd1
  have l3 := hX.l300
  refine A_X_feed (A_Reader_hasRoom ?_)
  simp (disch := omega) only [li, ll, nI_add, nI_mul', nI_sub', nI_div', qRem_nI, lN_add, lN_mul, lN_sub, lN_div', qRemL_lN, qIn_I, qIx_nI, nI_ltI, nI_leI, nI_eq, nI_eqn, nI_eqn', nI_len, nI_ltn, nI_nle', nI_nlt', lN_eqn, lg_lt, lg_gt, lg_eq, lg_le, lg_ge, lgn_lt, lgn_gt, lgn_eq, lgn_le, lgn_ge, pk_lLT, pk_lLE, pk_lEQ, nI_l, lN_i, qShl_n, nI_and, nI_or, lN_and, lN_or, nI_andn, lN_andn, pI_e, pI_f, pI_c, pL_e, pL_f, pL_c, pI_L, pL_I, qB_1, qZb_n, true_and, and_true, forall_const, not_true_eq_false, not_false_eq_true, Nat.reduceLT, Nat.reduceLeDiff, Nat.reduceEqDiff, Nat.reduceAdd, Nat.reduceMul, Nat.reduceSub, Nat.reduceMod, Nat.reduceDiv, false_implies, implies_true, hX.len]
  refine ⟨fun g => hn (by omega), fun g => ?_⟩
  refine c_addFour (by omega) hX (by omega) fun w1 h1 f1 => ?_
  refine c_addFour (by omega) h1 (show Z.1 + 1 + 1 + 1 + 1 + 4 ≤ 300 by omega) fun w2 h2 f2 => ?_
  refine c_addFour (by omega) h2 (show Z.1 + 1 + 1 + 1 + 1 + 1 + 1 + 1 + 1 + 4 ≤ 300 by omega) fun w3 h3 f3 => ?_
  refine c_addFour (by omega) h3 (show Z.1 + 1 + 1 + 1 + 1 + 1 + 1 + 1 + 1 + 1 + 1 + 1 + 1 + 4 ≤ 300 by omega) fun w4 h4 f4 => ?_
  refine c_addFour (by omega) h4 (show Z.1 + 1 + 1 + 1 + 1 + 1 + 1 + 1 + 1 + 1 + 1 + 1 + 1 + 1 + 1 + 1 + 1 + 4 ≤ 300 by omega) fun w5 h5 f5 => ?_
  rw [h5.len]
  exact hy w5 (by omega) h5 (fr_tr (fr_tr (fr_tr (fr_tr f1 f2) f3) f4) f5)
theorem m_feed {a b c e f : Int32} (hd : 2 ≤ d) (hX : rM w N K T Z) (hy : ∀ w', Z.1 ≤ 280 → rM w' N K T (zFeed Z a b c e f) → fr (fun c => 72 ≤ c) w w' → Q (nI (Z.1 + 20)) w') (hn : ¬ Z.1 ≤ 280 → Q (-1) w) : qCall (some s) d 216 [.ref 72, .int a, .int b, .int c, .int e, .int f] w (qQi Q) := by
  obtain ⟨d, rfl, hd1⟩ := dS hd
  have l3 := hX.l300
  refine A_Mo_feed ?_
  simp (disch := omega) only [li, ll, nI_add, nI_mul', nI_sub', nI_div', qRem_nI, lN_add, lN_mul, lN_sub, lN_div', qRemL_lN, qIn_I, qIx_nI, nI_ltI, nI_leI, nI_eq, nI_eqn, nI_eqn', nI_len, nI_ltn, nI_nle', nI_nlt', lN_eqn, lg_lt, lg_gt, lg_eq, lg_le, lg_ge, lgn_lt, lgn_gt, lgn_eq, lgn_le, lgn_ge, pk_lLT, pk_lLE, pk_lEQ, nI_l, lN_i, qShl_n, nI_and, nI_or, lN_and, lN_or, nI_andn, lN_andn, pI_e, pI_f, pI_c, pL_e, pL_f, pL_c, pI_L, pL_I, qB_1, qZb_n, true_and, and_true, forall_const, not_true_eq_false, not_false_eq_true, Nat.reduceLT, Nat.reduceLeDiff, Nat.reduceEqDiff, Nat.reduceAdd, Nat.reduceMul, Nat.reduceSub, Nat.reduceMod, Nat.reduceDiv, false_implies, implies_true, hX.len]
  refine ⟨fun g => ?_, fun g => hn (by omega)⟩
  refine m_four (by omega) hX (by omega) fun w1 h1 f1 => ?_
  refine m_four (by omega) h1 (show Z.1 + 1 + 1 + 1 + 1 + 4 ≤ 300 by omega) fun w2 h2 f2 => ?_
  refine m_four (by omega) h2 (show Z.1 + 1 + 1 + 1 + 1 + 1 + 1 + 1 + 1 + 4 ≤ 300 by omega) fun w3 h3 f3 => ?_
  refine m_four (by omega) h3 (show Z.1 + 1 + 1 + 1 + 1 + 1 + 1 + 1 + 1 + 1 + 1 + 1 + 1 + 4 ≤ 300 by omega) fun w4 h4 f4 => ?_
  refine m_four (by omega) h4 (show Z.1 + 1 + 1 + 1 + 1 + 1 + 1 + 1 + 1 + 1 + 1 + 1 + 1 + 1 + 1 + 1 + 1 + 4 ≤ 300 by omega) fun w5 h5 f5 => ?_
  rw [h5.len]
  exact hy w5 (by omega) h5 (fr_tr (fr_tr (fr_tr (fr_tr f1 f2) f3) f4) f5)
theorem cI_e {w : qW} {a d n b : Nat} (h : b < n) : (qCpI w a 0 d 0 n).1 d b = w.1 a b := by unfold qCpI; simp [h]
theorem cI_c {w : qW} {a d e n b : Nat} (h : ¬ e = d) : (qCpI w a 0 d 0 n).1 e b = w.1 e b := by unfold qCpI; simp [h]
theorem cI_L (w : qW) (a i d j n : Nat) : (qCpI w a i d j n).2.1 = w.2.1 := rfl
theorem cL_e {w : qW} {a d n b : Nat} (h : b < n) : (qCpL w a 0 d 0 n).2.1 d b = w.2.1 a b := by unfold qCpL; simp [h]
theorem cL_c {w : qW} {a d e n b : Nat} (h : ¬ e = d) : (qCpL w a 0 d 0 n).2.1 e b = w.2.1 e b := by unfold qCpL; simp [h]
theorem cL_I (w : qW) (a i d j n : Nat) : (qCpL w a i d j n).1 = w.1 := rfl
theorem fr_cI {A : Nat → Prop} {w w' : qW} {a d n : Nat} (h : fr A w w') (hc : A d) : fr A w (qCpI w' a 0 d 0 n) := fr_tr h (fun b hb => by
  have e : ¬ b = d := fun e => hb (e ▸ hc)
  exact ⟨funext fun g => cI_c e, rfl⟩)
theorem fr_cL {A : Nat → Prop} {w w' : qW} {a d n : Nat} (h : fr A w w') (hc : A d) : fr A w (qCpL w' a 0 d 0 n) := fr_tr h (fun b hb => by
  have e : ¬ b = d := fun e => hb (e ▸ hc)
  exact ⟨rfl, funext fun g => cL_c e⟩)
theorem c_takeIn {R : qW → Prop} (hd : 1 ≤ d) (hS : rS w 2 N) (o : okS N) (h : ∀ w', rS w' 13 N → fr (fun c => 13 ≤ c ∧ c ≤ 23) w w' → R w') : qCall (some s) d 201 [.ref 13, .ref 2] w (qQv R) := by
  obtain ⟨d, rfl, -⟩ := dS hd
  have o0 := o.p12
  have o5 := o.tks
  have o6 := o.gvs
  have o7 := o.nds
  have o8 := o.hds
  refine A_State_takeAll_13 ⟨by decide, by decide, by decide, A_State_takeAll_13_61 (A_State_takeAll_13_93 ⟨by decide, by decide, by decide, A_State_takeAll_13_154 ⟨by decide, by decide, by decide, A_State_takeAll_13_207 ⟨by decide, ?_⟩⟩⟩)⟩
  refine h _ ?_ ?_
  · refine rS.mk ?_ ?_ ?_ ?_ ?_ ?_ ?_ ?_ ?_ ?_ ?_ ?_ ?_ ?_ ?_ ?_ ?_ ?_ ?_ ?_
    all_goals try intro i hi
    all_goals simp (disch := omega) only [li, ll, nI_add, nI_mul', nI_sub', nI_div', qRem_nI, lN_add, lN_mul, lN_sub, lN_div', qRemL_lN, qIn_I, qIx_nI, nI_ltI, nI_leI, nI_eq, nI_eqn, nI_eqn', nI_len, nI_ltn, nI_nle', nI_nlt', lN_eqn, lg_lt, lg_gt, lg_eq, lg_le, lg_ge, lgn_lt, lgn_gt, lgn_eq, lgn_le, lgn_ge, pk_lLT, pk_lLE, pk_lEQ, nI_l, lN_i, qShl_n, nI_and, nI_or, lN_and, lN_or, nI_andn, lN_andn, pI_e, pI_f, pI_c, pL_e, pL_f, pL_c, pI_L, pL_I, qB_1, qZb_n, true_and, and_true, forall_const, not_true_eq_false, not_false_eq_true, Nat.reduceLT, Nat.reduceLeDiff, Nat.reduceEqDiff, Nat.reduceAdd, Nat.reduceMul, Nat.reduceSub, Nat.reduceMod, Nat.reduceDiv, false_implies, implies_true, cI_e, cI_c, cI_L, cL_e, cL_c, cL_I]
    · exact hS.ppl
    · exact hS.day
    · exact hS.clk
    · exact hS.txs
    · exact hS.rul
    · exact hS.tks
    · exact hS.gvs
    · exact hS.nds
    · exact hS.hds
    · exact hS.hIs
    · exact hS.num i hi
    · exact hS.fst i hi
    · exact hS.nr i hi
    · exact hS.tkh i hi
    · exact hS.tkp i hi
    · exact hS.gv i hi
    · exact hS.ndp i hi
    · exact hS.nda i hi
    · exact hS.ndh i hi
    · exact hS.hrd i hi
  · simp (disch := omega) only [li, ll, nI_add, nI_mul', nI_sub', nI_div', qRem_nI, lN_add, lN_mul, lN_sub, lN_div', qRemL_lN, qIn_I, qIx_nI, nI_ltI, nI_leI, nI_eq, nI_eqn, nI_eqn', nI_len, nI_ltn, nI_nle', nI_nlt', lN_eqn, lg_lt, lg_gt, lg_eq, lg_le, lg_ge, lgn_lt, lgn_gt, lgn_eq, lgn_le, lgn_ge, pk_lLT, pk_lLE, pk_lEQ, nI_l, lN_i, qShl_n, nI_and, nI_or, lN_and, lN_or, nI_andn, lN_andn, pI_e, pI_f, pI_c, pL_e, pL_f, pL_c, pI_L, pL_I, qB_1, qZb_n, true_and, and_true, forall_const, not_true_eq_false, not_false_eq_true, Nat.reduceLT, Nat.reduceLeDiff, Nat.reduceEqDiff, Nat.reduceAdd, Nat.reduceMul, Nat.reduceSub, Nat.reduceMod, Nat.reduceDiv, false_implies, implies_true]
    exact fr_I (fr_cI (fr_I (fr_cI (fr_cI (fr_cI (fr_I (fr_cI (fr_I (fr_cI (fr_cL (fr_I (fr_I (fr_I (fr_I (fr_I (fr_cI (fr_cI (fr_cI (fr_pI (by decide)) (by decide)) (by decide)) (by decide)) (by decide)) (by decide)) (by decide)) (by decide)) (by decide)) (by decide)) (by decide)) (by decide)) (by decide)) (by decide)) (by decide)) (by decide)) (by decide)) (by decide)) (by decide)) (by decide)
theorem c_takeOut {R : qW → Prop} (hd : 1 ≤ d) (hS : rS w 13 N) (o : okS N) (h : ∀ w', rS w' 2 N → fr (fun c => 2 ≤ c ∧ c ≤ 12) w w' → R w') : qCall (some s) d 201 [.ref 2, .ref 13] w (qQv R) := by
  obtain ⟨d, rfl, -⟩ := dS hd
  have o0 := o.p12
  have o5 := o.tks
  have o6 := o.gvs
  have o7 := o.nds
  have o8 := o.hds
  refine A_State_takeAll_2 ⟨by decide, by decide, by decide, A_State_takeAll_2_61 (A_State_takeAll_2_93 ⟨by decide, by decide, by decide, A_State_takeAll_2_154 ⟨by decide, by decide, by decide, A_State_takeAll_2_207 ⟨by decide, ?_⟩⟩⟩)⟩
  refine h _ ?_ ?_
  · refine rS.mk ?_ ?_ ?_ ?_ ?_ ?_ ?_ ?_ ?_ ?_ ?_ ?_ ?_ ?_ ?_ ?_ ?_ ?_ ?_ ?_
    all_goals try intro i hi
    all_goals simp (disch := omega) only [li, ll, nI_add, nI_mul', nI_sub', nI_div', qRem_nI, lN_add, lN_mul, lN_sub, lN_div', qRemL_lN, qIn_I, qIx_nI, nI_ltI, nI_leI, nI_eq, nI_eqn, nI_eqn', nI_len, nI_ltn, nI_nle', nI_nlt', lN_eqn, lg_lt, lg_gt, lg_eq, lg_le, lg_ge, lgn_lt, lgn_gt, lgn_eq, lgn_le, lgn_ge, pk_lLT, pk_lLE, pk_lEQ, nI_l, lN_i, qShl_n, nI_and, nI_or, lN_and, lN_or, nI_andn, lN_andn, pI_e, pI_f, pI_c, pL_e, pL_f, pL_c, pI_L, pL_I, qB_1, qZb_n, true_and, and_true, forall_const, not_true_eq_false, not_false_eq_true, Nat.reduceLT, Nat.reduceLeDiff, Nat.reduceEqDiff, Nat.reduceAdd, Nat.reduceMul, Nat.reduceSub, Nat.reduceMod, Nat.reduceDiv, false_implies, implies_true, cI_e, cI_c, cI_L, cL_e, cL_c, cL_I]
    · exact hS.ppl
    · exact hS.day
    · exact hS.clk
    · exact hS.txs
    · exact hS.rul
    · exact hS.tks
    · exact hS.gvs
    · exact hS.nds
    · exact hS.hds
    · exact hS.hIs
    · exact hS.num i hi
    · exact hS.fst i hi
    · exact hS.nr i hi
    · exact hS.tkh i hi
    · exact hS.tkp i hi
    · exact hS.gv i hi
    · exact hS.ndp i hi
    · exact hS.nda i hi
    · exact hS.ndh i hi
    · exact hS.hrd i hi
  · simp (disch := omega) only [li, ll, nI_add, nI_mul', nI_sub', nI_div', qRem_nI, lN_add, lN_mul, lN_sub, lN_div', qRemL_lN, qIn_I, qIx_nI, nI_ltI, nI_leI, nI_eq, nI_eqn, nI_eqn', nI_len, nI_ltn, nI_nle', nI_nlt', lN_eqn, lg_lt, lg_gt, lg_eq, lg_le, lg_ge, lgn_lt, lgn_gt, lgn_eq, lgn_le, lgn_ge, pk_lLT, pk_lLE, pk_lEQ, nI_l, lN_i, qShl_n, nI_and, nI_or, lN_and, lN_or, nI_andn, lN_andn, pI_e, pI_f, pI_c, pL_e, pL_f, pL_c, pI_L, pL_I, qB_1, qZb_n, true_and, and_true, forall_const, not_true_eq_false, not_false_eq_true, Nat.reduceLT, Nat.reduceLeDiff, Nat.reduceEqDiff, Nat.reduceAdd, Nat.reduceMul, Nat.reduceSub, Nat.reduceMod, Nat.reduceDiv, false_implies, implies_true]
    exact fr_I (fr_cI (fr_I (fr_cI (fr_cI (fr_cI (fr_I (fr_cI (fr_I (fr_cI (fr_cL (fr_I (fr_I (fr_I (fr_I (fr_I (fr_cI (fr_cI (fr_cI (fr_pI (by decide)) (by decide)) (by decide)) (by decide)) (by decide)) (by decide)) (by decide)) (by decide)) (by decide)) (by decide)) (by decide)) (by decide)) (by decide)) (by decide)) (by decide)) (by decide)) (by decide)) (by decide)) (by decide)) (by decide)
theorem c_image (hd : 2 ≤ d) (hX : rX w N K T Z) (h : ∀ w', rX w' N N T Z → fr (fun c => c < 72) w w' → Q (nI (N 0 0)) w') : qCall (some s) d 200 [.ref 1] w (qQi Q) := by
  obtain ⟨d, rfl, hd1⟩ := dS hd
  refine A_X_image (c_takeIn hd1 hX.n hX.okn fun w' h2 hf => ?_)
  have e : ∀ c, ¬ (13 ≤ c ∧ c ≤ 23) → w'.1 c = w.1 c ∧ w'.2.1 c = w.2.1 c := fun c hc => hf c hc
  rw [(e 2 (by omega)).1, hX.n.ppl]
  have o := hX.okn.txs
  refine h w' (rX.mk (rS_fr hX.n fun k hk => e _ (by omega)) h2 hX.okn hX.okn (Nat.le_refl _) (fun i hi => rT_fr (hX.t i hi) fun k hk => (e _ (by omega)).1) hX.okt ?_ hX.l300 ?_ hX.byt ?_ ?_ ?_ ?_) (fr_wk hf (by omega))
  · rw [(e 25 (by omega)).1]; exact hX.len
  · rw [(e 26 (by omega)).1]; exact hX.tape
  · rw [(e 25 (by omega)).1]; exact hX.flt
  · rw [(e 25 (by omega)).1]; exact hX.plc
  · rw [(e 51 (by omega)).1]; exact hX.opn
  · rw [(e 51 (by omega)).1]; exact hX.op2
/-- two rows that are alike -/
theorem rR_eq {w w' : qW} {a t b u : Nat} {S : vS} (h : rR w a t S) (o : okS S) (ea : ∀ i, i < 262 → w'.1 b i = w.1 a i) (et : ∀ i, i < 30 → w'.2.1 u i = w.2.1 t i) : rR w' b u S := by
  have o0 := o.p12
  have o5 := o.tks
  have o6 := o.gvs
  have o7 := o.nds
  have o8 := o.hds
  refine rR.mk ?_ ?_ ?_ ?_ ?_ ?_ ?_ ?_ ?_ ?_ ?_ ?_ ?_ ?_ ?_ ?_ ?_ ?_ ?_ ?_ ?_ ?_ ?_
  all_goals try intro i hi
  all_goals try intro hj
  all_goals first | rw [ea _ (by omega)] | rw [et _ (by omega)]
  · exact h.ppl
  · exact h.day
  · exact h.clk
  · exact h.txs
  · exact h.rul
  · exact h.tks
  · exact h.gvs
  · exact h.nds
  · exact h.hds
  · exact h.num i hi
  · exact h.fst i hi
  · exact h.nr i hi
  · exact h.nr0 i hi hj
  · exact h.gv i hi
  · exact h.ndA i hi
  · exact h.ndB i hi
  · exact h.nda i hi
  · exact h.ndh i hi
  · exact h.hrd i hi
  · exact h.hri i hi
  · exact h.tkh i hi
  · exact h.tkA i hi
  · exact h.tkB i hi
theorem m_copyIn {R : qW → Prop} (hd : 1 ≤ d) (h : ∀ w', (∀ i, i < 262 → w'.1 74 i = w.1 73 i) → fr (fun c => c = 74) w w' → R w') : qCall (some s) d 206 [.ref 73, .ref 74] w (qQv R) := by
  obtain ⟨d, rfl, -⟩ := dS hd
  refine A_Mo_copy_73 ?_
  have loop : ∀ k i (w' : qW), 262 - i = k → i ≤ 262 → (∀ j, j < i → w'.1 74 j = w.1 73 j) → fr (fun c => c = 74) w w' → qAt s d c_Mo_copy (qQv R) 2 [some (.ref 73), some (.ref 74), some (.int (nI i))] [] w' := by
    intro k
    induction k with
    | zero =>
      intro i w' hk hi hj hf
      have e : i = 262 := by omega
      subst e
      refine A_Mo_copy_73_2 ?_
      simp (disch := omega) only [li, ll, nI_add, nI_mul', nI_sub', nI_div', qRem_nI, lN_add, lN_mul, lN_sub, lN_div', qRemL_lN, qIn_I, qIx_nI, nI_ltI, nI_leI, nI_eq, nI_eqn, nI_eqn', nI_len, nI_ltn, nI_nle', nI_nlt', lN_eqn, lg_lt, lg_gt, lg_eq, lg_le, lg_ge, lgn_lt, lgn_gt, lgn_eq, lgn_le, lgn_ge, pk_lLT, pk_lLE, pk_lEQ, nI_l, lN_i, qShl_n, nI_and, nI_or, lN_and, lN_or, nI_andn, lN_andn, pI_e, pI_f, pI_c, pL_e, pL_f, pL_c, pI_L, pL_I, qB_1, qZb_n, true_and, and_true, forall_const, not_true_eq_false, not_false_eq_true, Nat.reduceLT, Nat.reduceLeDiff, Nat.reduceEqDiff, Nat.reduceAdd, Nat.reduceMul, Nat.reduceSub, Nat.reduceMod, Nat.reduceDiv, false_implies, implies_true]
      exact h w' hj hf
    | succ k ih =>
      intro i w' hk hi hj hf
      refine A_Mo_copy_73_2 ?_
      simp (disch := omega) only [li, ll, nI_add, nI_mul', nI_sub', nI_div', qRem_nI, lN_add, lN_mul, lN_sub, lN_div', qRemL_lN, qIn_I, qIx_nI, nI_ltI, nI_leI, nI_eq, nI_eqn, nI_eqn', nI_len, nI_ltn, nI_nle', nI_nlt', lN_eqn, lg_lt, lg_gt, lg_eq, lg_le, lg_ge, lgn_lt, lgn_gt, lgn_eq, lgn_le, lgn_ge, pk_lLT, pk_lLE, pk_lEQ, nI_l, lN_i, qShl_n, nI_and, nI_or, lN_and, lN_or, nI_andn, lN_andn, pI_e, pI_f, pI_c, pL_e, pL_f, pL_c, pI_L, pL_I, qB_1, qZb_n, true_and, and_true, forall_const, not_true_eq_false, not_false_eq_true, Nat.reduceLT, Nat.reduceLeDiff, Nat.reduceEqDiff, Nat.reduceAdd, Nat.reduceMul, Nat.reduceSub, Nat.reduceMod, Nat.reduceDiv, false_implies, implies_true]
      refine ⟨fun e => by omega, fun _ => ⟨by omega, by omega, ih (i + 1) _ (by omega) (by omega) (fun j hj2 => ?_) (fr_I hf rfl)⟩⟩
      by_cases e : j = i
      · subst e
        simp (disch := omega) only [li, ll, nI_add, nI_mul', nI_sub', nI_div', qRem_nI, lN_add, lN_mul, lN_sub, lN_div', qRemL_lN, qIn_I, qIx_nI, nI_ltI, nI_leI, nI_eq, nI_eqn, nI_eqn', nI_len, nI_ltn, nI_nle', nI_nlt', lN_eqn, lg_lt, lg_gt, lg_eq, lg_le, lg_ge, lgn_lt, lgn_gt, lgn_eq, lgn_le, lgn_ge, pk_lLT, pk_lLE, pk_lEQ, nI_l, lN_i, qShl_n, nI_and, nI_or, lN_and, lN_or, nI_andn, lN_andn, pI_e, pI_f, pI_c, pL_e, pL_f, pL_c, pI_L, pL_I, qB_1, qZb_n, true_and, and_true, forall_const, not_true_eq_false, not_false_eq_true, Nat.reduceLT, Nat.reduceLeDiff, Nat.reduceEqDiff, Nat.reduceAdd, Nat.reduceMul, Nat.reduceSub, Nat.reduceMod, Nat.reduceDiv, false_implies, implies_true]
        rw [(hf 73 (by decide)).1]
      · simp (disch := omega) only [li, ll, nI_add, nI_mul', nI_sub', nI_div', qRem_nI, lN_add, lN_mul, lN_sub, lN_div', qRemL_lN, qIn_I, qIx_nI, nI_ltI, nI_leI, nI_eq, nI_eqn, nI_eqn', nI_len, nI_ltn, nI_nle', nI_nlt', lN_eqn, lg_lt, lg_gt, lg_eq, lg_le, lg_ge, lgn_lt, lgn_gt, lgn_eq, lgn_le, lgn_ge, pk_lLT, pk_lLE, pk_lEQ, nI_l, lN_i, qShl_n, nI_and, nI_or, lN_and, lN_or, nI_andn, lN_andn, pI_e, pI_f, pI_c, pL_e, pL_f, pL_c, pI_L, pL_I, qB_1, qZb_n, true_and, and_true, forall_const, not_true_eq_false, not_false_eq_true, Nat.reduceLT, Nat.reduceLeDiff, Nat.reduceEqDiff, Nat.reduceAdd, Nat.reduceMul, Nat.reduceSub, Nat.reduceMod, Nat.reduceDiv, false_implies, implies_true]
        exact hj j (by omega)
  exact loop _ 0 w rfl (by omega) (fun j hj => by omega) (fr_rf _ _)
theorem m_copyOut {R : qW → Prop} (hd : 1 ≤ d) (h : ∀ w', (∀ i, i < 262 → w'.1 73 i = w.1 74 i) → fr (fun c => c = 73) w w' → R w') : qCall (some s) d 206 [.ref 74, .ref 73] w (qQv R) := by
  obtain ⟨d, rfl, -⟩ := dS hd
  refine A_Mo_copy_74 ?_
  have loop : ∀ k i (w' : qW), 262 - i = k → i ≤ 262 → (∀ j, j < i → w'.1 73 j = w.1 74 j) → fr (fun c => c = 73) w w' → qAt s d c_Mo_copy (qQv R) 2 [some (.ref 74), some (.ref 73), some (.int (nI i))] [] w' := by
    intro k
    induction k with
    | zero =>
      intro i w' hk hi hj hf
      have e : i = 262 := by omega
      subst e
      refine A_Mo_copy_74_2 ?_
      simp (disch := omega) only [li, ll, nI_add, nI_mul', nI_sub', nI_div', qRem_nI, lN_add, lN_mul, lN_sub, lN_div', qRemL_lN, qIn_I, qIx_nI, nI_ltI, nI_leI, nI_eq, nI_eqn, nI_eqn', nI_len, nI_ltn, nI_nle', nI_nlt', lN_eqn, lg_lt, lg_gt, lg_eq, lg_le, lg_ge, lgn_lt, lgn_gt, lgn_eq, lgn_le, lgn_ge, pk_lLT, pk_lLE, pk_lEQ, nI_l, lN_i, qShl_n, nI_and, nI_or, lN_and, lN_or, nI_andn, lN_andn, pI_e, pI_f, pI_c, pL_e, pL_f, pL_c, pI_L, pL_I, qB_1, qZb_n, true_and, and_true, forall_const, not_true_eq_false, not_false_eq_true, Nat.reduceLT, Nat.reduceLeDiff, Nat.reduceEqDiff, Nat.reduceAdd, Nat.reduceMul, Nat.reduceSub, Nat.reduceMod, Nat.reduceDiv, false_implies, implies_true]
      exact h w' hj hf
    | succ k ih =>
      intro i w' hk hi hj hf
      refine A_Mo_copy_74_2 ?_
      simp (disch := omega) only [li, ll, nI_add, nI_mul', nI_sub', nI_div', qRem_nI, lN_add, lN_mul, lN_sub, lN_div', qRemL_lN, qIn_I, qIx_nI, nI_ltI, nI_leI, nI_eq, nI_eqn, nI_eqn', nI_len, nI_ltn, nI_nle', nI_nlt', lN_eqn, lg_lt, lg_gt, lg_eq, lg_le, lg_ge, lgn_lt, lgn_gt, lgn_eq, lgn_le, lgn_ge, pk_lLT, pk_lLE, pk_lEQ, nI_l, lN_i, qShl_n, nI_and, nI_or, lN_and, lN_or, nI_andn, lN_andn, pI_e, pI_f, pI_c, pL_e, pL_f, pL_c, pI_L, pL_I, qB_1, qZb_n, true_and, and_true, forall_const, not_true_eq_false, not_false_eq_true, Nat.reduceLT, Nat.reduceLeDiff, Nat.reduceEqDiff, Nat.reduceAdd, Nat.reduceMul, Nat.reduceSub, Nat.reduceMod, Nat.reduceDiv, false_implies, implies_true]
      refine ⟨fun e => by omega, fun _ => ⟨by omega, by omega, ih (i + 1) _ (by omega) (by omega) (fun j hj2 => ?_) (fr_I hf rfl)⟩⟩
      by_cases e : j = i
      · subst e
        simp (disch := omega) only [li, ll, nI_add, nI_mul', nI_sub', nI_div', qRem_nI, lN_add, lN_mul, lN_sub, lN_div', qRemL_lN, qIn_I, qIx_nI, nI_ltI, nI_leI, nI_eq, nI_eqn, nI_eqn', nI_len, nI_ltn, nI_nle', nI_nlt', lN_eqn, lg_lt, lg_gt, lg_eq, lg_le, lg_ge, lgn_lt, lgn_gt, lgn_eq, lgn_le, lgn_ge, pk_lLT, pk_lLE, pk_lEQ, nI_l, lN_i, qShl_n, nI_and, nI_or, lN_and, lN_or, nI_andn, lN_andn, pI_e, pI_f, pI_c, pL_e, pL_f, pL_c, pI_L, pL_I, qB_1, qZb_n, true_and, and_true, forall_const, not_true_eq_false, not_false_eq_true, Nat.reduceLT, Nat.reduceLeDiff, Nat.reduceEqDiff, Nat.reduceAdd, Nat.reduceMul, Nat.reduceSub, Nat.reduceMod, Nat.reduceDiv, false_implies, implies_true]
        rw [(hf 74 (by decide)).1]
      · simp (disch := omega) only [li, ll, nI_add, nI_mul', nI_sub', nI_div', qRem_nI, lN_add, lN_mul, lN_sub, lN_div', qRemL_lN, qIn_I, qIx_nI, nI_ltI, nI_leI, nI_eq, nI_eqn, nI_eqn', nI_len, nI_ltn, nI_nle', nI_nlt', lN_eqn, lg_lt, lg_gt, lg_eq, lg_le, lg_ge, lgn_lt, lgn_gt, lgn_eq, lgn_le, lgn_ge, pk_lLT, pk_lLE, pk_lEQ, nI_l, lN_i, qShl_n, nI_and, nI_or, lN_and, lN_or, nI_andn, lN_andn, pI_e, pI_f, pI_c, pL_e, pL_f, pL_c, pI_L, pL_I, qB_1, qZb_n, true_and, and_true, forall_const, not_true_eq_false, not_false_eq_true, Nat.reduceLT, Nat.reduceLeDiff, Nat.reduceEqDiff, Nat.reduceAdd, Nat.reduceMul, Nat.reduceSub, Nat.reduceMod, Nat.reduceDiv, false_implies, implies_true]
        exact hj j (by omega)
  exact loop _ 0 w rfl (by omega) (fun j hj => by omega) (fr_rf _ _)
theorem m_image (hd : 2 ≤ d) (hX : rM w N K T Z) (h : ∀ w', rM w' N N T Z → fr (fun c => 72 ≤ c) w w' → Q (nI (N 0 0)) w') : qCall (some s) d 325 [.ref 72] w (qQi Q) := by
  obtain ⟨d, rfl, hd1⟩ := dS hd
  refine A_Mo_image (m_copyIn hd1 fun w1 e1 f1 => ?_)
  have loop : ∀ k i (w' : qW), 30 - i = k → i ≤ 30 → (∀ j, j < i → w'.2.1 76 j = w.2.1 75 j) → w'.1 = w1.1 → fr (fun c => c = 74 ∨ c = 76) w w' → qAt s d c_Mo_image (qQi Q) 13 [some (.ref 72), some (.int (nI i))] [] w' := by
    intro k
    induction k with
    | zero =>
      intro i w' hk hi hj h1 hf
      have e : i = 30 := by omega
      subst e
      refine A_Mo_image_13 ?_
      have r := rR_fr hX.n (hf 73 (by decide)).1 (hf 75 (by decide)).2
      simp (disch := omega) only [li, ll, nI_add, nI_mul', nI_sub', nI_div', qRem_nI, lN_add, lN_mul, lN_sub, lN_div', qRemL_lN, qIn_I, qIx_nI, nI_ltI, nI_leI, nI_eq, nI_eqn, nI_eqn', nI_len, nI_ltn, nI_nle', nI_nlt', lN_eqn, lg_lt, lg_gt, lg_eq, lg_le, lg_ge, lgn_lt, lgn_gt, lgn_eq, lgn_le, lgn_ge, pk_lLT, pk_lLE, pk_lEQ, nI_l, lN_i, qShl_n, nI_and, nI_or, lN_and, lN_or, nI_andn, lN_andn, pI_e, pI_f, pI_c, pL_e, pL_f, pL_c, pI_L, pL_I, qB_1, qZb_n, true_and, and_true, forall_const, not_true_eq_false, not_false_eq_true, Nat.reduceLT, Nat.reduceLeDiff, Nat.reduceEqDiff, Nat.reduceAdd, Nat.reduceMul, Nat.reduceSub, Nat.reduceMod, Nat.reduceDiv, false_implies, implies_true, r.ppl]
      have r2 : rR w' 74 76 N := rR_eq hX.n hX.okn (by rw [h1]; exact e1) hj
      refine h w' (rM.mk r r2 hX.okn hX.okn (Nat.le_refl _) (fun i hi => rU_fr (hX.t i hi) (hf 77 (by decide)).1) hX.okt ?_ hX.l300 ?_ hX.byt ?_ ?_) (fr_wk hf (by omega))
      · rw [(hf 72 (by decide)).1]; exact hX.len
      · rw [(hf 78 (by decide)).1]; exact hX.tape
      · rw [(hf 72 (by decide)).1]; exact hX.flt
      · rw [(hf 72 (by decide)).1]; exact hX.plc
    | succ k ih =>
      intro i w' hk hi hj h1 hf
      refine A_Mo_image_13 ?_
      simp (disch := omega) only [li, ll, nI_add, nI_mul', nI_sub', nI_div', qRem_nI, lN_add, lN_mul, lN_sub, lN_div', qRemL_lN, qIn_I, qIx_nI, nI_ltI, nI_leI, nI_eq, nI_eqn, nI_eqn', nI_len, nI_ltn, nI_nle', nI_nlt', lN_eqn, lg_lt, lg_gt, lg_eq, lg_le, lg_ge, lgn_lt, lgn_gt, lgn_eq, lgn_le, lgn_ge, pk_lLT, pk_lLE, pk_lEQ, nI_l, lN_i, qShl_n, nI_and, nI_or, lN_and, lN_or, nI_andn, lN_andn, pI_e, pI_f, pI_c, pL_e, pL_f, pL_c, pI_L, pL_I, qB_1, qZb_n, true_and, and_true, forall_const, not_true_eq_false, not_false_eq_true, Nat.reduceLT, Nat.reduceLeDiff, Nat.reduceEqDiff, Nat.reduceAdd, Nat.reduceMul, Nat.reduceSub, Nat.reduceMod, Nat.reduceDiv, false_implies, implies_true]
      refine ⟨fun e => by omega, fun _ => ⟨by omega, by omega, ih (i + 1) _ (by omega) (by omega) (fun j hj2 => ?_) h1 (fr_L hf (Or.inr rfl))⟩⟩
      by_cases e : j = i
      · subst e
        simp (disch := omega) only [li, ll, nI_add, nI_mul', nI_sub', nI_div', qRem_nI, lN_add, lN_mul, lN_sub, lN_div', qRemL_lN, qIn_I, qIx_nI, nI_ltI, nI_leI, nI_eq, nI_eqn, nI_eqn', nI_len, nI_ltn, nI_nle', nI_nlt', lN_eqn, lg_lt, lg_gt, lg_eq, lg_le, lg_ge, lgn_lt, lgn_gt, lgn_eq, lgn_le, lgn_ge, pk_lLT, pk_lLE, pk_lEQ, nI_l, lN_i, qShl_n, nI_and, nI_or, lN_and, lN_or, nI_andn, lN_andn, pI_e, pI_f, pI_c, pL_e, pL_f, pL_c, pI_L, pL_I, qB_1, qZb_n, true_and, and_true, forall_const, not_true_eq_false, not_false_eq_true, Nat.reduceLT, Nat.reduceLeDiff, Nat.reduceEqDiff, Nat.reduceAdd, Nat.reduceMul, Nat.reduceSub, Nat.reduceMod, Nat.reduceDiv, false_implies, implies_true]
        rw [(hf 75 (by decide)).2]
      · simp (disch := omega) only [li, ll, nI_add, nI_mul', nI_sub', nI_div', qRem_nI, lN_add, lN_mul, lN_sub, lN_div', qRemL_lN, qIn_I, qIx_nI, nI_ltI, nI_leI, nI_eq, nI_eqn, nI_eqn', nI_len, nI_ltn, nI_nle', nI_nlt', lN_eqn, lg_lt, lg_gt, lg_eq, lg_le, lg_ge, lgn_lt, lgn_gt, lgn_eq, lgn_le, lgn_ge, pk_lLT, pk_lLE, pk_lEQ, nI_l, lN_i, qShl_n, nI_and, nI_or, lN_and, lN_or, nI_andn, lN_andn, pI_e, pI_f, pI_c, pL_e, pL_f, pL_c, pI_L, pL_I, qB_1, qZb_n, true_and, and_true, forall_const, not_true_eq_false, not_false_eq_true, Nat.reduceLT, Nat.reduceLeDiff, Nat.reduceEqDiff, Nat.reduceAdd, Nat.reduceMul, Nat.reduceSub, Nat.reduceMod, Nat.reduceDiv, false_implies, implies_true]
        exact hj j (by omega)
  exact loop _ 0 w1 rfl (by omega) (fun j hj => by omega) rfl (fr_wk f1 (fun c e => Or.inl e))
theorem m_back (hd : 2 ≤ d) (hX : rM w N K T Z) (h : ∀ w', rM w' K K T Z → fr (fun c => 72 ≤ c) w w' → Q (nI (K 0 0)) w') : qCall (some s) d 326 [.ref 72] w (qQi Q) := by
  obtain ⟨d, rfl, hd1⟩ := dS hd
  refine A_Mo_back (m_copyOut hd1 fun w1 e1 f1 => ?_)
  have loop : ∀ k i (w' : qW), 30 - i = k → i ≤ 30 → (∀ j, j < i → w'.2.1 75 j = w.2.1 76 j) → w'.1 = w1.1 → fr (fun c => c = 73 ∨ c = 75) w w' → qAt s d c_Mo_back (qQi Q) 13 [some (.ref 72), some (.int (nI i))] [] w' := by
    intro k
    induction k with
    | zero =>
      intro i w' hk hi hj h1 hf
      have e : i = 30 := by omega
      subst e
      refine A_Mo_back_13 ?_
      have r := rR_fr hX.k (hf 74 (by decide)).1 (hf 76 (by decide)).2
      have r2 : rR w' 73 75 K := rR_eq hX.k hX.okk (by rw [h1]; exact e1) hj
      simp (disch := omega) only [li, ll, nI_add, nI_mul', nI_sub', nI_div', qRem_nI, lN_add, lN_mul, lN_sub, lN_div', qRemL_lN, qIn_I, qIx_nI, nI_ltI, nI_leI, nI_eq, nI_eqn, nI_eqn', nI_len, nI_ltn, nI_nle', nI_nlt', lN_eqn, lg_lt, lg_gt, lg_eq, lg_le, lg_ge, lgn_lt, lgn_gt, lgn_eq, lgn_le, lgn_ge, pk_lLT, pk_lLE, pk_lEQ, nI_l, lN_i, qShl_n, nI_and, nI_or, lN_and, lN_or, nI_andn, lN_andn, pI_e, pI_f, pI_c, pL_e, pL_f, pL_c, pI_L, pL_I, qB_1, qZb_n, true_and, and_true, forall_const, not_true_eq_false, not_false_eq_true, Nat.reduceLT, Nat.reduceLeDiff, Nat.reduceEqDiff, Nat.reduceAdd, Nat.reduceMul, Nat.reduceSub, Nat.reduceMod, Nat.reduceDiv, false_implies, implies_true, r2.ppl]
      have kt := hX.kt
      refine h w' (rM.mk r2 r hX.okk hX.okk (Nat.le_refl _) (fun i hi => rU_fr (hX.t i (by omega)) (hf 77 (by decide)).1) (fun i hi => hX.okt i (by omega)) ?_ hX.l300 ?_ hX.byt ?_ ?_) (fr_wk hf (by omega))
      · rw [(hf 72 (by decide)).1]; exact hX.len
      · rw [(hf 78 (by decide)).1]; exact hX.tape
      · rw [(hf 72 (by decide)).1]; exact hX.flt
      · rw [(hf 72 (by decide)).1]; exact hX.plc
    | succ k ih =>
      intro i w' hk hi hj h1 hf
      refine A_Mo_back_13 ?_
      simp (disch := omega) only [li, ll, nI_add, nI_mul', nI_sub', nI_div', qRem_nI, lN_add, lN_mul, lN_sub, lN_div', qRemL_lN, qIn_I, qIx_nI, nI_ltI, nI_leI, nI_eq, nI_eqn, nI_eqn', nI_len, nI_ltn, nI_nle', nI_nlt', lN_eqn, lg_lt, lg_gt, lg_eq, lg_le, lg_ge, lgn_lt, lgn_gt, lgn_eq, lgn_le, lgn_ge, pk_lLT, pk_lLE, pk_lEQ, nI_l, lN_i, qShl_n, nI_and, nI_or, lN_and, lN_or, nI_andn, lN_andn, pI_e, pI_f, pI_c, pL_e, pL_f, pL_c, pI_L, pL_I, qB_1, qZb_n, true_and, and_true, forall_const, not_true_eq_false, not_false_eq_true, Nat.reduceLT, Nat.reduceLeDiff, Nat.reduceEqDiff, Nat.reduceAdd, Nat.reduceMul, Nat.reduceSub, Nat.reduceMod, Nat.reduceDiv, false_implies, implies_true]
      refine ⟨fun e => by omega, fun _ => ⟨by omega, by omega, ih (i + 1) _ (by omega) (by omega) (fun j hj2 => ?_) h1 (fr_L hf (Or.inr rfl))⟩⟩
      by_cases e : j = i
      · subst e
        simp (disch := omega) only [li, ll, nI_add, nI_mul', nI_sub', nI_div', qRem_nI, lN_add, lN_mul, lN_sub, lN_div', qRemL_lN, qIn_I, qIx_nI, nI_ltI, nI_leI, nI_eq, nI_eqn, nI_eqn', nI_len, nI_ltn, nI_nle', nI_nlt', lN_eqn, lg_lt, lg_gt, lg_eq, lg_le, lg_ge, lgn_lt, lgn_gt, lgn_eq, lgn_le, lgn_ge, pk_lLT, pk_lLE, pk_lEQ, nI_l, lN_i, qShl_n, nI_and, nI_or, lN_and, lN_or, nI_andn, lN_andn, pI_e, pI_f, pI_c, pL_e, pL_f, pL_c, pI_L, pL_I, qB_1, qZb_n, true_and, and_true, forall_const, not_true_eq_false, not_false_eq_true, Nat.reduceLT, Nat.reduceLeDiff, Nat.reduceEqDiff, Nat.reduceAdd, Nat.reduceMul, Nat.reduceSub, Nat.reduceMod, Nat.reduceDiv, false_implies, implies_true]
        rw [(hf 76 (by decide)).2]
      · simp (disch := omega) only [li, ll, nI_add, nI_mul', nI_sub', nI_div', qRem_nI, lN_add, lN_mul, lN_sub, lN_div', qRemL_lN, qIn_I, qIx_nI, nI_ltI, nI_leI, nI_eq, nI_eqn, nI_eqn', nI_len, nI_ltn, nI_nle', nI_nlt', lN_eqn, lg_lt, lg_gt, lg_eq, lg_le, lg_ge, lgn_lt, lgn_gt, lgn_eq, lgn_le, lgn_ge, pk_lLT, pk_lLE, pk_lEQ, nI_l, lN_i, qShl_n, nI_and, nI_or, lN_and, lN_or, nI_andn, lN_andn, pI_e, pI_f, pI_c, pL_e, pL_f, pL_c, pI_L, pL_I, qB_1, qZb_n, true_and, and_true, forall_const, not_true_eq_false, not_false_eq_true, Nat.reduceLT, Nat.reduceLeDiff, Nat.reduceEqDiff, Nat.reduceAdd, Nat.reduceMul, Nat.reduceSub, Nat.reduceMod, Nat.reduceDiv, false_implies, implies_true]
        exact hj j (by omega)
  exact loop _ 0 w1 rfl (by omega) (fun j hj => by omega) rfl (fr_wk f1 (fun c e => Or.inl e))
end Tape
