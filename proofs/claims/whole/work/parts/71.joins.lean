/-! join on both sides; the numbers that leave told rests, as both hold them. -/
section Joins
variable {s : Nat × (Nat → Int32)} {d : Nat} {w : qW} {Q : Int32 → qW → Prop} {QL : Int64 → qW → Prop} {R : qW → Prop} {N S K : vS} {T : Nat → vT} {Z : vZ}
theorem cop_mod {sp n : Nat} (hn : 1 ≤ n) : Nat.gcd (n / Nat.gcd sp n) (sp / Nat.gcd sp n % (n / Nat.gcd sp n)) = 1 := by
  have hg : 0 < Nat.gcd sp n := Nat.gcd_pos_of_pos_right _ hn
  have hc : Nat.Coprime (sp / Nat.gcd sp n) (n / Nat.gcd sp n) := Nat.coprime_div_gcd_div_gcd hg
  have h : Nat.gcd (sp / Nat.gcd sp n) (n / Nat.gcd sp n) = 1 := hc
  rw [Nat.gcd_comm, ← Nat.gcd_rec, Nat.gcd_comm]
  exact h
/-- how the class holds start and step -/
def cst (w : qW) (st sp : Nat) : Prop := w.2.1 53 2 = lN st ∧ w.2.1 53 3 = lN sp ∧ (sp ≤ tLast ∨ sp = tLast + 1)
theorem c_join {J : List (Nat × Nat)} {st sp f n : Nat} (hd : 3 ≤ d) (hc : cst w st sp) (h : jv J st sp) (hb : w.1 53 4 = nI 0) (hf : f ≤ 9999) (hn : 1 ≤ n) (hn2 : n ≤ 9999) (hcp : ∀ q, q ∈ J → ((Nat.gcd q.2 n : Nat) : Int) ∣ (q.1 : Int) - (f : Int))
    (hQ : ∀ w', fr (fun c => c = 53) w w' → ((w'.1 53 4 = nI 1 ∧ ∀ x, x ≤ tLast → ¬ slv (J ++ [(f, n)]) x) ∨ (w'.1 53 4 = nI 0 ∧ ∃ st' sp', cst w' st' sp' ∧ jv (J ++ [(f, n)]) st' sp')) → R w') : qCall (some s) d 114 [.ref 53, .int (nI f), .int (nI n)] w (qQv R) := by
  obtain ⟨d, rfl, hd1⟩ := dS hd
  obtain ⟨e2, e3, hsp⟩ := hc
  have hL := tL
  have hst := h.le
  have hp := h.pos
  refine A_Meetings_join ?_
  rw [e2, e3, nI_l (by omega), nI_l (by omega), kL, lg_le, pk_lLE (by omega) (by omega)]
  refine ⟨fun g => ?_, fun g => ?_⟩
  · have g : sp ≤ tLast := g
    have hg0 : 0 < Nat.gcd sp n := Nat.gcd_pos_of_pos_right _ hn
    have hgn : Nat.gcd sp n ≤ n := Nat.gcd_le_right _ hn
    have hm1 : 1 ≤ n / Nat.gcd sp n := (Nat.one_le_div_iff hg0).mpr hgn
    have hm2 : n / Nat.gcd sp n ≤ n := Nat.div_le_self _ _
    have hs2 : sp / Nat.gcd sp n ≤ sp := Nat.div_le_self _ _
    have cp := jv_comp h g hn hcp
    refine c_gcd (by omega) (by omega) (by omega) ?_
    have ed : (lN f - lN st) / lN (Nat.gcd sp n) = lZ (((f : Int) - (st : Int)).tdiv ((Nat.gcd sp n : Nat) : Int)) := by
      rw [lN_Z, lN_Z st, lN_Z (Nat.gcd sp n), lZ_sub, lZ_div (by omega) (by omega)]
    rw [e2, ed, lN_div' (by omega) (by omega) (by omega), eqL0 (by omega)]
    have tb : (((f : Int) - (st : Int)).tdiv ((Nat.gcd sp n : Nat) : Int)).natAbs ≤ ((f : Int) - (st : Int)).natAbs := by
      rw [Int.natAbs_tdiv]; exact Nat.div_le_self _ _
    generalize hX : ((f : Int) - (st : Int)).tdiv ((Nat.gcd sp n : Nat) : Int) = X at *
    refine ⟨by omega, by omega, c_floorMod (by omega) hm1 (by omega) (by omega) (by omega) ⟨by omega, ?_⟩⟩
    rw [eqL0 (by omega), e3, lN_div' (by omega) (by omega) (by omega), qRemL_lN (by omega) (by omega) (by omega)]
    refine ⟨by omega, c_inverse hd1 hm1 (by omega) (Nat.mod_lt _ hm1) (cop_mod hn) ?_⟩
    intro i hi
    have h1 := Int.emod_nonneg X (b := ((n / Nat.gcd sp n : Nat) : Int)) (by omega)
    have h2 := Int.emod_lt_of_pos X (b := ((n / Nat.gcd sp n : Nat) : Int)) (by omega)
    obtain ⟨Y, hY⟩ : ∃ Y : Nat, X % ((n / Nat.gcd sp n : Nat) : Int) = (Y : Int) := ⟨(X % ((n / Nat.gcd sp n : Nat) : Int)).toNat, by omega⟩
    rw [hY] at h2
    have hYi : Y * i < 100000000 := by
      have q1 : Y < 10000 := by omega
      have q2 : i < 10000 := by have := hi.1; omega
      have := Nat.mul_lt_mul_of_lt_of_le q1 (Nat.le_of_lt q2) (by omega)
      omega
    have hkm : Y * i % (n / Nat.gcd sp n) < n / Nat.gcd sp n := Nat.mod_lt _ hm1
    have kd : (n : Int) ∣ ((st + (Y * i % (n / Nat.gcd sp n)) * sp : Nat) : Int) - (f : Int) := by
      refine k_ok (i := i) hn cp hi.2 ?_
      rw [hX, hY, Int.natCast_emod, Int.natCast_mul]
    have jj := jv_join h hn g hkm kd
    have hdl : (tLast - st) / sp ≤ tLast - st := Nat.div_le_self _ _
    have kb : Y * i % (n / Nat.gcd sp n) ≤ (tLast - st) / sp ↔ st + (Y * i % (n / Nat.gcd sp n)) * sp ≤ tLast := by
      rw [Nat.le_div_iff_mul_le (by omega)]; omega
    have sb : sp ≤ tLast / (n / Nat.gcd sp n) ↔ sp * (n / Nat.gcd sp n) ≤ tLast := Nat.le_div_iff_mul_le (by omega)
    have hdm : tLast / (n / Nat.gcd sp n) ≤ tLast := Nat.div_le_self _ _
    rw [hY, lZ_lN, lN_mul, qRemL_lN (by omega) (by omega) (by omega), e2, e3, lN_sub hst, lN_div' (by omega) (by omega) (by omega), lg_le, pk_lLE (by omega) (by omega), kb, lN_div' (by omega) (by omega) (by omega), lg_le, pk_lLE (by omega) (by omega), sb, lN_mul, lN_mul, lN_add, eqL0 (by omega)]
    refine ⟨by omega, by omega, fun q => ⟨by omega, fun q2 => ?_, fun q2 => ?_⟩, fun q => ?_⟩
    · refine hQ _ (fr_L (fr_pL rfl) rfl) (Or.inr ⟨hb, _, _, ⟨?_, ?_, Or.inl q2⟩, jj.2 q (sp * (n / Nat.gcd sp n)) (fun _ => rfl) (fun q3 => by omega)⟩)
      · rw [pL_f (by decide), pL_e]
      · rw [pL_e]
    · refine hQ _ (fr_L (fr_pL rfl) rfl) (Or.inr ⟨hb, _, _, ⟨?_, ?_, Or.inr rfl⟩, jj.2 q (tLast + 1) (fun q3 => absurd q3 q2) (fun _ => by omega)⟩)
      · rw [pL_f (by decide), pL_e]
      · rw [pL_e]; rfl
    · refine hQ _ (fr_pI rfl) (Or.inl ⟨?_, jj.1 q⟩)
      rw [pI_e]; rfl
  · have g : tLast < sp := by
      have : ¬ sp ≤ tLast := g
      omega
    have jj := jv_bigj (f := f) (n := n) h g
    have dv : (lg_cmp (qRemL (lN st - lN f) (lN n)) (0 : Int64) = 0) ↔ (n : Int) ∣ (st : Int) - (f : Int) := by
      have hb2 : (((st : Int) - (f : Int)).tmod (n : Int)).natAbs < n := by
        rw [Int.natAbs_tmod]
        exact Nat.mod_lt _ (by omega)
      rw [lg_eq, lN_Z, lN_Z f, lN_Z n, lZ_sub, qRemL_Z (by omega) (by omega), show (0 : Int64) = lZ 0 from rfl, lZ_eq (by omega) (by omega)]
      exact ⟨fun q => Int.dvd_of_tmod_eq_zero q, fun q => Int.tmod_eq_zero_of_dvd q⟩
    rw [dv, eqL0 (by omega)]
    refine ⟨by omega, fun q => ?_, fun q => ?_⟩
    · refine hQ _ (fr_pI rfl) (Or.inr ⟨by rw [pI_e]; rfl, st, sp, ⟨e2, e3, hsp⟩, jj.1 q⟩)
    · refine hQ _ (fr_pI rfl) (Or.inl ⟨by rw [pI_e]; rfl, jj.2 q⟩)
/-- how the reference holds them -/
def tBey : Nat := 2000000000000000000
theorem tB : tBey = 2000000000000000000 := rfl
theorem kB : (2000000000000000000 : Int64) = lN tBey := rfl
def mst (w : qW) (st sp : Nat) : Prop := w.2.1 72 31 = lN st ∧ w.2.1 72 32 = lN sp ∧ (sp ≤ tLast ∨ sp = tBey)
/-- nothing but least and step has changed -/
def frM (w w' : qW) : Prop := w'.1 = w.1 ∧ ∀ c, ¬ c = 72 → w'.2.1 c = w.2.1 c
theorem frM_rf (w : qW) : frM w w := ⟨rfl, fun _ _ => rfl⟩
theorem frM_tr {w w' w'' : qW} (h : frM w w') (h' : frM w' w'') : frM w w'' := ⟨h'.1.trans h.1, fun c hc => (h'.2 c hc).trans (h.2 c hc)⟩
theorem frM_pL (w : qW) (f : Nat) (v : Int64) : frM w (qPutL w 72 f v) := ⟨rfl, fun c hc => funext fun g => pL_c hc⟩
theorem rM.frM {w w' : qW} (h : rM w N K T Z) (f : frM w w') : rM w' N K T Z := by
  unfold rM rR rU at *
  rw [f.1, f.2 75 (by decide), f.2 76 (by decide)]
  exact h
theorem tkA.frM {w w' : qW} (h : tkA w T S) (f : frM w w') : tkA w' T S := by
  unfold tkA tk1 at *
  rw [f.1]
  exact h
theorem m_join {J : List (Nat × Nat)} {st sp p : Nat} (hd : 2 ≤ d) (hc : mst w st sp) (h : jv J st sp) (hT : tkA w T S) (oS : okS S) (hp : p < S 0 0) (hcp : ∀ q, q ∈ J → ((Nat.gcd q.2 (S 10 p) : Nat) : Int) ∣ (q.1 : Int) - (S 11 p : Int))
    (hQ : ∀ w' b, frM w w' → ((b = 0 ∧ ∀ x, x ≤ tLast → ¬ slv (J ++ [(S 11 p, S 10 p)]) x) ∨ (b = 1 ∧ ∃ st' sp', mst w' st' sp' ∧ jv (J ++ [(S 11 p, S 10 p)]) st' sp')) → Q b w') : qCall (some s) d 275 [.ref 72, .int (nI p)] w (qQi Q) := by
  obtain ⟨d, rfl, hd1⟩ := dS hd
  obtain ⟨e2, e3, hsp⟩ := hc
  have hL := tL
  have hB := tB
  have hst := h.le
  have hps := h.pos
  have o0 := oS.p12
  have k := hT p hp
  have on := oS.num p hp
  have of := oS.fst p hp
  generalize hfe : S 11 p = f at *
  generalize hne : S 10 p = n at *
  obtain ⟨hn, hn2⟩ := on
  have en := k.num
  have ef := k.fst
  rw [hne] at en
  rw [hfe] at ef
  refine A_Mo_join ⟨qIn_nI (by omega) (by decide), ?_⟩
  rw [qIx_nI (by omega), e2, e3, en, ef, nI_l (by omega), nI_l (by omega), kB, lg_eq, pk_lEQ (by omega) (by omega)]
  refine ⟨fun g => ?_, fun g => ?_⟩
  · have g : sp ≤ tLast := by
      rcases hsp with q | q
      · exact q
      · exact absurd q g
    have hg0 : 0 < Nat.gcd sp n := Nat.gcd_pos_of_pos_right _ hn
    have hgn : Nat.gcd sp n ≤ n := Nat.gcd_le_right _ hn
    have hm1 : 1 ≤ n / Nat.gcd sp n := (Nat.one_le_div_iff hg0).mpr hgn
    have hm2 : n / Nat.gcd sp n ≤ n := Nat.div_le_self _ _
    have hs2 : sp / Nat.gcd sp n ≤ sp := Nat.div_le_self _ _
    have cp := jv_comp h g hn hcp
    refine m_common (by omega) (by omega) (by omega) ?_
    have ed : (lN f - lN st) / lN (Nat.gcd sp n) = lZ (((f : Int) - (st : Int)).tdiv ((Nat.gcd sp n : Nat) : Int)) := by
      rw [lN_Z, lN_Z st, lN_Z (Nat.gcd sp n), lZ_sub, lZ_div (by omega) (by omega)]
    have tb : (((f : Int) - (st : Int)).tdiv ((Nat.gcd sp n : Nat) : Int)).natAbs ≤ ((f : Int) - (st : Int)).natAbs := by
      rw [Int.natAbs_tdiv]; exact Nat.div_le_self _ _
    rw [e2, e3, ef, nI_l (by omega), ed, lN_div' (by omega) (by omega) (by omega), lN_div' (by omega) (by omega) (by omega), eqL0 (by omega), eqL0 (by omega)]
    generalize hX : ((f : Int) - (st : Int)).tdiv ((Nat.gcd sp n : Nat) : Int) = X at *
    refine ⟨by omega, qIn_nI (by omega) (by decide), by omega, by omega, by omega, by omega, m_inverse hd1 hm1 (by omega) (by omega) (cop_mod hn) ?_⟩
    intro i hi
    have h1 := Int.emod_nonneg X (b := ((n / Nat.gcd sp n : Nat) : Int)) (by omega)
    have h2 := Int.emod_lt_of_pos X (b := ((n / Nat.gcd sp n : Nat) : Int)) (by omega)
    obtain ⟨Y, hY⟩ : ∃ Y : Nat, X % ((n / Nat.gcd sp n : Nat) : Int) = (Y : Int) := ⟨(X % ((n / Nat.gcd sp n : Nat) : Int)).toNat, by omega⟩
    rw [hY] at h2
    have hYi : Y * i < 100000000 := by
      have q1 : Y < 10000 := by omega
      have q2 : i < 10000 := by have := hi.1; omega
      have := Nat.mul_lt_mul_of_lt_of_le q1 (Nat.le_of_lt q2) (by omega)
      omega
    have hkm : Y * i % (n / Nat.gcd sp n) < n / Nat.gcd sp n := Nat.mod_lt _ hm1
    have kd : (n : Int) ∣ ((st + (Y * i % (n / Nat.gcd sp n)) * sp : Nat) : Int) - (f : Int) := by
      refine k_ok (i := i) hn cp hi.2 ?_
      rw [hX, hY, Int.natCast_emod, Int.natCast_mul]
    have jj := jv_join h hn g hkm kd
    have sb : sp ≤ tLast / (n / Nat.gcd sp n) ↔ sp * (n / Nat.gcd sp n) ≤ tLast := Nat.le_div_iff_mul_le (by omega)
    have hdm : tLast / (n / Nat.gcd sp n) ≤ tLast := Nat.div_le_self _ _
    have hb2 : (X.tmod ((n / Nat.gcd sp n : Nat) : Int)).natAbs < n / Nat.gcd sp n := by
      rw [Int.natAbs_tmod, Int.natAbs_natCast]
      exact Nat.mod_lt _ (by omega)
    have ev : qRemL (qRemL (qRemL (lZ X) (lN (n / Nat.gcd sp n)) + lN (n / Nat.gcd sp n)) (lN (n / Nat.gcd sp n)) * lN i) (lN (n / Nat.gcd sp n)) = lN (Y * i % (n / Nat.gcd sp n)) := by
      rw [lN_Z (n / Nat.gcd sp n), qRemL_Z (by omega) (by omega), lZ_add, qRemL_Z (by omega) (by omega), tm_em hm1, hY, lZ_lN, lZ_lN, lN_mul, qRemL_lN (by omega) (by omega) (by omega)]
    rw [ev, lg_le, show (lN (Y * i % (n / Nat.gcd sp n)) ≤ (0 : Int64)) ↔ (Y * i % (n / Nat.gcd sp n) ≤ 0) from pk_lLE (b := 0) (by omega) (by omega), eqL0 (by omega)]
    generalize hk : Y * i % (n / Nat.gcd sp n) = kk at *
    have fin : st + kk * sp ≤ tLast → qAt s d c_Mo_join (qQi Q) 134 [some (.ref 72), none, none, none, none, none, some (.long (lN (n / Nat.gcd sp n))), none, none, none, some (.long (lN kk)), none] [] w := by
      intro q
      refine A_Mo_join_134 ?_
      rw [e2, e3, lN_mul, lN_mul, lN_add, kL, lN_div' (by omega) (by omega) (by omega), lg_le, pk_lLE (by omega) (by omega), sb, eqL0 (by omega)]
      refine ⟨by omega, fun q2 => ?_, fun q2 => ?_⟩
      · refine hQ _ 1 (frM_tr (frM_pL _ _ _) (frM_pL _ _ _)) (Or.inr ⟨rfl, _, _, ⟨?_, ?_, Or.inl q2⟩, jj.2 q (sp * (n / Nat.gcd sp n)) (fun _ => rfl) (fun q3 => by omega)⟩)
        · rw [pL_f (by decide), pL_e]
        · rw [pL_e]
      · refine hQ _ 1 (frM_tr (frM_pL _ _ _) (frM_pL _ _ _)) (Or.inr ⟨rfl, _, _, ⟨?_, ?_, Or.inr rfl⟩, jj.2 q tBey (fun q3 => absurd q3 q2) (fun _ => by omega)⟩)
        · rw [pL_f (by decide), pL_e]
        · rw [pL_e]; rfl
    refine ⟨by omega, fun q => fin (by rw [Nat.le_zero.mp q]; omega), fun q => ⟨by omega, ?_⟩⟩
    have hdl : (tLast - st) / kk ≤ tLast - st := Nat.div_le_self _ _
    have kb : sp ≤ (tLast - st) / kk ↔ st + kk * sp ≤ tLast := by
      rw [Nat.le_div_iff_mul_le (by omega), Nat.mul_comm]; omega
    rw [kL, e2, e3, lN_sub hst, lN_div' (by omega) (by omega) (by omega), lg_le, pk_lLE (by omega) (by omega), kb]
    exact ⟨fin, fun q2 => hQ w 0 (frM_rf w) (Or.inl ⟨rfl, jj.1 q2⟩)⟩
  · have g : tLast < sp := by omega
    have jj := jv_bigj (f := f) (n := n) h g
    have dv : (lg_cmp (qRemL (lN st - lN f) (lN n)) (0 : Int64) = 0) ↔ (n : Int) ∣ (st : Int) - (f : Int) := by
      have hb2 : (((st : Int) - (f : Int)).tmod (n : Int)).natAbs < n := by
        rw [Int.natAbs_tmod]
        exact Nat.mod_lt _ (by omega)
      rw [lg_eq, lN_Z, lN_Z f, lN_Z n, lZ_sub, qRemL_Z (by omega) (by omega), show (0 : Int64) = lZ 0 from rfl, lZ_eq (by omega) (by omega)]
      exact ⟨fun q => Int.dvd_of_tmod_eq_zero q, fun q => Int.tmod_eq_zero_of_dvd q⟩
    rw [dv, eqL0 (by omega)]
    refine ⟨qIn_nI (by omega) (by decide), by omega, fun q => hQ w 0 (frM_rf w) (Or.inl ⟨rfl, jj.2 q⟩), fun q => hQ w 1 (frM_rf w) (Or.inr ⟨rfl, st, sp, ⟨e2, e3, hsp⟩, jj.1 q⟩)⟩
end Joins
