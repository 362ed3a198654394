/-! give and mend of the reference. -/
section GiveM
variable {s : Nat × (Nat → Int32)} {d : Nat} {w : qW} {Q : Int32 → qW → Prop} {QL : Int64 → qW → Prop} {R : qW → Prop} {N S K : vS} {T : Nat → vT} {Z : vZ}
theorem tk1_o {w w' : qW} {p q v : Nat} (h : tk1 w T S q) (hq : ¬ q = p) (e83 : w'.1 83 q = w.1 83 q) (e84 : w'.1 84 q = w.1 84 q) (e85 : ∀ c, c < 60 → w'.1 85 (60 * q + c) = w.1 85 (60 * q + c)) (e86 : ∀ c, c < 999 → w'.1 86 (999 * q + c) = w.1 86 (999 * q + c)) (o : okS S) : tk1 w' T (sPut S 10 p v) q := by
  have oc := o.clk
  have od := o.day
  have en : sPut S 10 p v 10 q = S 10 q := sP_f hq
  refine tk1.mk ?_ ?_ ?_ ?_
  · rw [en, e83]; exact h.num
  · rw [e84]; exact h.fst
  · intro c hc
    have hc : c < S 2 0 := hc
    rw [e85 c (by omega), brd_eq (N := S) (N' := sPut S 10 p v) rfl en rfl]
    exact h.cls c hc
  · intro t ht
    have ht : t < S 1 0 := ht
    rw [e86 t (by omega)]
    have : due (sPut S 10 p v) q t = due S q t := by unfold due; rw [en]; rfl
    rw [this]
    exact h.dun t ht
theorem rQ.put {w : qW} {p v : Nat} (hd : 4 ≤ d) (hR : rQ w N K T Z S) (hp : p < S 0 0) (hv : 1 ≤ v ∧ v ≤ 9999) (hQ : ∀ w', rQ w' N K T Z (sPut S 10 p v) → fr (fun c => 80 ≤ c ∧ c ≤ 86) w w' → R w') : qCall (some s) d 254 [.ref 72, .int (nI p)] (qPutI w 83 p (nI v)) (qQv R) := by
  have o := hR.ok
  have o0 := o.p12
  have f1 : fr (fun c => c = 83) w (qPutI w 83 p (nI v)) := fr_pI rfl
  have hX1 := hR.x.keep f1 (fun c h1 h2 => by omega)
  have k := hR.tk p hp
  have al : alike (sPut S 10 p v) N := hR.al
  refine m_bar (S := sPut S 10 p v) hd hX1 al (by omega) (by rw [pI_e, sP_e]) (by rw [pI_c (by decide)]; exact k.fst) (by rw [sP_e]; exact hv) (o.fst p hp) ?_
  intro w2 f2 t2 g1 g2
  refine hQ w2 (rQ.mk (hX1.keep f2 (fun c h1 h2 => by unfold barA; omega)) al (nNm_ok o hv) (fun q hq => ?_)) (fr_tr (fr_wk f1 (fun c hc => by omega)) (fr_wk f2 (fun c hc => by unfold barA at hc; omega)))
  by_cases e : q = p
  · subst e; exact t2
  · refine tk1_o (w := w) (hR.tk q hq) e ?_ ?_ (fun c hc => ?_) (fun c hc => ?_) o
    · rw [(f2 83 (by unfold barA; omega)).1, pI_f e]
    · rw [(f2 84 (by unfold barA; omega)).1, pI_c (by decide)]
    · rw [g1 q c e hc, pI_c (by decide)]
    · rw [g2 q c e hc, pI_c (by decide)]
theorem m_giveTo {p k : Nat} (hd : 5 ≤ d) (hR : rQ w N K T Z S) (hp : p < S 0 0) (hk : k < N 6 0) (hQ : ∀ w', rQ w' N K T Z (sPut S 10 p (N 13 k)) → fr (fun c => 80 ≤ c ∧ c ≤ 86) w w' → R w') : qCall (some s) d 304 [.ref 72, .int (nI p), .int (nI k)] w (qQv R) := by
  obtain ⟨d, rfl, hd1⟩ := dS hd
  have o0 := hR.ok.p12
  have o6 := hR.x.okn.gvs
  have e := hR.x.n.gv k hk
  refine A_Mo_giveTo ?_
  rw [show (55 : Int32) = nI 55 from rfl, nI_add, qIx_nI (by omega), qIx_nI (by omega), e]
  exact ⟨qIn_nI (by omega) (by decide), qIn_nI (by omega) (by decide), rQ.put hd1 hR hp (hR.x.okn.gv k hk) hQ⟩
theorem rQ.hi {w w' : qW} {A : Nat → Prop} (h : rQ w N K T Z S) (hf : fr A w w') (hA : ∀ c, A c → 90 ≤ c) : rQ w' N K T Z S := h.keep2 hf (fun c => ⟨fun _ _ q => by have := hA c q; omega, fun _ _ q => by have := hA c q; omega⟩)
theorem m_mend {q : Int32} (hd : 8 ≤ d) (hX : rM w N K T Z) (hy : ∀ w', vMnd q → rM w' N K T Z → fr (fun c => 72 ≤ c) w w' → Q (fMnd T N q) w') (hn : ¬ vMnd q → Q (-1000000) w) : qCall (some s) d 305 [.ref 72, .int q] w (qQi Q) := by
  obtain ⟨d, rfl, hd1⟩ := dS hd
  have o := hX.okn
  have o0 := o.p12
  have o6 := o.gvs
  have o7 := o.nds
  refine A_Mo_mend (m_isInB (by omega) (fun g => n1 ?_) (fun g => n0 (hn g)))
  refine m_take' (by omega) hX ?_
  intro w1 f1 hX1 t1
  have f1' : fr (fun c => 72 ≤ c) w w1 := fr_wk f1 (fun c hc => by omega)
  refine m_worthOfAll hd1 (rQ_of hX1 t1) (nrm_rf N) ?_
  intro w2 hR2 f2
  have f2' : fr (fun c => 72 ≤ c) w w2 := fr_tr f1' (fr_wk f2 (fun c hc => by unfold wmA at hc; omega))
  refine lpU (i := 0) (n := N 0 0) (I := fun i w3 => fr (fun c => 72 ≤ c) w w3 ∧ rQ w3 N K T Z N) (P := fun i w3 => ∀ (p : Int × Nat) (v : Int32), p = bmF T N (i * N 6 0) → (¬ p.2 = 0 → v = nI (N 13 ((p.2 - 1) % N 6 0))) → qAt s d c_Mo_mend (qQi Q) 30 [some (.ref 72), some (.int q), some (.int (iZ p.1)), some (.int (if p.2 = 0 then -1 else nI ((p.2 - 1) / N 6 0))), some (.int v), some (.int (nI i)), none, none] [] w3) ?_ ?_ (Nat.zero_le _) ⟨f2', hR2⟩ (wtT T N (N 7 0), 0) (nI 0) (by rw [Nat.zero_mul]; rfl) (fun h => absurd rfl h)
  · intro w3 ⟨f3, hR3⟩ p v hp hv
    have hz := hy w3 g hR3.x f3
    unfold fMnd at hz
    rw [← hp] at hz
    refine A_Mo_mend_30 ?_
    have e0 : w3.1 73 0 = nI (N 0 0) := hR3.ppl
    rw [qIx_0, e0]
    refine ⟨qIn_0 (by decide) (by decide), fun _ => ?_, fun g => absurd (Int32.le_refl _) g⟩
    by_cases e : p.2 = 0
    · rw [if_pos e] at hz ⊢
      exact ⟨fun g => absurd g (by decide), fun _ => hz⟩
    · rw [if_neg e] at hz ⊢
      have bb := (bmF_b T o (N 0 0 * N 6 0)).2.2
      rw [← hp] at bb
      have b2 : N 0 0 * N 6 0 ≤ 12 * 6 := Nat.mul_le_mul o0 o6
      have b3 : (p.2 - 1) / N 6 0 ≤ p.2 - 1 := Nat.div_le_self _ _
      rw [hv e]
      refine ⟨fun _ => ⟨fun q0 => ⟨fun q1 => ?_, fun q1 => ?_⟩, fun q0 => ?_⟩, fun g => absurd (nI_pos' (by omega)) g⟩
      · rw [if_neg q0, if_neg q1] at hz; exact hz
      · rw [if_neg q0, if_pos q1] at hz; exact hz
      · rw [if_pos q0] at hz; exact hz
  · intro i w3 hi ⟨f3, hR3⟩ ih p v hp hv
    have ni := o.num i hi
    refine A_Mo_mend_30 ?_
    have e0 : w3.1 73 0 = nI (N 0 0) := hR3.ppl
    rw [qIx_0, e0, nI_leI (by omega) (by omega)]
    refine ⟨qIn_0 (by decide) (by decide), fun g => absurd g (by omega), fun _ => ?_⟩
    refine lpU (i := 0) (n := N 6 0) (I := fun j w4 => fr (fun c => 72 ≤ c) w w4 ∧ ∃ b, (1 ≤ b ∧ b ≤ 9999) ∧ rQ w4 N K T Z (sPut N 10 i b)) (P := fun j w4 => ∀ (p : Int × Nat) (v : Int32), p = bmF T N (i * N 6 0 + j) → (¬ p.2 = 0 → v = nI (N 13 ((p.2 - 1) % N 6 0))) → qAt s d c_Mo_mend (qQi Q) 44 [some (.ref 72), some (.int q), some (.int (iZ p.1)), some (.int (if p.2 = 0 then -1 else nI ((p.2 - 1) / N 6 0))), some (.int v), some (.int (nI i)), some (.int (nI j)), none] [] w4) ?_ ?_ (Nat.zero_le _) ?_ p v hp hv
    · intro w4 ⟨f4, b, hb, hR4⟩ p v hp hv
      refine A_Mo_mend_44 ?_
      have e6 : w4.1 73 6 = nI (N 6 0) := hR4.x.n.gvs
      have en : w4.1 73 (10 + 2 * i) = nI (N 10 i) := hR4.x.n.num i hi
      rw [show qIx (6 : Int32) = 6 from rfl, e6, show (10 : Int32) = nI 10 from rfl, show (2 : Int32) = nI 2 from rfl, nI_mul', nI_add, qIx_nI (by omega), qIx_nI (by omega), en]
      refine ⟨qIn_nI (j := 6) (by decide) (by decide), fun _ => ⟨qIn_nI (by omega) (by decide), qIn_nI (by omega) (by decide), rQ.put (by omega) hR4 hi ni (fun w5 hR5 f5 => ?_)⟩, fun g => absurd (Int32.le_refl _) g⟩
      have eN : sPut (sPut N 10 i b) 10 i (N 10 i) = N := by
        funext r j
        unfold sPut
        by_cases e : r = 10 ∧ j = i
        · rw [if_pos e, e.1, e.2]
        · rw [if_neg e, if_neg e]
      rw [eN] at hR5
      have et : (i + 1) * N 6 0 = i * N 6 0 + N 6 0 := by rw [Nat.add_mul, Nat.one_mul]
      rw [nI_1]
      exact ih w5 ⟨fr_tr f4 (fr_wk f5 (fun c hc => by omega)), hR5⟩ p v (by rw [et]; exact hp) hv
    · intro j w4 hj ⟨f4, b, hb, hR4⟩ ihj p v hp hv
      have gj := o.gv j hj
      have tdiv : (i * N 6 0 + j) / N 6 0 = i := by
        rw [Nat.mul_comm, Nat.mul_add_div (by omega), Nat.div_eq_of_lt hj, Nat.add_zero]
      have tmod : (i * N 6 0 + j) % N 6 0 = j := by
        rw [Nat.mul_comm, Nat.mul_add_mod, Nat.mod_eq_of_lt hj]
      refine A_Mo_mend_44 ?_
      have e6 : w4.1 73 6 = nI (N 6 0) := hR4.x.n.gvs
      rw [show qIx (6 : Int32) = 6 from rfl, e6, nI_leI (by omega) (by omega)]
      refine ⟨qIn_nI (j := 6) (by decide) (by decide), fun g => absurd g (by omega), fun _ => m_giveTo (by omega) hR4 hi hj (fun w5 hR5 f5 => ?_)⟩
      have eN : sPut (sPut N 10 i b) 10 i (N 13 j) = mdS N (i * N 6 0 + j) := by
        unfold mdS
        rw [tdiv, tmod]
        funext r q
        unfold sPut
        by_cases e : r = 10 ∧ q = i
        · rw [if_pos e, if_pos e]
        · rw [if_neg e, if_neg e, if_neg e]
      have hR5' := hR5
      rw [eN] at hR5'
      have nrmS : nrm (mdS N (i * N 6 0 + j)) N := fun r hr q => by unfold mdS sPut; rw [if_neg (fun e => hr e.1)]
      refine m_worthOfAll (by omega) hR5' nrmS (fun w6 hR6 f6 => ?_)
      have f6' : fr (fun c => 72 ≤ c) w w6 := fr_tr f4 (fr_tr (fr_wk f5 (fun c hc => by omega)) (fr_wk f6 (fun c hc => by unfold wmA at hc; omega)))
      have hR6' : rQ w6 N K T Z (sPut N 10 i (N 13 j)) := by
        unfold mdS at hR6
        rw [tdiv, tmod] at hR6
        exact hR6
      have bb := bmF_b T o (i * N 6 0 + j)
      rw [← hp] at bb
      have pb := wtT_b T (mdS N (i * N 6 0 + j)) (N 7 0)
      have eg : w6.1 73 (55 + j) = nI (N 13 j) := hR6.x.n.gv j hj
      rw [iZ_lt (by omega) (by omega), show (55 : Int32) = nI 55 from rfl, nI_add, qIx_nI (by omega), eg, nI_1]
      have eb : bmF T N (i * N 6 0 + (j + 1)) = if (bmF T N (i * N 6 0 + j)).1 < wtT T (mdS N (i * N 6 0 + j)) (N 7 0) then (wtT T (mdS N (i * N 6 0 + j)) (N 7 0), i * N 6 0 + j + 1) else bmF T N (i * N 6 0 + j) := rfl
      rw [← hp] at eb
      refine ⟨fun g2 => ⟨qIn_nI (by omega) (by decide), ?_⟩, fun g2 => ?_⟩
      · have := ihj w6 ⟨f6', _, gj, hR6'⟩ (wtT T (mdS N (i * N 6 0 + j)) (N 7 0), i * N 6 0 + j + 1) (nI (N 13 j)) (by rw [eb, if_pos g2]) (fun _ => by show _ = nI (N 13 ((i * N 6 0 + j + 1 - 1) % N 6 0)); rw [Nat.add_sub_cancel, tmod])
        have e1 : (if i * N 6 0 + j + 1 = 0 then (-1 : Int32) else nI ((i * N 6 0 + j + 1 - 1) / N 6 0)) = nI i := by rw [if_neg (by omega), Nat.add_sub_cancel, tdiv]
        have this : qAt s d c_Mo_mend (qQi Q) 44 [some (.ref 72), some (.int q), some (.int (iZ (wtT T (mdS N (i * N 6 0 + j)) (N 7 0)))), some (.int (if i * N 6 0 + j + 1 = 0 then (-1 : Int32) else nI ((i * N 6 0 + j + 1 - 1) / N 6 0))), some (.int (nI (N 13 j))), some (.int (nI i)), some (.int (nI (j + 1))), none] [] w6 := this
        rw [e1] at this
        exact this
      · exact ihj w6 ⟨f6', _, gj, hR6'⟩ p v (by rw [eb, if_neg g2]) hv
    · refine ⟨f3, N 10 i, ni, ?_⟩
      have eN : sPut N 10 i (N 10 i) = N := by
        funext r q
        unfold sPut
        by_cases e : r = 10 ∧ q = i
        · rw [if_pos e, e.1, e.2]
        · rw [if_neg e]
      rw [eN]
      exact hR3
end GiveM
