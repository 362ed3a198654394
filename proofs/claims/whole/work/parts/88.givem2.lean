/-! give of the reference. -/
section GiveM2
variable {s : Nat × (Nat → Int32)} {d : Nat} {w : qW} {Q : Int32 → qW → Prop} {QL : Int64 → qW → Prop} {R : qW → Prop} {N S K : vS} {T : Nat → vT} {Z : vZ}
/-- who takes: how many, and whom -/
def tkr (w : qW) (set : Nat) : Prop := w.1 90 0 = nI (gLo set) ∧ (¬ gHi set = gLo set → w.1 90 1 = nI (gHi set))
theorem m_give {set who : Int32} (hd : 9 ≤ d) (hX : rM w N K T Z) (hy : ∀ w', vGiv N set who → rM w' N K T Z → fr (fun c => 72 ≤ c) w w' → Q (fGiv T N (qIx set) who) w') (hn : ¬ vGiv N set who → Q (-1000000) w) : qCall (some s) d 303 [.ref 72, .int set, .int who] w (qQi Q) := by
  obtain ⟨d, rfl, hd1⟩ := dS hd
  have o := hX.okn
  have o0 := o.p12
  have o6 := o.gvs
  have o7 := o.nds
  refine A_Mo_give (m_isSet (by omega) hX.n.ppl o0 (fun v1 => b1 ?_) (fun g => b0 (hn (fun q => g q.1))))
  obtain ⟨n, h1, h2, h3, e, e2⟩ := vSet_x o0 v1
  have cb := cntB_le n
  unfold vGiv at hn hy
  rw [e2] at hn hy
  subst e
  refine m_size (by omega) h3 ?_
  have e6 : w.1 73 6 = nI (N 6 0) := hX.n.gvs
  rw [show ((2 : Int32) < nI (cntB n)) ↔ 2 < cntB n from nI_ltI (a := 2) (by omega) (by omega), show qIx (6 : Int32) = 6 from rfl, e6, eq0 (by omega)]
  refine ⟨fun g => hn (fun q => by have := q.2.1; omega), fun v2 => ⟨qIn_nI (j := 6) (by decide) (by decide), fun g => hn (fun q => q.2.2.2 g), fun v4 => ?_⟩⟩
  obtain ⟨l1, l2, l3⟩ := lowB_spec h1 h3
  obtain ⟨g1, g2, g3, g4, g5, g6⟩ := gv_spec h1 h3 (by omega)
  have inP : ∀ p, n.testBit p = true → p < N 0 0 := fun p hp => by
    rcases Nat.lt_or_ge p (N 0 0) with g | g
    · exact g
    · rw [bit_hi h2 g] at hp; cases hp
  have lP : gLo n < N 0 0 := inP _ l2
  have hP : gHi n < N 0 0 := inP _ g2
  have hW : gW N n = if gHi n = gLo n then 1 else N 6 0 := by
    unfold gW
    by_cases e : andn n (2 ^ lowB n) = 0
    · rw [if_pos e, if_pos (g4.mp e)]
    · rw [if_neg e, if_neg (fun q => e (g4.mpr q))]
  have hW1 : 1 ≤ gW N n ∧ gW N n ≤ 6 := by
    rw [hW]
    by_cases e : gHi n = gLo n
    · rw [if_pos e]; omega
    · rw [if_neg e]; omega
  have hmW : 1 ≤ N 6 0 * gW N n ∧ N 6 0 * gW N n ≤ 36 := by
    have a := Nat.mul_le_mul o6 hW1.2
    have b := Nat.mul_le_mul (show 1 ≤ N 6 0 by omega) hW1.1
    omega
  have nl := o.num _ lP
  have nh := o.num _ hP
  have cn : cntB n = if gHi n = gLo n then 1 else 2 := by
    rw [g5]
    by_cases e : andn n (2 ^ lowB n) = 0
    · rw [if_pos e, if_pos (g4.mp e)]
    · rw [if_neg e, if_neg (fun q => e (g4.mpr q))]
  have main : (who = -1 ∨ mem12 who n = true) → qCall (some s) d 253 [.ref 72] w (qQv fun w5 => qAt s d c_Mo_give (qQi Q) 60 [some (.ref 72), some (.int (nI n)), some (.int who), some (.int (0 : Int32)), some (.int (0 : Int32)), none, none, none, none, none, none] [] w5) := by
    intro v3
    have vv : vSet (N 0 0) (nI n) ∧ cntB n ≤ 2 ∧ (who = -1 ∨ mem12 who n = true) ∧ ¬ N 6 0 = 0 := ⟨v1, by omega, v3, v4⟩
    refine m_take' (by omega) hX ?_
    intro w1 f1 hX1 t1
    have f1' : fr (fun c => 72 ≤ c) w w1 := fr_wk f1 (fun c hc => by omega)
    refine lpU (i := 0) (n := N 0 0) (I := fun i w2 => fr (fun c => 72 ≤ c) w w2 ∧ rQ w2 N K T Z N ∧ (gLo n < i → w2.1 90 0 = nI (gLo n)) ∧ (¬ gHi n = gLo n → gHi n < i → w2.1 90 1 = nI (gHi n))) (P := fun i w2 => ∀ c, c = (if gLo n < i then 1 else 0) + (if ¬ gHi n = gLo n ∧ gHi n < i then 1 else 0) → qAt s d c_Mo_give (qQi Q) 60 [some (.ref 72), some (.int (nI n)), some (.int who), some (.int (nI c)), some (.int (nI i)), none, none, none, none, none, none] [] w2) ?_ ?_ (Nat.zero_le _) ⟨f1', rQ_of hX1 t1, fun h => absurd h (Nat.not_lt_zero _), fun _ h => absurd h (Nat.not_lt_zero _)⟩ 0 ?_
    · intro w2 ⟨f2, hR2, a1, a2⟩ c hc
      have ec : c = cntB n := by
        rw [hc, cn, if_pos lP]
        by_cases e : gHi n = gLo n
        · rw [if_pos e, if_neg (fun q => q.1 e)]
        · rw [if_neg e, if_pos ⟨e, hP⟩]
      subst ec
      have tk2 : tkr w2 n := ⟨a1 lP, fun e => a2 e hP⟩
      refine A_Mo_give_60 ?_
      have e0 : w2.1 73 0 = nI (N 0 0) := hR2.ppl
      rw [qIx_0, e0]
      refine ⟨qIn_0 (by decide) (by decide), fun _ => ?_, fun g => absurd (Int32.le_refl _) g⟩
      -- the ways
      have ways : qAt s d c_Mo_give (qQi Q) 139 [some (.ref 72), none, some (.int who), some (.int (nI (cntB n))), some (.int (-1 : Int32)), some (.int (nI 0)), some (.int (nI (N 6 0 * gW N n))), some (.int (nI 0)), none, none, none] [] w2 := by
        refine lpU (i := 0) (n := N 6 0 * gW N n) (I := fun t w3 => fr (fun c => 72 ≤ c) w w3 ∧ tkr w3 n ∧ (∃ a b, (1 ≤ a ∧ a ≤ 9999) ∧ (1 ≤ b ∧ b ≤ 9999) ∧ rQ w3 N K T Z (st2 N (gLo n) (gHi n) a b)) ∧ (0 < t → w3.1 92 0 = nI ((bsF T N n t).2 / gW N n) ∧ (¬ gHi n = gLo n → w3.1 92 1 = nI ((bsF T N n t).2 % gW N n)))) (P := fun t w3 => ∀ (M : Int32) (b : Nat), (t = 0 ∧ M = -1 ∧ b = 0 ∨ 0 < t ∧ M = iZ (bsF T N n t).1 ∧ b = 1) → qAt s d c_Mo_give (qQi Q) 139 [some (.ref 72), none, some (.int who), some (.int (nI (cntB n))), some (.int M), some (.int (nI b)), some (.int (nI (N 6 0 * gW N n))), some (.int (nI t)), none, none, none] [] w3) ?_ ?_ (Nat.zero_le _) ⟨f2, tk2, ⟨_, _, nl, nh, by rw [st2_id]; exact hR2⟩, fun h => absurd h (Nat.lt_irrefl _)⟩ (-1) 0 (Or.inl ⟨rfl, rfl, rfl⟩)
        · intro w3 ⟨f3, tk3, ⟨a, b, ha, hb, hR3⟩, bg⟩ M b' hM
          have hM : M = iZ (bsF T N n (N 6 0 * gW N n)).1 := by
            rcases hM with ⟨e, _⟩ | ⟨_, e, _⟩
            · omega
            · exact e
          have bg := bg (by omega)
          have hz := hy w3 vv hR3.x f3
          unfold fGiv at hz
          have bb := (bsF_b T o n (N 6 0 * gW N n)).2.2.1
          have d1 : (bsF T N n (N 6 0 * gW N n)).2 / gW N n < N 6 0 := by
            rw [Nat.div_lt_iff_lt_mul (by omega)]; omega
          have d2 : (bsF T N n (N 6 0 * gW N n)).2 % gW N n < gW N n := Nat.mod_lt _ (by omega)
          refine A_Mo_give_139 ⟨fun _ => ⟨fun q0 => ?_, fun q0 => ?_⟩, fun g => absurd (Int32.le_refl _) g⟩
          · have qn : ¬ who = -1 := fun q => by rw [q] at q0; exact absurd q0 (by decide)
            rw [if_neg qn] at hz
            obtain ⟨j, hj, ej, ej2, hbj⟩ := mem12_x (v3.resolve_left qn)
            rw [ej2] at hz
            refine A_Mo_give_301 ?_
            have at0 : w3.1 90 (qIx (0 : Int32)) = nI (gLo n) := tk3.1
            have at92 : w3.1 92 (qIx (0 : Int32)) = nI ((bsF T N n (N 6 0 * gW N n)).2 / gW N n) := bg.1
            have eg : w3.1 73 (55 + (bsF T N n (N 6 0 * gW N n)).2 / gW N n) = nI (N 13 ((bsF T N n (N 6 0 * gW N n)).2 / gW N n)) := hR3.x.n.gv _ d1
            have llt : gLo n < 12 := l1
            rw [at0, at92, ej, nI_eq (by omega) (by omega), show (55 : Int32) = nI 55 from rfl, nI_add, qIx_nI (by omega), eg, show ((nI (cntB n)) ≤ (0 : Int32)) ↔ cntB n ≤ 0 from nI_leI (b := 0) (by omega) (by omega)]
            refine ⟨fun g => ?_, fun _ => ⟨qIn_0 (by decide) (by decide), fun q1 => ?_, fun q1 => ⟨qIn_0 (by decide) (by decide), qIn_nI (by omega) (by decide), ?_⟩⟩⟩
            · rw [cn] at g
              by_cases e : gHi n = gLo n
              · rw [if_pos e] at g; omega
              · rw [if_neg e] at g; omega
            · have jh : j = gHi n := by
                rcases g3 j hbj with e | e
                · exact absurd e.symm q1
                · exact e
              have ne : ¬ gHi n = gLo n := fun e => q1 (by rw [jh, e])
              rw [if_neg (fun e => q1 e.symm)] at hz
              refine A_Mo_give_301 ?_
              have at1 : w3.1 90 (qIx ((0 : Int32) + 1)) = nI (gHi n) := tk3.2 ne
              have at921 : w3.1 92 (qIx ((0 : Int32) + 1)) = nI ((bsF T N n (N 6 0 * gW N n)).2 % gW N n) := bg.2 ne
              have d2' : (bsF T N n (N 6 0 * gW N n)).2 % gW N n < N 6 0 := by
                have : gW N n = N 6 0 := by rw [hW, if_neg ne]
                rw [this] at d2 ⊢; exact d2
              have eg2 : w3.1 73 (55 + (bsF T N n (N 6 0 * gW N n)).2 % gW N n) = nI (N 13 ((bsF T N n (N 6 0 * gW N n)).2 % gW N n)) := hR3.x.n.gv _ d2'
              rw [at1, at921, nI_eq (by omega) (by omega), show (55 : Int32) = nI 55 from rfl, nI_add, qIx_nI (by omega), eg2, show ((nI (cntB n)) ≤ (0 : Int32) + 1) ↔ cntB n ≤ 1 from nI_leI (b := 1) (by omega) (by omega)]
              have i1 : qIn ((0 : Int32) + 1) 3 := qIn_nI (j := 1) (by decide) (by decide)
              refine ⟨fun g => ?_, fun _ => ⟨i1, fun q2 => absurd jh.symm q2, fun q2 => ⟨i1, qIn_nI (by omega) (by decide), hz⟩⟩⟩
              rw [cn, if_neg ne] at g; omega
            · rw [if_pos q1.symm] at hz; exact hz
          · have qn : who = -1 := by
              rcases v3 with q | q
              · exact q
              · obtain ⟨j, hj, ej, ej2, hbj⟩ := mem12_x q
                rw [ej] at q0
                exact absurd (nI_pos' (by omega)) q0
            rw [if_pos qn] at hz
            rw [hM]; exact hz
        · intro t w3 ht ⟨f3, tk3, ⟨a, b, ha, hb, hR3⟩, bg⟩ ih M b' hM
          have d1 : t / gW N n < N 6 0 := by
            rw [Nat.div_lt_iff_lt_mul (by omega)]; exact ht
          have d2 : t % gW N n < gW N n := Nat.mod_lt _ (by omega)
          have bb := bsF_b T o n t
          -- behind the digits: gifts are laid
          have at198 : ∀ w4 : qW, fr (fun c => c = 91) w3 w4 → w4.1 91 0 = nI (t / gW N n) → (¬ gHi n = gLo n → w4.1 91 1 = nI (t % gW N n)) → qAt s d c_Mo_give (qQi Q) 198 [some (.ref 72), none, some (.int who), some (.int (nI (cntB n))), some (.int M), some (.int (nI b')), some (.int (nI (N 6 0 * gW N n))), some (.int (nI t)), none, some (.int (nI 0)), none] [] w4 := by
            intro w4 f4 z0 z1
            have hR4 := hR3.hi f4 (fun c hc => by omega)
            have e90 : w4.1 90 = w3.1 90 := (f4 90 (by decide)).1
            -- behind the giving
            have weigh : ∀ w5 : qW, fr (fun c => 80 ≤ c ∧ c ≤ 86) w4 w5 → rQ w5 N K T Z (wyF N n t) → qAt s d c_Mo_give (qQi Q) 198 [some (.ref 72), none, some (.int who), some (.int (nI (cntB n))), some (.int M), some (.int (nI b')), some (.int (nI (N 6 0 * gW N n))), some (.int (nI t)), none, some (.int (nI (cntB n))), none] [] w5 := by
              intro w5 f5 hR5
              refine A_Mo_give_198 ⟨fun _ => m_worthOfAll (by omega) hR5 (st2_nrm _ _ _ _ _) (fun w6 hR6 f6 => ?_), fun g => absurd (Int32.le_refl _) g⟩
              have f46 : fr (fun c => 72 ≤ c ∧ ¬ c = 90 ∧ ¬ c = 91 ∧ ¬ c = 92) w4 w6 := fr_tr (fr_wk f5 (fun c hc => by omega)) (fr_wk f6 (fun c hc => by unfold wmA at hc; omega))
              have f6' : fr (fun c => 72 ≤ c) w w6 := fr_tr f3 (fr_tr (fr_wk f4 (fun c hc => by omega)) (fr_wk f46 (fun c hc => hc.1)))
              have e906 : w6.1 90 = w3.1 90 := by rw [(f46 90 (by omega)).1, e90]
              have e916 : w6.1 91 = w4.1 91 := (f46 91 (by omega)).1
              have e926 : w6.1 92 = w3.1 92 := by rw [(f46 92 (by omega)).1, (f4 92 (by decide)).1]
              have okW : (1 ≤ N 13 (t / gW N n) ∧ N 13 (t / gW N n) ≤ 9999) ∧ (1 ≤ N 13 (t % gW N n) ∧ N 13 (t % gW N n) ≤ 9999) := ⟨o.gv _ d1, by
                by_cases e : gHi n = gLo n
                · have : gW N n = 1 := by rw [hW, if_pos e]
                  rw [this] at d2 ⊢
                  have : t % 1 = 0 := by omega
                  rw [this]
                  exact o.gv 0 (by omega)
                · have : gW N n = N 6 0 := by rw [hW, if_neg e]
                  rw [this] at d2 ⊢
                  exact o.gv _ d2⟩
              have pb := wtT_b T (wyF N n t) (N 7 0)
              have eb : bsF T N n (t + 1) = if (bsF T N n t).1 < wtT T (wyF N n t) (N 7 0) then (wtT T (wyF N n t) (N 7 0), t) else bsF T N n t := rfl
              have better : (bsF T N n t).1 < wtT T (wyF N n t) (N 7 0) → qAt s d c_Mo_give (qQi Q) 259 [some (.ref 72), none, some (.int who), some (.int (nI (cntB n))), some (.int (iZ (wtT T (wyF N n t) (N 7 0)))), some (.int (nI 1)), some (.int (nI (N 6 0 * gW N n))), some (.int (nI t)), none, none, some (.int (nI 0))] [] w6 := by
                intro q
                rw [if_pos q] at eb
                have fin : ∀ w7 : qW, fr (fun c => c = 92) w6 w7 → w7.1 92 0 = nI (t / gW N n) → (¬ gHi n = gLo n → w7.1 92 1 = nI (t % gW N n)) → qAt s d c_Mo_give (qQi Q) 259 [some (.ref 72), none, some (.int who), some (.int (nI (cntB n))), some (.int (iZ (wtT T (wyF N n t) (N 7 0)))), some (.int (nI 1)), some (.int (nI (N 6 0 * gW N n))), some (.int (nI t)), none, none, some (.int (nI (cntB n)))] [] w7 := by
                  intro w7 f7 y0 y1
                  refine A_Mo_give_259 ⟨fun _ => ?_, fun g => absurd (Int32.le_refl _) g⟩
                  rw [nI_1]
                  refine ih w7 ⟨fr_tr f6' (fr_wk f7 (fun c hc => by omega)), ?_, ⟨_, _, okW.1, okW.2, hR6.hi f7 (fun c hc => by omega)⟩, fun _ => ?_⟩ _ 1 (Or.inr ⟨by omega, by rw [eb], rfl⟩)
                  · unfold tkr
                    rw [(f7 90 (by decide)).1, e906]
                    exact tk3
                  · rw [eb]; exact ⟨y0, y1⟩
                by_cases e : gHi n = gLo n
                · have c1 : cntB n = 1 := by rw [cn, if_pos e]
                  refine A_Mo_give_259 ⟨fun g => ?_, fun _ => ⟨qIn_nI (by decide) (by decide), qIn_nI (by decide) (by decide), ?_⟩⟩
                  · rw [c1] at g; exact absurd g (by decide)
                  · have := fin (qPutI w6 92 0 (w6.1 91 0)) (fr_pI rfl) (by rw [pI_e, e916]; exact z0) (fun q => absurd e q)
                    rw [c1] at this ⊢
                    exact this
                · have c1 : cntB n = 2 := by rw [cn, if_neg e]
                  refine A_Mo_give_259 ⟨fun g => ?_, fun _ => ⟨qIn_nI (by decide) (by decide), qIn_nI (by decide) (by decide), ?_⟩⟩
                  · rw [c1] at g; exact absurd g (by decide)
                  · refine A_Mo_give_259 ⟨fun g => ?_, fun _ => ⟨qIn_nI (j := 1) (by decide) (by decide), qIn_nI (j := 1) (by decide) (by decide), ?_⟩⟩
                    · rw [c1] at g; exact absurd g (by decide)
                    · have := fin (qPutI (qPutI w6 92 0 (w6.1 91 0)) 92 1 ((qPutI w6 92 0 (w6.1 91 0)).1 91 1)) (fr_I (fr_pI rfl) rfl) (by rw [pI_f (by decide), pI_e, e916]; exact z0) (fun _ => by rw [pI_e, pI_c (by decide), e916]; exact z1 e)
                      rw [c1] at this ⊢
                      exact this
              rcases hM with ⟨e1, e2', e3⟩ | ⟨e1, e2', e3⟩
              · rw [e3]
                have q : (bsF T N n t).1 < wtT T (wyF N n t) (N 7 0) := by
                  rw [e1]
                  show (-1000000 : Int) < _
                  rw [e1] at pb
                  omega
                exact ⟨fun _ => better q, fun g => absurd rfl g⟩
              · rw [e3, e2', iZ_lt (by omega) (by omega)]
                refine ⟨fun g => absurd g (by decide), fun _ => ⟨fun q => better q, fun q => ?_⟩⟩
                rw [if_neg q] at eb
                rw [nI_1]
                refine ih w6 ⟨f6', ?_, ⟨_, _, okW.1, okW.2, hR6⟩, fun _ => ?_⟩ _ 1 (Or.inr ⟨by omega, by rw [eb], rfl⟩)
                · unfold tkr
                  rw [e906]; exact tk3
                · rw [eb, e926]; exact bg e1
            by_cases e : gHi n = gLo n
            · have c1 : cntB n = 1 := by rw [cn, if_pos e]
              refine A_Mo_give_198 ⟨fun g => ?_, fun _ => ⟨qIn_nI (by decide) (by decide), qIn_nI (by decide) (by decide), ?_⟩⟩
              · rw [c1] at g; exact absurd g (by decide)
              · show qCall (some s) d 304 [.ref 72, .int (w4.1 90 0), .int (w4.1 91 0)] w4 _
                rw [e90, tk3.1, z0]
                refine m_giveTo (by omega) hR4 lP d1 (fun w5 hR5 f5 => ?_)
                rw [st2_px] at hR5
                have hR5' : rQ w5 N K T Z (wyF N n t) := by
                  unfold wyF
                  rw [e] at hR5 ⊢
                  rw [st2_same N (gLo n) _ _ b]
                  exact hR5
                have := weigh w5 f5 hR5'
                rw [c1] at this ⊢
                exact this
            · have c1 : cntB n = 2 := by rw [cn, if_neg e]
              have eW : gW N n = N 6 0 := by rw [hW, if_neg e]
              refine A_Mo_give_198 ⟨fun g => ?_, fun _ => ⟨qIn_nI (by decide) (by decide), qIn_nI (by decide) (by decide), ?_⟩⟩
              · rw [c1] at g; exact absurd g (by decide)
              · show qCall (some s) d 304 [.ref 72, .int (w4.1 90 0), .int (w4.1 91 0)] w4 _
                rw [e90, tk3.1, z0]
                refine m_giveTo (by omega) hR4 lP d1 (fun w5 hR5 f5 => ?_)
                rw [st2_px] at hR5
                refine A_Mo_give_198 ⟨fun g => ?_, fun _ => ⟨qIn_nI (j := 1) (by decide) (by decide), qIn_nI (j := 1) (by decide) (by decide), ?_⟩⟩
                · rw [c1] at g; exact absurd g (by decide)
                · show qCall (some s) d 304 [.ref 72, .int (w5.1 90 1), .int (w5.1 91 1)] w5 _
                  rw [(f5 90 (by omega)).1, (f5 91 (by omega)).1, e90, tk3.2 e, z1 e]
                  refine m_giveTo (by omega) hR5 hP (by rw [eW] at d2 ⊢; exact d2) (fun w6 hR6 f6 => ?_)
                  rw [st2_py e] at hR6
                  have := weigh w6 (fr_tr f5 f6) hR6
                  rw [c1] at this ⊢
                  exact this
          refine A_Mo_give_139 ⟨fun g => absurd g (nI_ge ht (by omega)), fun _ => ?_⟩
          have i6 : qIn (6 : Int32) 262 := qIn_nI (j := 6) (by decide) (by decide)
          have e6' : w3.1 73 6 = nI (N 6 0) := hR3.x.n.gvs
          by_cases e : gHi n = gLo n
          · have c1 : cntB n = 1 := by rw [cn, if_pos e]
            have eW : gW N n = 1 := by rw [hW, if_pos e]
            have tm : t < N 6 0 := by rw [eW] at ht; omega
            have em : t % N 6 0 = t / gW N n := by rw [eW, Nat.mod_eq_of_lt tm, Nat.div_one]
            rw [c1]
            refine A_Mo_give_155 ⟨fun g => absurd g (by decide), fun _ => ⟨i6, ?_, qIn_nI (j := 0) (by decide) (by decide), i6, ?_, ?_⟩⟩
            · rw [show qIx (6 : Int32) = 6 from rfl, e6', eq0 (by omega)]; exact v4
            · rw [show qIx (6 : Int32) = 6 from rfl, e6', eq0 (by omega)]; exact v4
            · rw [show qIx (6 : Int32) = 6 from rfl, e6', qRem_nI (by omega) (by omega) (by omega), em]
              refine A_Mo_give_155 ⟨fun _ => ?_, fun g => absurd (by decide) g⟩
              have := at198 (qPutI w3 91 0 (nI (t / gW N n))) (fr_pI rfl) (by rw [pI_e]) (fun q => absurd e q)
              rw [c1] at this
              exact this
          · have c1 : cntB n = 2 := by rw [cn, if_neg e]
            have eW : gW N n = N 6 0 := by rw [hW, if_neg e]
            have dm : t / N 6 0 % N 6 0 = t / gW N n := by rw [eW] at d1 ⊢; exact Nat.mod_eq_of_lt d1
            have em : t % N 6 0 = t % gW N n := by rw [eW]
            have tdl : t / N 6 0 ≤ t := Nat.div_le_self _ _
            rw [c1]
            refine A_Mo_give_155 ⟨fun g => absurd g (by decide), fun _ => ⟨i6, ?_, qIn_nI (j := 1) (by decide) (by decide), i6, ?_, ?_⟩⟩
            · rw [show qIx (6 : Int32) = 6 from rfl, e6', eq0 (by omega)]; exact v4
            · rw [show qIx (6 : Int32) = 6 from rfl, e6', eq0 (by omega)]; exact v4
            · rw [show qIx (6 : Int32) = 6 from rfl, e6', qRem_nI (by omega) (by omega) (by omega), nI_div' (by omega) (by omega) (by omega), em]
              have e6'' : (qPutI w3 91 (qIx (nI 2 - 1)) (nI (t % gW N n))).1 73 6 = nI (N 6 0) := by rw [pI_c (by decide)]; exact e6'
              refine A_Mo_give_155 ⟨fun g => absurd g (by decide), fun _ => ⟨i6, ?_, qIn_nI (j := 0) (by decide) (by decide), i6, ?_, ?_⟩⟩
              · rw [show qIx (6 : Int32) = 6 from rfl, e6'', eq0 (by omega)]; exact v4
              · rw [show qIx (6 : Int32) = 6 from rfl, e6'', eq0 (by omega)]; exact v4
              · rw [show qIx (6 : Int32) = 6 from rfl, e6'', qRem_nI (by omega) (by omega) (by omega), dm]
                refine A_Mo_give_155 ⟨fun _ => ?_, fun g => absurd (by decide) g⟩
                have := at198 (qPutI (qPutI w3 91 1 (nI (t % gW N n))) 91 0 (nI (t / gW N n))) (fr_I (fr_pI rfl) rfl) (by rw [pI_e]) (fun _ => by rw [pI_f (by decide), pI_e])
                rw [c1] at this
                exact this
      have e6' : w2.1 73 6 = nI (N 6 0) := hR2.x.n.gvs
      have i6 : qIn (6 : Int32) 262 := qIn_nI (j := 6) (by decide) (by decide)
      by_cases e : gHi n = gLo n
      · have c1 : cntB n = 1 := by rw [cn, if_pos e]
        have eW : gW N n = 1 := by rw [hW, if_pos e]
        rw [c1, eW] at ways
        rw [c1]
        refine A_Mo_give_112 ⟨fun g => absurd g (by decide), fun _ => ⟨i6, ?_⟩⟩
        rw [show qIx (6 : Int32) = 6 from rfl, e6', show (1 : Int32) = nI 1 from rfl, nI_mul', Nat.mul_comm 1]
        exact A_Mo_give_112 ⟨fun _ => ways, fun g => absurd (by decide) g⟩
      · have c1 : cntB n = 2 := by rw [cn, if_neg e]
        have eW : gW N n = N 6 0 := by rw [hW, if_neg e]
        rw [c1, eW] at ways
        rw [c1]
        refine A_Mo_give_112 ⟨fun g => absurd g (by decide), fun _ => ⟨i6, ?_⟩⟩
        rw [show qIx (6 : Int32) = 6 from rfl, e6', show (1 : Int32) = nI 1 from rfl, nI_mul', Nat.mul_comm 1, Nat.mul_one]
        refine A_Mo_give_112 ⟨fun g => absurd g (by decide), fun _ => ⟨i6, ?_⟩⟩
        rw [show qIx (6 : Int32) = 6 from rfl, e6', nI_mul']
        exact A_Mo_give_112 ⟨fun _ => ways, fun g => absurd (by decide) g⟩
    · intro i w2 hi ⟨f2, hR2, a1, a2⟩ ih c hc
      refine A_Mo_give_60 ?_
      have e0 : w2.1 73 0 = nI (N 0 0) := hR2.ppl
      have c2 : c ≤ 2 := by
        rw [hc]
        split <;> split <;> omega
      rw [qIx_0, e0, nI_leI (by omega) (by omega), qIx_nI (by omega), nI_1 c, nI_1 i]
      refine ⟨qIn_0 (by decide) (by decide), fun g => absurd g (by omega), fun _ => m_has (by omega) (by omega) (by omega) (fun gb => n1 ?_) (fun gb => n0 ?_)⟩
      · rcases g3 i gb with ei | ei
        · have c0 : c = 0 := by
            rw [hc, if_neg (by omega), if_neg (by omega)]
          have f3 : fr (fun c => c = 90) w2 (qPutI w2 90 c (nI i)) := fr_pI rfl
          refine ⟨qIn_nI (by omega) (by decide), ih _ ⟨fr_tr f2 (fr_wk f3 (fun c hc => by omega)), hR2.hi f3 (fun c hc => by omega), fun _ => ?_, fun q1 q2 => ?_⟩ _ ?_⟩
          · rw [c0, pI_e, ei]
          · exfalso; omega
          · rw [c0, if_pos (by omega), if_neg (by omega)]
        · by_cases eq : gHi n = gLo n
          · have c0 : c = 0 := by
              rw [hc, if_neg (by omega), if_neg (by omega)]
            have f3 : fr (fun c => c = 90) w2 (qPutI w2 90 c (nI i)) := fr_pI rfl
            refine ⟨qIn_nI (by omega) (by decide), ih _ ⟨fr_tr f2 (fr_wk f3 (fun c hc => by omega)), hR2.hi f3 (fun c hc => by omega), fun _ => ?_, fun q1 q2 => absurd eq q1⟩ _ ?_⟩
            · rw [c0, pI_e, ei, eq]
            · rw [c0, if_pos (by omega), if_neg (fun q => q.1 eq)]
          · have c1 : c = 1 := by
              rw [hc, if_pos (by omega), if_neg (by omega)]
            have f3 : fr (fun c => c = 90) w2 (qPutI w2 90 c (nI i)) := fr_pI rfl
            refine ⟨qIn_nI (by omega) (by decide), ih _ ⟨fr_tr f2 (fr_wk f3 (fun c hc => by omega)), hR2.hi f3 (fun c hc => by omega), fun _ => ?_, fun q1 q2 => ?_⟩ _ ?_⟩
            · rw [c1, pI_f (by decide)]; exact a1 (by omega)
            · rw [c1, pI_e, ei]
            · rw [c1, if_pos (by omega), if_pos ⟨eq, by omega⟩]
      · have ne1 : ¬ i = gLo n := fun e => by rw [e] at gb; have := l2; unfold gLo at gb; rw [gb] at this; cases this
        have ne2 : ¬ i = gHi n := fun e => by rw [e, g2] at gb; cases gb
        refine ih w2 ⟨f2, hR2, fun q => a1 (by omega), fun q1 q2 => a2 q1 (by omega)⟩ c ?_
        rw [hc]
        have x1 : (gLo n < i + 1) ↔ (gLo n < i) := by omega
        have x2 : (gHi n < i + 1) ↔ (gHi n < i) := by omega
        simp only [x1, x2]
    · rw [if_neg (Nat.not_lt_zero _), if_neg (fun q => absurd q.2 (Nat.not_lt_zero _))]
  refine ⟨fun q => main (Or.inl q), fun q => m_isPerson (by omega) hX.n.ppl o0 (fun g => b1 ?_) (fun g => b0 (hn (fun q2 => ?_)))⟩
  · obtain ⟨j, hj, ej, ej2⟩ := vTold_x o0 g
    rw [ej] at main hn ⊢
    refine m_has (by omega) (by omega) (by omega) (fun gb => n1 (main (Or.inr (by rw [mem12_nI (by omega)]; exact gb)))) (fun gb => n0 (hn (fun q2 => ?_)))
    rcases q2.2.2.1 with q3 | q3
    · rw [ej] at q; exact q q3
    · rw [mem12_nI (by omega), gb] at q3; cases q3
  · rcases q2.2.2.1 with q3 | q3
    · exact q q3
    · obtain ⟨j, hj, ej, ej2, hbj⟩ := mem12_x q3
      have := inP j hbj
      exact g (by rw [ej]; exact ⟨nI_pos' (by omega), nI_lt this (by omega)⟩)
end GiveM2
