/-! turn: the reference. -/
section TurnM
variable {s : Nat × (Nat → Int32)} {d : Nat} {w : qW} {Q : Int32 → qW → Prop} {QL : Int64 → qW → Prop} {R : qW → Prop} {N S K : vS} {T : Nat → vT} {Z : vZ} {O : Nat → Nat}
theorem m_hasAtLeast {n m : Nat} (hd : 1 ≤ d) (hn : n < 2 ^ 64) (hm : m ≤ 12) (hQ : Q (tI (decide (m ≤ pop n))) w) : qCall (some s) d 297 [.long (lN n), .int (nI m)] w (qQi Q) := by
  obtain ⟨d, rfl, -⟩ := dS hd
  refine A_Mo_hasAtLeast ?_
  have go : ∀ t k a, k + t = m → a < 2 ^ 64 → (m ≤ pop n ↔ t ≤ pop a) → qAt s d c_Mo_hasAtLeast (qQi Q) 5 [none, none, some (.int (nI m)), some (.long (lN a)), none, some (.int (nI k))] [] w := by
    intro t
    induction t with
    | zero =>
      intro k a hk ha hp
      have e : k = m := by omega
      subst e
      rw [decide_eq_true (hp.mpr (Nat.zero_le _))] at hQ
      exact A_Mo_hasAtLeast_5 ⟨fun _ => ⟨fun g => absurd rfl g, fun _ => hQ⟩, fun g => absurd (Int32.le_refl _) g⟩
    | succ t ih =>
      intro k a hk ha hp
      refine A_Mo_hasAtLeast_5 ?_
      rw [nI_leI (by omega) (by omega), nI_eq (by omega) (by omega), lg64 ha, nI_1]
      refine ⟨fun g => by omega, fun _ => ⟨fun g => ⟨fun _ => ?_, fun g => by omega⟩, fun g => ?_⟩⟩
      · rw [g, pop_0] at hp
        rw [decide_eq_false (fun q => by have := hp.mp q; omega)] at hQ
        exact hQ
      · have ap : 0 < a := Nat.pos_of_ne_zero g
        obtain ⟨j, hj, b1', b2'⟩ := low64 ap ha
        rw [show lN a - (1 : Int64) = lN (a - 1) from lN_sub ap, lN_and, clr_low b1' b2']
        have := pop_low hj b1'
        exact ih (k + 1) _ (by omega) (andn_lt ha) (by rw [hp]; omega)
  exact go m 0 n (Nat.zero_add _) hn Iff.rfl
theorem m_firstHours {n : Nat} (hd : 1 ≤ d) (hn : n ≤ 64) (hQ : QL (lN (2 ^ n - 1)) w) : qCall (some s) d 294 [.int (nI n)] w (qQl QL) := by
  obtain ⟨d, rfl, -⟩ := dS hd
  refine A_Mo_firstHours ?_
  rw [show (64 : Int32) = nI 64 from rfl, nI_eq (by omega) (by omega)]
  refine ⟨fun g => ?_, fun g => ?_⟩
  · rw [show (1 : Int64) = lN 1 from rfl, qLshl_lN (by omega), Nat.one_mul, lN_sub Nat.one_le_two_pow]; exact hQ
  · rw [m1_64]; rw [g] at hQ; exact hQ
theorem andn0 {a b : Nat} : andn a b = 0 ↔ ∀ i, a.testBit i = true → b.testBit i = true := by
  constructor
  · intro e i hi
    have := andn_bit a b i
    rw [e, Nat.zero_testBit, hi] at this
    cases q : b.testBit i with
    | true => rfl
    | false => rw [q] at this; exact Bool.noConfusion this
  · intro h
    apply Nat.eq_of_testBit_eq
    intro i
    rw [andn_bit, Nat.zero_testBit]
    cases q : a.testBit i with
    | false => rfl
    | true => rw [h i q]; rfl
theorem tNb_s {A k : Nat} (hk : k < 12) (h1 : A.testBit k = true) (hO : O k < 2 ^ 64) : tNb O A = tNb O (andn A (2 ^ k)) ||| O k := by
  apply Nat.eq_of_testBit_eq
  intro h
  rw [Nat.testBit_or]
  rcases Nat.lt_or_ge h 64 with hh | hh
  · rw [Bool.eq_iff_iff, Bool.or_eq_true, tNb_bit hh, tNb_bit hh]
    constructor
    · intro ⟨p, p1, p2, p3⟩
      by_cases e : p = k
      · subst e; exact Or.inr p3
      · refine Or.inl ⟨p, p1, ?_, p3⟩
        rw [andn_bit, p2, Nat.testBit_two_pow, decide_eq_false (fun q => e q.symm)]; rfl
    · intro q
      rcases q with ⟨p, p1, p2, p3⟩ | q
      · rw [andn_bit, Bool.and_eq_true] at p2
        exact ⟨p, p1, p2.1, p3⟩
      · exact ⟨k, hk, h1, q⟩
  · have l : ∀ n, n < 2 ^ 64 → n.testBit h = false := fun n hn => Nat.testBit_lt_two_pow (Nat.lt_of_lt_of_le hn (Nat.pow_le_pow_right (by decide) hh))
    rw [l (tNb O A) (bitsOf_lt _ _), l (tNb O (andn A (2 ^ k))) (bitsOf_lt _ _), l _ hO]; rfl
theorem tNb_0 : tNb O 0 = 0 := by
  apply Nat.eq_of_testBit_eq
  intro h
  unfold tNb
  rw [bitsOf_bit, Nat.zero_testBit]
  have : (List.range 12).any (fun p => (0 : Nat).testBit p && (O p).testBit h) = false := by
    rw [List.any_eq_false]
    intro p _ q
    rw [Nat.zero_testBit] at q
    exact Bool.noConfusion q
  rw [this, Bool.and_false]
theorem low12 {n k : Nat} (h1 : n.testBit k = true) (h2 : ∀ i, i < k → n.testBit i = false) (h0 : 0 < n) (hn : n < 4096) : lowB n = k := by
  have l := lowB_spec h0 hn
  rcases Nat.lt_trichotomy (lowB n) k with q | q | q
  · rw [h2 _ q] at l; exact Bool.noConfusion l.2.1
  · exact q
  · rw [l.2.2 k q] at h1; exact Bool.noConfusion h1
theorem m_canTurn {L F P : Nat} (hd : 4 ≤ d) (hp : w.1 73 0 = nI P) (hP : P ≤ 12) (hL : L < 2 ^ P) (hF : F < 2 ^ 64) (hO : ∀ p, p < P → w.2.1 88 p = lN (O p)) (hO2 : ∀ p, O p < 2 ^ 64) (hQ : ∀ w', fr (fun c => c = 89) w w' → Q (tI (tCan O L F)) w') : qCall (some s) d 295 [.ref 72, .int (nI L), .long (lN F)] w (qQi Q) := by
  obtain ⟨d, rfl, hd1⟩ := dS hd
  have p12' := p12 hP
  refine A_Mo_canTurn ⟨qIn_nI (j := 0) (by decide) (by decide), ?_⟩
  rw [qIx_0]
  refine lpU (i := 1) (n := 2 ^ P) (I := fun k w' => 1 ≤ k ∧ fr (fun c => c = 89) w w' ∧ (∀ A, A < k → (∀ i, A.testBit i = true → L.testBit i = true) → w'.2.1 89 A = lN (tNb O A)) ∧ ∀ A, A < k → (∀ i, A.testBit i = true → L.testBit i = true) → cntB A ≤ pop (tNb O A &&& F)) (P := fun k w' => qAt s d c_Mo_canTurn (qQi Q) 10 [some (.ref 72), some (.int (nI L)), some (.long (lN F)), none, some (.int (nI k))] [] w') ?_ ?_ p12'.1 ⟨Nat.le_refl _, fr_pL rfl, fun A hA _ => ?_, fun A hA _ => ?_⟩
  · intro w1 ⟨_, f1, h1, h2⟩
    refine A_Mo_canTurn_10 ⟨qIn_nI (j := 0) (by decide) (by decide), ?_⟩
    rw [qIx_0, (f1 73 (by omega)).1, hp, qShl_P hP]
    refine ⟨fun _ => ?_, fun g => absurd (Int32.le_refl _) g⟩
    have r := hQ w1 f1
    rw [tCan_Hall.mpr (fun A hA => h2 A ?_ (fun i hi => (hA i hi).2))] at r
    · exact r
    · apply Nat.lt_pow_two_of_testBit
      intro i hi
      cases e : A.testBit i with
      | false => rfl
      | true =>
        have := bit_P hL (hA i e).2
        omega
  · intro k w1 hk ⟨k1, f1, h1, h2⟩ nxt
    refine A_Mo_canTurn_10 ⟨qIn_nI (j := 0) (by decide) (by decide), ?_⟩
    rw [qIx_0, (f1 73 (by omega)).1, hp, qShl_P hP, nI_leI (by omega) (by omega), show (-1 : Int32) = -(nI 1) from rfl, nI_andn, eq0 (Nat.lt_trans (andn_lt (n := 12) (by omega)) (by decide)), andn0, nI_1 k]
    refine ⟨fun g => by omega, fun _ => ⟨fun sub => ?_, fun g => nxt w1 ⟨by omega, f1, fun A hA q => ?_, fun A hA q => ?_⟩⟩⟩
    · have l := lowB_spec (n := k) (by omega) (by omega)
      have lP := bit_P hk l.2.1
      have cl : k &&& (k - 1) = andn k (2 ^ lowB k) := clr_low l.2.1 l.2.2
      have alt : andn k (2 ^ lowB k) < k := by
        rw [← cl]
        exact Nat.lt_of_le_of_lt Nat.and_le_right (by omega)
      have sub2 : ∀ i, (andn k (2 ^ lowB k)).testBit i = true → L.testBit i = true := fun i hi => by
        rw [andn_bit, Bool.and_eq_true] at hi
        exact sub i hi.1
      rw [show nI k - (1 : Int32) = nI (k - 1) from nI_sub' (by omega), nI_and, cl, qIx_nI (j := andn k (2 ^ lowB k)) (by omega), qIx_nI (j := k) (by omega), h1 _ alt sub2]
      refine ⟨qIn_nI (by omega) (by decide), m_lowest (by omega) (by omega) (by omega) ?_⟩
      rw [qIx_nI (by omega), (f1 88 (by omega)).2, hO _ lP, lN_or, ← tNb_s l.1 l.2.1 (hO2 _), pL_e, lN_and]
      refine ⟨qIn_nI (by omega) (by decide), qIn_nI (by omega) (by decide), qIn_nI (by omega) (by decide), m_size (by omega) (by omega) (m_hasAtLeast (by omega) (Nat.lt_of_le_of_lt Nat.and_le_right hF) (cntB_le k) (tI_n (fun b => ?_) (fun b => ?_)))⟩
      · refine nxt _ ⟨by omega, fr_L f1 rfl, fun A hA q => ?_, fun A hA q => ?_⟩
        · by_cases e : A = k
          · rw [e, pL_e]
          · rw [pL_f e]; exact h1 A (by omega) q
        · by_cases e : A = k
          · rw [e]; exact of_decide_eq_true b
          · exact h2 A (by omega) q
      · have r := hQ _ (fr_L (v := lN (tNb O k)) (f := k) f1 rfl)
        have e : tCan O L F = false := by
          cases q : tCan O L F with
          | false => rfl
          | true =>
            have := tCan_Hall.mp q k (fun p hpb => ⟨by have := bit_P hk hpb; omega, sub p hpb⟩)
            exact absurd this (of_decide_eq_false b)
        rw [e] at r
        exact r
    · by_cases e : A = k
      · rw [e] at q; exact absurd q g
      · exact h1 A (by omega) q
    · by_cases e : A = k
      · rw [e] at q; exact absurd q g
      · exact h2 A (by omega) q
  · have e : A = 0 := by omega
    rw [e, pL_e, tNb_0]; rfl
  · have e : A = 0 := by omega
    rw [e]
    exact Nat.zero_le _
theorem tO_bit {h p k : Nat} (hp : p < N 0 0) : tO T N h p = bitsOf (fun k => spk T N p (h + k)) 64 := by
  unfold tO
  exact bitsOf_congr fun k _ => spkM_bit hp
theorem m_turn {set : Int32} {h : Int64} {who : Int32} (hd : 6 ≤ d) (hX : rM w N K T Z) (hy : ∀ w', vTn N set h who → fr (fun c => 79 ≤ c) w w' → QL (fTn T N (qIx set) h.toNatClampNeg who) w') (hn : ¬ vTn N set h who → QL (-1) w) : qCall (some s) d 293 [.ref 72, .int set, .long h, .int who] w (qQl QL) := by
  obtain ⟨d, rfl, hd1⟩ := dS hd
  have o := hX.okn
  have o0 := o.p12
  have hp := p12 o0
  refine A_Mo_turn (m_isSet (by omega) hX.n.ppl o0 (fun g1 => b1 ?_) (fun g => b0 (hn (fun q => g q.1))))
  rw [lg_lt, lg_gt]
  refine ⟨fun g => hn (fun q => absurd g (Int64.not_lt.mpr q.2.1.1)), fun g2 => ⟨fun g => hn (fun q => absurd g (Int64.not_lt.mpr q.2.1.2)), fun g3 => ?_⟩⟩
  have gs : vStart h := ⟨Int64.not_lt.mp g2, Int64.not_lt.mp g3⟩
  obtain ⟨L, h1, h2, h3, e, e2⟩ := vSet_x o0 g1
  obtain ⟨t, ht, et, et2⟩ := vStart_x gs
  have vT : (who = -1 ∨ mem12 who L = true) → vTn N set h who := fun q => ⟨g1, gs, by rw [e2]; exact q⟩
  have hnn : ¬ (who = -1 ∨ mem12 who L = true) → QL (-1) w := fun q => hn (fun k => q (by have := k.2.2; rw [e2] at this; exact this))
  rw [e2, et2] at hy
  have hz := fun w' q => hy w' (vT q)
  subst e et
  have main : (who = -1 ∨ mem12 who L = true) → qCall (some s) d 253 [.ref 72] w (qQv fun w8 => qAt s d c_Mo_turn (qQl QL) 57 [some (.ref 72), some (.int (nI L)), some (.long (lN t)), none, some (.int who), some (.int (0 : Int32)), none, none, none, none, none] [] w8) := by
    intro g
    refine m_take' (by omega) hX (fun w1 f1 hX1 hT => ?_)
    have hw := fun w' f' => hz w' g f'
    unfold fTn at hw
    have m89 : ∀ {a b : qW}, fr (fun c => c = 89) a b → fr (fun c => c = 88 ∨ c = 89) a b := fun f => fr_wk f (fun c hc => Or.inr hc)
    have up : ∀ {b : qW}, fr (fun c => c = 88 ∨ c = 89) w1 b → fr (fun c => 79 ≤ c) w b := fun f => fr_tr f1 (fr_wk f (fun c hc => by omega))
    have ppl : ∀ {b : qW}, fr (fun c => c = 88 ∨ c = 89) w1 b → b.1 73 0 = nI (N 0 0) := fun f => by rw [(f 73 (by omega)).1]; exact hX1.n.ppl
    -- the last stage: others ahead of who
    have last : ∀ n, tFew (tO T N t) L = some n → n ≤ 64 → tCan (tO T N t) L (2 ^ n - 1) = true → ∀ x, who = nI x → x < N 0 0 → L.testBit x = true → ∀ k i M F w2, i + k = 12 → i ≤ x → M < 2 ^ N 0 0 → F < 2 ^ 64 → (∀ p, i ≤ p → M.testBit p = L.testBit p) → tCan (tO T N t) M F = true → fr (fun c => c = 88 ∨ c = 89) w1 w2 → (∀ p, p < N 0 0 → w2.2.1 88 p = lN (tO T N t p)) → tGo (tO T N t) x 12 0 L (2 ^ n - 1) = tGo (tO T N t) x k i M F → qAt s d c_Mo_turn (qQl QL) 198 [some (.ref 72), some (.int (nI L)), some (.long (lN t)), none, some (.int who), none, some (.long (lN F)), none, some (.int (nI M)), some (.int (nI i)), none] [] w2 := by
      intro n en n64 cn x ex hx bx k
      have xm : ¬ who = -1 := fun q => by
        rw [ex] at q
        have q : nI x = -(nI 1) := q
        rw [nI_eqn (by omega) (by omega) (by omega)] at q
        exact q
      induction k with
      | zero => intro i M F w2 hi hix; omega
      | succ k ih =>
        intro i M F w2 hi hix hM hF hML cM f2 h2' eg
        rw [ex]
        refine A_Mo_turn_198 ?_
        rw [nI_ltI (by omega) (by omega)]
        refine ⟨fun g => by omega, fun _ => m_has (by omega) (by omega) (by omega) (fun gi => n1 ?_) (fun gi => n0 ?_)⟩
        · have gM : M.testBit i = true := by rw [hML i (Nat.le_refl _)]; exact gi
          have aM : andn M (2 ^ i) < 2 ^ N 0 0 := andn_lt hM
          rw [show qShl (1 : Int32) (nI i) = nI (2 ^ i) from qShl_n (by omega), show (-1 : Int32) = -(nI 1) from rfl, nI_andn]
          obtain ⟨j0, hj0, bj0, mj0⟩ := tMt_cut (tCan_Mt.mp cM) (by omega) gM
          have cj0 := tCan_Mt.mpr mj0
          -- the least hour
          have fnd' : ∀ j w3, j ≤ j0 → fr (fun c => c = 88 ∨ c = 89) w1 w3 → (∀ p, p < N 0 0 → w3.2.1 88 p = lN (tO T N t p)) → (∀ u, u < j → ((tO T N t i &&& F).testBit u && tCan (tO T N t) (andn M (2 ^ i)) (andn F (2 ^ u))) = false) → qAt s d c_Mo_turn (qQl QL) 231 [some (.ref 72), some (.int (nI L)), some (.long (lN t)), none, some (.int (nI x)), none, some (.long (lN F)), none, some (.int (nI (andn M (2 ^ i)))), some (.int (nI i)), some (.int (nI j))] [] w3 := by
            intro j w3 hj
            have gen : ∀ m j w3, j0 - j = m → j ≤ j0 → fr (fun c => c = 88 ∨ c = 89) w1 w3 → (∀ p, p < N 0 0 → w3.2.1 88 p = lN (tO T N t p)) → (∀ u, u < j → ((tO T N t i &&& F).testBit u && tCan (tO T N t) (andn M (2 ^ i)) (andn F (2 ^ u))) = false) → qAt s d c_Mo_turn (qQl QL) 231 [some (.ref 72), some (.int (nI L)), some (.long (lN t)), none, some (.int (nI x)), none, some (.long (lN F)), none, some (.int (nI (andn M (2 ^ i)))), some (.int (nI i)), some (.int (nI j))] [] w3 := by
              intro m
              induction m with
              | zero =>
                intro j w3 hm hj f3 r3 no
                have ej : j = j0 := by omega
                subst ej
                refine A_Mo_turn_231 ⟨qIn_nI (by omega) (by decide), ?_⟩
                rw [qIx_nI (by omega), r3 i (by omega), lN_and, show (1 : Int64) = lN 1 from rfl, qLshl_lN hj0, Nat.one_mul, lg_bit (Nat.lt_of_le_of_lt Nat.and_le_left (tO_lt T N t i)) hj0, bj0, lN_andn]
                refine ⟨fun q => Bool.noConfusion q, fun _ => m_canTurn (O := tO T N t) (by omega) (ppl f3) o0 aM (andn_lt hF) r3 (tO_lt T N t) (fun w4 f4 => tI_n (fun b => ?_) (fun b => by rw [cj0] at b; exact Bool.noConfusion b))⟩
                have f5 := fr_tr f3 (m89 f4)
                have lo := tLow_is hj0 bj0 cj0 no
                rw [nI_eq (by omega) (by omega), nI_1]
                refine ⟨fun g => ?_, fun g => ?_⟩
                · rw [← ex]
                  refine ih (i + 1) _ _ w4 (by omega) (by omega) aM (andn_lt hF) (fun p hp => ?_) cj0 f5 (fun p hp => by rw [(f4 88 (by omega)).2]; exact r3 p hp) ?_
                  · rw [andn_bit, Nat.testBit_two_pow, decide_eq_false (by omega), Bool.not_false, Bool.and_true]
                    exact hML p (by omega)
                  · rw [eg]
                    conv => lhs; unfold tGo
                    rw [if_pos gM, if_neg g, lo]
                · have r := hw w4 (up f5)
                  rw [en] at r
                  have r : QL (if who = -1 then lN n else lN (t + tGo (tO T N t) (qIx who) 12 0 L (2 ^ n - 1))) w4 := r
                  rw [if_neg xm, ex, qIx_nI (by omega), eg] at r
                  unfold tGo at r
                  rw [if_pos gM, if_pos g, lo] at r
                  rw [nI_l (by omega), lN_add]
                  exact r
              | succ m ihm =>
                intro j w3 hm hj f3 r3 no
                refine A_Mo_turn_231 ⟨qIn_nI (by omega) (by decide), ?_⟩
                rw [qIx_nI (by omega), r3 i (by omega), lN_and, show (1 : Int64) = lN 1 from rfl, qLshl_lN (by omega), Nat.one_mul, lg_bit (Nat.lt_of_le_of_lt Nat.and_le_left (tO_lt T N t i)) (by omega), lN_andn, nI_1 j]
                have more : ∀ w', fr (fun c => c = 88 ∨ c = 89) w1 w' → (∀ p, p < N 0 0 → w'.2.1 88 p = lN (tO T N t p)) → ((tO T N t i &&& F).testBit j && tCan (tO T N t) (andn M (2 ^ i)) (andn F (2 ^ j))) = false → qAt s d c_Mo_turn (qQl QL) 231 [some (.ref 72), some (.int (nI L)), some (.long (lN t)), none, some (.int (nI x)), none, some (.long (lN F)), none, some (.int (nI (andn M (2 ^ i)))), some (.int (nI i)), some (.int (nI (j + 1)))] [] w' := by
                  intro w' f' r' e'
                  refine ihm (j + 1) w' (by omega) (by omega) f' r' (fun u hu => ?_)
                  by_cases q : u = j
                  · rw [q]; exact e'
                  · exact no u (by omega)
                refine ⟨fun g => more w3 f3 r3 (by rw [g]; rfl), fun gj => m_canTurn (O := tO T N t) (by omega) (ppl f3) o0 aM (andn_lt hF) r3 (tO_lt T N t) (fun w4 f4 => tI_n (fun b => ?_) (fun b => more w4 (fr_tr f3 (m89 f4)) (fun p hp => by rw [(f4 88 (by omega)).2]; exact r3 p hp) (by rw [b, Bool.and_false])))⟩
                rw [Bool.not_eq_false] at gj
                have f5 := fr_tr f3 (m89 f4)
                have lo := tLow_is (by omega) gj b no
                rw [nI_eq (by omega) (by omega), nI_1]
                refine ⟨fun g => ?_, fun g => ?_⟩
                · rw [← ex]
                  refine ih (i + 1) _ _ w4 (by omega) (by omega) aM (andn_lt hF) (fun p hp => ?_) b f5 (fun p hp => by rw [(f4 88 (by omega)).2]; exact r3 p hp) ?_
                  · rw [andn_bit, Nat.testBit_two_pow, decide_eq_false (by omega), Bool.not_false, Bool.and_true]
                    exact hML p (by omega)
                  · rw [eg]
                    conv => lhs; unfold tGo
                    rw [if_pos gM, if_neg g, lo]
                · have r := hw w4 (up f5)
                  rw [en] at r
                  have r : QL (if who = -1 then lN n else lN (t + tGo (tO T N t) (qIx who) 12 0 L (2 ^ n - 1))) w4 := r
                  rw [if_neg xm, ex, qIx_nI (by omega), eg] at r
                  unfold tGo at r
                  rw [if_pos gM, if_pos g, lo] at r
                  rw [nI_l (by omega), lN_add]
                  exact r
            exact gen _ j w3 rfl hj
          exact fnd' 0 w2 (Nat.zero_le _) f2 h2' (fun u hu => absurd hu (Nat.not_lt_zero _))
        · have gM : M.testBit i = false := by rw [hML i (Nat.le_refl _)]; exact gi
          have nx : ¬ i = x := fun q => by rw [q, bx] at gi; exact Bool.noConfusion gi
          rw [nI_1, ← ex]
          refine ih (i + 1) M F w2 (by omega) (by omega) hM hF (fun p hp => hML p (by omega)) cM f2 h2' ?_
          rw [eg]
          conv => lhs; unfold tGo
          rw [if_neg (by rw [gM]; exact fun q => Bool.noConfusion q)]
    -- the second stage: the fewest
    have fin : ∀ n w2, 1 ≤ n → n ≤ 64 → (∀ m, m < n → tCan (tO T N t) L (2 ^ m - 1) = false) → (n < 64 → tCan (tO T N t) L (2 ^ n - 1) = true) → fr (fun c => c = 88 ∨ c = 89) w1 w2 → (∀ p, p < N 0 0 → w2.2.1 88 p = lN (tO T N t p)) → qAt s d c_Mo_turn (qQl QL) 159 [some (.ref 72), some (.int (nI L)), some (.long (lN t)), none, some (.int who), some (.int (nI n)), none, none, none, none, none] [] w2 := by
      intro n w2 n1' n64 no yes f2 r2
      refine A_Mo_turn_159 (m_firstHours (by omega) n64 (m_canTurn (O := tO T N t) (by omega) (ppl f2) o0 h2 (pm64 n64) r2 (tO_lt T N t) (fun w3 f3 => tI_n (fun b => ?_) (fun b => ?_))))
      · have en := tFew_some n64 b no
        have f4 := fr_tr f2 (m89 f3)
        refine ⟨fun g0 => m_firstHours (by omega) n64 ?_, fun g0 => ?_⟩
        · rcases g with g | g
          · rw [g] at g0; exact absurd g0 (by decide)
          · obtain ⟨x, hx12, ex, ex2, bx⟩ := mem12_x g
            exact last n en n64 b x ex (bit_P h2 bx) bx 12 0 L _ w3 rfl (Nat.zero_le _) h2 (pm64 n64) (fun _ _ => rfl) b f4 (fun p hp => by rw [(f3 88 (by omega)).2]; exact r2 p hp) rfl
        · have r := hw w3 (up f4)
          rw [en] at r
          have r : QL (if who = -1 then lN n else lN (t + tGo (tO T N t) (qIx who) 12 0 L (2 ^ n - 1))) w3 := r
          rcases g with g | g
          · rw [if_pos g] at r
            rw [nI_l (by omega)]
            exact r
          · obtain ⟨x, hx12, ex, ex2, bx⟩ := mem12_x g
            rw [ex] at g0
            exact absurd (Int32.not_lt.mp (nI_nn (a := x) (by omega))) g0
      · have e64 : n = 64 := by
          rcases Nat.lt_or_ge n 64 with q | q
          · rw [yes q] at b; exact Bool.noConfusion b
          · omega
        subst e64
        have r := hw w3 (up (fr_tr f2 (m89 f3)))
        rw [tFew_none b] at r
        exact r
    have few : ∀ k n w2, n + k = 64 → 1 ≤ n → (∀ m, m < n → tCan (tO T N t) L (2 ^ m - 1) = false) → fr (fun c => c = 88 ∨ c = 89) w1 w2 → (∀ p, p < N 0 0 → w2.2.1 88 p = lN (tO T N t p)) → qAt s d c_Mo_turn (qQl QL) 133 [some (.ref 72), some (.int (nI L)), some (.long (lN t)), none, some (.int who), some (.int (nI n)), none, none, none, none, none] [] w2 := by
      intro k
      induction k with
      | zero =>
        intro n w2 hk n1' no f2 r2
        have e : n = 64 := by omega
        refine A_Mo_turn_133 ?_
        rw [show (64 : Int32) = nI 64 from rfl, nI_leI (by omega) (by omega)]
        exact ⟨fun _ => fin n w2 n1' (by omega) no (fun q => by omega) f2 r2, fun g => by omega⟩
      | succ k ih =>
        intro n w2 hk n1' no f2 r2
        refine A_Mo_turn_133 ?_
        rw [show (64 : Int32) = nI 64 from rfl, nI_leI (by omega) (by omega), nI_1]
        refine ⟨fun g => by omega, fun _ => m_firstHours (by omega) (by omega) (m_canTurn (O := tO T N t) (by omega) (ppl f2) o0 h2 (pm64 (by omega)) r2 (tO_lt T N t) (fun w3 f3 => tI_n (fun b => ?_) (fun b => ?_)))⟩
        · exact fin n w3 n1' (by omega) no (fun _ => b) (fr_tr f2 (m89 f3)) (fun p hp => by rw [(f3 88 (by omega)).2]; exact r2 p hp)
        · refine ih (n + 1) w3 (by omega) (by omega) (fun m hm => ?_) (fr_tr f2 (m89 f3)) (fun p hp => by rw [(f3 88 (by omega)).2]; exact r2 p hp)
          by_cases e : m = n
          · rw [e]; exact b
          · exact no m (by omega)
    -- the first stage: their hours
    refine lpU (i := 0) (n := N 0 0) (I := fun i w' => fr (fun c => c = 88 ∨ c = 89) w1 w' ∧ ∀ p, p < i → w'.2.1 88 p = lN (tO T N t p)) (P := fun i w' => qAt s d c_Mo_turn (qQl QL) 57 [some (.ref 72), some (.int (nI L)), some (.long (lN t)), none, some (.int who), some (.int (nI i)), none, none, none, none, none] [] w') ?_ ?_ (Nat.zero_le _) ⟨fr_rf _ _, fun p hp => absurd hp (Nat.not_lt_zero _)⟩
    · intro w2 ⟨f2, r2⟩
      refine A_Mo_turn_57 ⟨qIn_nI (j := 0) (by decide) (by decide), ?_⟩
      rw [qIx_0, ppl f2]
      refine ⟨fun _ => few 63 1 w2 rfl (Nat.le_refl _) (fun m hm => ?_) f2 r2, fun g => absurd (Int32.le_refl _) g⟩
      have e : m = 0 := by omega
      subst e
      cases q : tCan (tO T N t) L (2 ^ 0 - 1) with
      | false => rfl
      | true =>
        have := tMt_n (tCan_Mt.mp q)
        have := cnt0 h3 (by omega)
        omega
    · intro i w2 hi ⟨f2, r2⟩ nxt
      refine A_Mo_turn_57 ⟨qIn_nI (j := 0) (by decide) (by decide), ?_⟩
      rw [qIx_0, ppl f2, nI_leI (by omega) (by omega), qIx_nI (by omega)]
      refine ⟨fun g => by omega, fun _ => ⟨qIn_nI (by omega) (by decide), ?_⟩⟩
      refine lpU (i := 0) (n := 64) (I := fun j w' => fr (fun c => c = 88 ∨ c = 89) w1 w' ∧ (∀ p, p < i → w'.2.1 88 p = lN (tO T N t p)) ∧ w'.2.1 88 i = lN (bitsOf (fun k => spk T N i (t + k)) j)) (P := fun j w' => qAt s d c_Mo_turn (qQl QL) 79 [some (.ref 72), some (.int (nI L)), some (.long (lN t)), none, some (.int who), some (.int (nI i)), some (.int (nI j)), none, none, none, none] [] w') ?_ ?_ (Nat.zero_le _) ⟨fr_L f2 (Or.inl rfl), fun p hp => by rw [pL_f (by omega)]; exact r2 p hp, by rw [pL_e]; rfl⟩
      · intro w3 ⟨f3, r3, l3⟩
        refine A_Mo_turn_79 ⟨fun _ => ?_, fun g => absurd (Int32.le_refl _) g⟩
        rw [nI_1]
        refine nxt w3 ⟨f3, fun p hp => ?_⟩
        by_cases e : p = i
        · rw [e, tO_bit (T := T) (h := t) (k := 0) hi]; exact l3
        · exact r3 p (by omega)
      · intro j w3 hj ⟨f3, r3, l3⟩ nxt2
        have hX3 : rM w3 N K T Z := hX1.keep f3 (fun c _ _ => by omega)
        have hT3 : tkA w3 T N := tkA_fr hT f3 (fun c hc q => by unfold takeA barA at hc; omega)
        refine A_Mo_turn_79 ⟨fun g => absurd g (nI_ge (b := 64) hj (by omega)), fun _ => ⟨qIn_nI (by omega) (by decide), ?_⟩⟩
        rw [nI_l (by omega), lN_add, qIx_nI (by omega), l3, show (1 : Int64) = lN 1 from rfl, show (0 : Int64) = lN 0 from rfl, qLshl_lN hj, Nat.one_mul, lN_or, lN_or, nI_1]
        have st : ∀ v, v = bitsOf (fun k => spk T N i (t + k)) (j + 1) → qAt s d c_Mo_turn (qQl QL) 79 [some (.ref 72), some (.int (nI L)), some (.long (lN t)), none, some (.int who), some (.int (nI i)), some (.int (nI (j + 1))), none, none, none, none] [] (qPutL w3 88 i (lN v)) := by
          intro v ev
          refine nxt2 _ ⟨fr_L f3 (Or.inl rfl), fun p hp => ?_, by rw [pL_e, ev]⟩
          rw [pL_f (by omega)]; exact r3 p hp
        refine m_spk (by omega) hX3 (alike_rf N) o hT3 hi (by omega) (tI_b (fun b => ⟨qIn_nI (by omega) (by decide), st _ ?_⟩) (fun b => ⟨qIn_nI (by omega) (by decide), st _ ?_⟩))
        · conv => rhs; unfold bitsOf
          rw [b, if_pos rfl]
        · conv => rhs; unfold bitsOf
          rw [b, if_neg (by decide)]
  refine ⟨fun g => main (Or.inl g), fun g => m_isPerson (by omega) hX.n.ppl o0 (fun g4 => b1 ?_) (fun g4 => b0 (hnn (fun q => ?_)))⟩
  · obtain ⟨x, hx, ex, ex2⟩ := vTold_x o0 g4
    have mm : mem12 who L = L.testBit x := by rw [ex, mem12_nI (by omega)]
    rw [ex]
    refine m_has (by omega) (by omega) (by omega) (fun g5 => n1 ?_) (fun g5 => n0 (hnn (fun q => ?_)))
    · rw [← ex]; exact main (Or.inr (by rw [mm]; exact g5))
    · rcases q with q | q
      · exact g q
      · rw [mm, g5] at q; exact Bool.noConfusion q
  · rcases q with q | q
    · exact g q
    · obtain ⟨j, hj, ej, ej2, bj⟩ := mem12_x q
      rw [ej] at g4
      exact g4 ((vTold_i o0 (by omega)).mpr (bit_P h2 bj))
end TurnM
