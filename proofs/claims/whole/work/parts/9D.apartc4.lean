/-! apart: the class's call. -/
section ApartC4
variable {s : Nat × (Nat → Int32)} {d : Nat} {w : qW} {Q : Int32 → qW → Prop} {R : qW → Prop} {N S K : vS} {T : Nat → vT} {Z : vZ}
theorem mbL_pre {set k P : Nat} (h : k ≤ P) : ∃ r, mbL N set P = mbL N set k ++ r := by
  unfold mbL
  obtain ⟨e, rfl⟩ : ∃ e, P = k + e := ⟨P - k, by omega⟩
  rw [List.range_add, List.filter_append]
  exact ⟨_, rfl⟩
theorem mbL_fin {set k P : Nat} (h : k ≤ P) (h5 : (mbL N set P).length ≤ 5) (hk : 5 ≤ (mbL N set k).length) : mbL N set P = mbL N set k := by
  obtain ⟨r, e⟩ := mbL_pre (N := N) (set := set) h
  rw [e, List.length_append] at h5
  have : r.length = 0 := by omega
  rw [e, List.eq_nil_of_length_eq_zero this, List.append_nil]
theorem mb1_inj {set i j : Nat} (hi : i < (mbL N set (N 0 0)).length) (hj : j < (mbL N set (N 0 0)).length) (h : mb1 N set i = mb1 N set j) : i = j := by
  unfold mb1 at h
  rw [gD_in hi, gD_in hj] at h
  have nd : (mbL N set (N 0 0)).Nodup := List.Nodup.sublist List.filter_sublist List.nodup_range
  have pw := List.pairwise_iff_getElem.mp nd
  rcases Nat.lt_trichotomy i j with q | q | q
  · exact absurd h (pw i j hi hj q)
  · exact q
  · exact absurd h.symm (pw j i hj hi q)
def mbB (N : vS) (set t : Nat) : Nat := spO N set (mb1 N set t) (N 0 0)
theorem apB_0 {n B x : Nat → Nat} {k : Nat} (h : B k ≤ 60) : apB n B x 0 k = 2 ^ B k - 1 := by
  apply Nat.eq_of_testBit_eq
  intro v
  rw [Nat.testBit_two_pow_sub_one]
  unfold apB
  rw [bitsOf_bit, show cnp n k 0 v x = true from rfl, Bool.and_true]
  by_cases hv : v < B k
  · rw [decide_eq_true hv, decide_eq_true (by omega)]; rfl
  · rw [decide_eq_false hv, Bool.and_false]
def apA (c : Nat) : Prop := c = 61 ∨ c = 62 ∨ c = 63 ∨ c = 64
theorem rX.ap {w' : qW} (h : rX w N K T Z) (f : fr apA w w') : rX w' N K T Z := h.keep f (fun c => ⟨fun _ _ => by unfold apA; omega, by unfold apA; omega⟩)
/-- two whose numbers share no divisor leave no way -/
theorem fnd_no {n B : Nat → Nat} {p a b : Nat} (hab : a < b) (hb : b < p) (g : Nat.gcd (n b) (n a) = 1) : ∀ f i (x : Nat → Nat), i + f = p → i ≤ b → fnd n B f i x = none
  | 0, i, x, hp, hi => by omega
  | f + 1, i, x, hp, hi => by
    rw [fnd_s]
    refine fso_none (fun u _ => ?_)
    unfold fnG
    by_cases c : cns n i u x = true
    · rw [if_pos c]
      by_cases e : i = b
      · subst e
        have := cns_t.mp c a hab
        rw [g] at this
        exact absurd (Int.one_dvd _) this
      · exact fnd_no hab hb g f (i + 1) (upx x i u) (by omega) (by omega)
    · rw [if_neg c]
theorem c_areSharing {p : Nat} {mb n : Nat → Nat} (hd : 2 ≤ d) (hX : apX w p mb n) (hy : Q 1 w) (hn : ∀ a b, a < b → b < p → Nat.gcd (n a) (n b) = 1 → Q 0 w) : qCall (some s) d 329 [.ref 61] w (qQi Q) := by
  obtain ⟨d, rfl, hd1⟩ := dS hd
  have p5 := hX.p1
  refine A_Searches_areSharing ?_
  refine lpN (i := 0) (n := p) (P := fun i => qAt s d c_Searches_areSharing (qQi Q) 2 [some (.ref 61), some (.int (nI i)), none] [] w) ?_ ?_ (Nat.zero_le _)
  · refine A_Searches_areSharing_2 ?_
    rw [hX.par]
    exact ⟨fun _ => hy, fun g => absurd (Int32.le_refl _) g⟩
  · intro i hi ih
    refine A_Searches_areSharing_2 ?_
    rw [hX.par, nI_leI (by omega) (by omega), show (5 : Int32) = nI 5 from rfl, nI_leI (by omega) (by omega), nI_1 i]
    refine ⟨fun g => by omega, fun _ => ⟨fun g => by omega, fun _ => ?_⟩⟩
    refine lpN (i := i + 1) (n := p) (P := fun j => i < j → qAt s d c_Searches_areSharing (qQi Q) 19 [some (.ref 61), some (.int (nI i)), some (.int (nI j))] [] w) ?_ ?_ (by omega) (Nat.lt_succ_self i)
    · intro _
      refine A_Searches_areSharing_19 ?_
      rw [hX.par, nI_1 i]
      exact ⟨fun _ => ih, fun g => absurd (Int32.le_refl _) g⟩
    · intro j hj ihj hij
      have mi := hX.mem i hi
      have mj := hX.mem j hj
      have ni := hX.num i hi
      have nj := hX.num j hj
      have gb := gcd_b ni.2.1 nj.2.1 (by omega)
      have e1 : qIx (nI i) = i := qIx_nI (by omega)
      have e2 : qIx (nI j) = j := qIx_nI (by omega)
      have e3 : qIx (nI (mb i)) = mb i := qIx_nI (by omega)
      have e4 : qIx (nI (mb j)) = mb j := qIx_nI (by omega)
      have l1 : (nI (n i)).toInt64 = lN (n i) := nI_l (by omega)
      have l2 : (nI (n j)).toInt64 = lN (n j) := nI_l (by omega)
      refine A_Searches_areSharing_19 ?_
      rw [hX.par, nI_leI (by omega) (by omega), show (5 : Int32) = nI 5 from rfl, nI_leI (by omega) (by omega), e1, e2, mi.1, mj.1, e3, e4, ni.1, nj.1, l1, l2, nI_1 j]
      refine ⟨fun g => by omega, fun _ => ⟨fun g => by omega, fun _ => ⟨qIn_nI (by omega) (by decide), qIn_nI (by omega) (by decide), qIn_nI (by omega) (by decide), qIn_nI (by omega) (by decide), c_gcd (by omega) (by omega) (by omega) ⟨fun _ => ihj (by omega), fun g => hn i j hij hj ?_⟩⟩⟩⟩
      rw [lg_eq, show (1 : Int64) = lN 1 from rfl, pk_lEQ (by omega) (by decide)] at g
      exact g
theorem c_part {L : Nat} (hd : 9 ≤ d) (hX : rX w N K T Z) (L0 : 0 < L) (hs : L < 2 ^ N 0 0) (hL : L < 4096) (h5 : cntB L ≤ 5) (h60 : ∀ i, i < N 0 0 → L.testBit i = true → N 10 i ≤ 60)
    (hy : ∀ y w', fnd (mbN N L) (mbN N L) ((mbL N L (N 0 0)).length - 1) 1 (fun _ => 0) = some y → fr apA w w' → apX w' (mbL N L (N 0 0)).length (mb1 N L) (mbN N L) → (∀ j, j < (mbL N L (N 0 0)).length → w'.1 63 j = nI (y j)) → Q 1 w')
    (hn : ∀ w', fnd (mbN N L) (mbN N L) ((mbL N L (N 0 0)).length - 1) 1 (fun _ => 0) = none → fr apA w w' → Q 0 w') : qCall (some s) d 173 [.ref 61, .int (nI L)] w (qQi Q) := by
  obtain ⟨d, rfl, hd1⟩ := dS hd
  have o := hX.okn
  have o0 := o.p12
  have mlP := mbL_le (N := N) (set := L) (k := N 0 0) o0
  have lo := lowB_spec L0 hL
  have mp : 1 ≤ (mbL N L (N 0 0)).length := List.length_pos_of_mem (mbL_mem (N := N).mpr ⟨bit_P hs lo.2.1, lo.2.1⟩)
  have spb : ∀ m, m < N 0 0 → L.testBit m = true → 1 ≤ spO N L m (N 0 0) ∧ spO N L m (N 0 0) ≤ N 10 m := fun m hm hb => ⟨Nat.pos_of_dvd_of_pos (spO_q _) (o.num m hm).1, Nat.le_of_dvd (o.num m hm).1 (spO_q _)⟩
  have fin : ∀ w', fr apA w w' → w'.1 61 1 = nI (mbL N L (N 0 0)).length → (∀ t, t < (mbL N L (N 0 0)).length → w'.1 62 t = nI (mb1 N L t) ∧ w'.2.1 64 t = lN (2 ^ mbB N L t - 1)) → qAt s d c_Searches_part (qQi Q) 79 [some (.ref 61), none, none] [] w' := by
    intro w' f' par mem
    refine A_Searches_part_79 ⟨qIn_nI (j := 0) (by decide) (by decide), ?_⟩
    rw [qIx_0]
    have f2 : fr apA w (qPutL w' 64 0 (1 : Int64)) := fr_L f' (by unfold apA; omega)
    have hX2 := hX.ap f2
    have ax : apX (qPutL w' 64 0 (1 : Int64)) (mbL N L (N 0 0)).length (mb1 N L) (mbN N L) := by
      refine apX.mk ⟨mp, by omega⟩ par (fun i hi => ⟨(mem i hi).1, by have := (mb1_of hi).1; omega⟩) (fun i hi => ?_)
      have m := mb1_of hi
      exact ⟨hX2.n.num _ m.1, (o.num _ m.1).1, h60 _ m.1 m.2⟩
    have bB : ∀ k, k < (mbL N L (N 0 0)).length → (fun t => if t = 0 then 1 else mbB N L t) k ≤ 60 := by
      intro k hk
      show (if k = 0 then 1 else mbB N L k) ≤ 60
      split
      · decide
      · have m := mb1_of hk
        have := spb _ m.1 m.2
        have := h60 _ m.1 m.2
        unfold mbB
        omega
    have ef : fnd (mbN N L) (fun t => if t = 0 then 1 else mbB N L t) (mbL N L (N 0 0)).length 0 (fun _ => 0) = fnd (mbN N L) (mbN N L) ((mbL N L (N 0 0)).length - 1) 1 (fun _ => 0) := by
      have u0 : upx (fun _ => 0) 0 0 = fun _ => 0 := by
        funext j
        unfold upx
        split <;> rfl
      obtain ⟨q, hq⟩ : ∃ q, (mbL N L (N 0 0)).length = q + 1 := ⟨_, (Nat.sub_add_cancel mp).symm⟩
      rw [hq, Nat.add_sub_cancel, fnd_s]
      show (List.range 1).findSome? _ = _
      rw [show List.range 1 = [0] from rfl, List.findSome?_cons, List.findSome?_nil]
      unfold fnG
      rw [if_pos (show cns (mbN N L) 0 0 (fun _ => 0) = true from rfl), u0, fnd_cg (B' := mbB N L) (fun i hi => if_neg (by omega)) q 1 _ (Nat.le_refl _), fnd_B (p := q + 1) (B := mbB N L) (fun i hi => ?_) q 1 _ (by omega)]
      · cases fnd (mbN N L) (mbB N L) q 1 (fun _ => 0) <;> rfl
      · have m := mb1_of (N := N) (set := L) (i := i) (by omega)
        have b := spb _ m.1 m.2
        refine ⟨b.1, b.2, fun j hj hne => ?_⟩
        have m2 := mb1_of (N := N) (set := L) (i := j) (by omega)
        refine spO_p m2.1 m2.2 (fun e => hne ?_)
        exact mb1_inj (by omega) (by omega) e
    refine c_areSharing (by omega) ax (b1 ?_) (fun a b hab hb hg => b0 (hn _ (fnd_no hab hb (by rw [Nat.gcd_comm]; exact hg) _ 1 _ (by omega) (by omega)) f2))
    refine c_place (s := s) (B := fun t => if t = 0 then 1 else mbB N L t) bB (mbL N L (N 0 0)).length 0 (fun _ => 0) d _ (Nat.zero_add _) (by omega) ax (fun j hj => absurd hj (Nat.not_lt_zero _)) (fun k _ hk => ?_) (fun y w3 ey f3 r3 => ?_) (fun w3 ey f3 _ _ => ?_)
    · rw [apB_0 (B := fun t => if t = 0 then 1 else mbB N L t) (bB k hk), Nat.mul_zero, Nat.zero_add]
      show (qPutL w' 64 0 1).2.1 64 k = lN (2 ^ (if k = 0 then 1 else mbB N L k) - 1)
      by_cases e : k = 0
      · subst e; rw [pL_e]; rfl
      · rw [pL_f e, if_neg e]; exact (mem k hk).2
    · rw [ef] at ey
      exact b1 (hy y w3 ey (fr_tr f2 (fr_wk f3 (fun c hc => by unfold apA; omega))) (ax.fr f3) r3)
    · rw [ef] at ey
      exact b0 (hn w3 ey (fr_tr f2 (fr_wk f3 (fun c hc => by unfold apA; omega))))
  refine A_Searches_part ?_
  refine lpU (i := 0) (n := N 0 0) (I := fun k w' => k ≤ N 0 0 ∧ fr apA w w' ∧ w'.1 61 1 = nI (mbL N L k).length ∧ ∀ t, t < (mbL N L k).length → w'.1 62 t = nI ((mbL N L k).getD t 0) ∧ w'.2.1 64 t = lN (2 ^ spO N L ((mbL N L k).getD t 0) (N 0 0) - 1)) (P := fun k w' => qAt s d c_Searches_part (qQi Q) 7 [some (.ref 61), some (.int (nI L)), some (.int (nI k))] [] w') ?_ ?_ (Nat.zero_le _) ⟨Nat.zero_le _, fr_pI (by unfold apA; omega), by rw [pI_e]; rfl, fun t ht => absurd ht (Nat.not_lt_zero _)⟩
  · intro w1 ⟨_, f1, p1, m1⟩
    have hX1 := hX.ap f1
    refine A_Searches_part_7 ?_
    rw [hX1.n.ppl]
    exact ⟨fun _ => fin w1 f1 p1 m1, fun g => absurd (Int32.le_refl _) g⟩
  · intro k w1 hk ⟨_, f1, p1, m1⟩ nxt
    have hX1 := hX.ap f1
    have ml := mbL_le (N := N) (set := L) (k := k + 1) (by omega)
    have ml0 := mbL_le (N := N) (set := L) (k := k) (by omega)
    refine A_Searches_part_7 ?_
    rw [hX1.n.ppl, nI_leI (by omega) (by omega), p1, show (5 : Int32) = nI 5 from rfl, nI_leI (by omega) (by omega), nI_1 k]
    refine ⟨fun g => by omega, fun _ => ⟨fun g => ?_, fun g => c_isOfB (by omega) (by omega) (fun g2 => b1 ?_) (fun g2 => b0 ?_)⟩⟩
    · have e := mbL_fin (N := N) (set := L) (k := k) (by omega) (by omega) g
      refine fin w1 f1 (by rw [e]; exact p1) (fun t ht => ?_)
      unfold mb1 mbB mb1
      rw [e] at ht ⊢
      exact m1 t ht
    · rw [mem12_nI (by omega)] at g2
      have es : mbL N L (k + 1) = mbL N L k ++ [k] := by rw [mbL_s, if_pos g2]
      have el : (mbL N L (k + 1)).length = (mbL N L k).length + 1 := by rw [es, List.length_append]; rfl
      have sb := spb k hk g2
      have n60 := h60 k hk g2
      rw [p1, qIx_nI (by omega)]
      refine ⟨qIn_nI (by omega) (by decide), c_spanOf (by omega) (hX.ap (fr_I f1 (by unfold apA; omega))) hL hk ?_⟩
      rw [pI_c (by decide), p1, nI_1, ← el, show (1 : Int64) = lN 1 from rfl, qLshl_lN (by omega), Nat.one_mul, lN_sub (Nat.one_le_two_pow)]
      refine ⟨qIn_nI (by omega) (by decide), nxt _ ⟨hk, fr_I (fr_L (fr_I f1 (by unfold apA; omega)) (by unfold apA; omega)) (by unfold apA; omega), by rw [pI_e], fun t ht => ?_⟩⟩
      rw [pI_c (by decide), es]
      show (qPutI w1 62 _ _).1 62 t = _ ∧ (qPutL w1 64 _ _).2.1 64 t = _
      rw [el] at ht
      by_cases et : t = (mbL N L k).length
      · subst et
        rw [pI_e, pL_e, List.getD_eq_getElem?_getD, List.getElem?_append_right (Nat.le_refl _), Nat.sub_self]
        exact ⟨rfl, rfl⟩
      · rw [pI_f et, pL_f et, List.getD_eq_getElem?_getD, List.getElem?_append_left (by omega), ← List.getD_eq_getElem?_getD]
        exact m1 t (by omega)
    · rw [mem12_nI (by omega)] at g2
      have es : mbL N L (k + 1) = mbL N L k := by rw [mbL_s, if_neg (by rw [g2]; exact fun q => Bool.noConfusion q)]
      have nx := nxt w1
      rw [es] at nx
      exact nx ⟨hk, f1, p1, m1⟩
theorem c_apart {set who : Int32} (hd : 10 ≤ d) (hX : rX w N K T Z) (hy : ∀ w', vAp N set who → rX w' N K T Z → fr (fun c => c < 72) w w' → Q (fAp N set who) w') (hn : ¬ vAp N set who → Q (-1) w) : qCall (some s) d 171 [.ref 1, .int set, .int who] w (qQi Q) := by
  obtain ⟨d, rfl, hd1⟩ := dS hd
  have o := hX.okn
  have o0 := o.p12
  have hp := p12 o0
  refine A_X_apart (c_isSet (by omega) hX.n.ppl o0 (fun g1 => b1 ?_) (fun g => b0 (hn (fun q => g q.1))))
  obtain ⟨L, h1, h2, h3, e, e2⟩ := vSet_x o0 g1
  have cl := cntB_le L
  have eqv : vAp N set who ↔ cntB L ≤ 5 ∧ mem12 who L = true ∧ ∀ i, i < N 0 0 → L.testBit i = true → N 10 i ≤ 60 := by
    unfold vAp
    rw [e2]
    exact ⟨fun q => q.2, fun q => ⟨g1, q⟩⟩
  unfold fAp at hy
  rw [eqv] at hn
  rw [e2] at hy
  have hz := fun w' q => hy w' (eqv.mpr q)
  subst e
  refine ⟨fun g => hn (fun q => ?_), fun g0 => c_isOfOrNone (by omega) (by omega) (fun g2 => b1 ?_) (fun g => b0 (hn (fun q => g (Or.inr q.2.1))))⟩
  · have := q.2.1
    unfold mem12 at this
    rw [Bool.and_eq_true, decide_eq_true_eq] at this
    exact absurd g (Int32.not_lt.mpr this.1.1)
  have g3 : mem12 who L = true := by
    rcases g2 with g2 | g2
    · subst g2; exact absurd (by decide) g0
    · exact g2
  obtain ⟨x, hx12, ex, ex2, bx⟩ := mem12_x g3
  have hx := bit_P h2 bx
  refine c_canPart (by omega) hX h3 (fun g4 => n1 ?_) (fun g => n0 (hn (fun q => g ⟨q.1, q.2.2⟩)))
  rw [ex2] at hz
  subst ex
  have ml := mbL_le (N := N) (set := L) o0
  refine c_part (by omega) hX h1 h2 h3 g4.1 g4.2 (fun y w3 ey f3 ax r3 => b1 ?_) (fun w3 ey f3 => b0 ?_)
  · have hz3 := hz w3 ⟨g4.1, g3, g4.2⟩ (hX.ap f3) (fr_wk f3 (fun c hc => by unfold apA at hc; omega))
    rw [ey] at hz3
    have ix := mbI_of hx bx
    obtain ⟨d, rfl, -⟩ := dS (k := 0) (d := d) (by omega)
    refine A_Searches_firstOf ?_
    refine lpN (i := 0) (n := mbI N L x) (P := fun k => qAt s d c_Searches_firstOf (qQi Q) 2 [some (.ref 61), some (.int (nI x)), some (.int (nI k))] [] w3) ?_ ?_ (Nat.zero_le _)
    · have m := ax.mem _ ix.1
      refine A_Searches_firstOf_2 ?_
      rw [ax.par, nI_leI (by omega) (by omega), show (5 : Int32) = nI 5 from rfl, nI_leI (by omega) (by omega), qIx_nI (by omega), m.1, ix.2.1, r3 _ ix.1]
      exact ⟨fun g => by omega, fun _ => ⟨fun g => by omega, fun _ => ⟨qIn_nI (by omega) (by decide), fun g => absurd rfl g, fun _ => ⟨qIn_nI (by omega) (by decide), hz3⟩⟩⟩⟩
    · intro k hk ih
      have m := ax.mem k (by omega)
      have ne := ix.2.2 k hk
      refine A_Searches_firstOf_2 ?_
      rw [ax.par, nI_leI (by omega) (by omega), show (5 : Int32) = nI 5 from rfl, nI_leI (by omega) (by omega), qIx_nI (by omega), m.1, nI_eq (by omega) (by omega), nI_1]
      exact ⟨fun g => by omega, fun _ => ⟨fun g => by omega, fun _ => ⟨qIn_nI (by omega) (by decide), fun _ => ih, fun g => absurd g ne⟩⟩⟩
  · have hz3 := hz w3 ⟨g4.1, g3, g4.2⟩ (hX.ap f3) (fr_wk f3 (fun c hc => by unfold apA at hc; omega))
    rw [ey] at hz3
    exact hz3
end ApartC4
