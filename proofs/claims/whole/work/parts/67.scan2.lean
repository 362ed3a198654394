/-! secret, pass, judge, overheard, who: both sides. -/
section Scan2
variable {s : Nat × (Nat → Int32)} {d : Nat} {w : qW} {Q : Int32 → qW → Prop} {QL : Int64 → qW → Prop} {R : qW → Prop} {N S K : vS} {T : Nat → vT} {Z : vZ}
/-- who could listen to two -/
def lisN (N : vS) (x y : Nat) : Nat := andn (N 12 x ||| N 12 y) (2 ^ x ||| 2 ^ y)
theorem lis_lt (o : okS N) {x y : Nat} (hx : x < N 0 0) (hy : y < N 0 0) : lisN N x y < 4096 := andn_lt12 (Nat.or_lt_two_pow (n := 12) (o.nr x hx) (o.nr y hy))
theorem pair_lt {x y : Nat} (hx : x < 12) (hy : y < 12) : 2 ^ x ||| 2 ^ y < 4096 := Nat.or_lt_two_pow (n := 12) (p11 hx) (p11 hy)
theorem pair_bit (x y i : Nat) : (2 ^ x ||| 2 ^ y).testBit i = (decide (x = i) || decide (y = i)) := by
  rw [Nat.testBit_or, Nat.testBit_two_pow, Nat.testBit_two_pow]
theorem c_listenersOf {x y : Nat} (hd : 1 ≤ d) (hX : rX w N K T Z) (hx : x < N 0 0) (hy : y < N 0 0) (hQ : Q (nI (lisN N x y)) w) : qCall (some s) d 134 [.ref 2, .int (nI (2 ^ x ||| 2 ^ y))] w (qQi Q) := by
  obtain ⟨d, rfl, hd1⟩ := dS hd
  have o0 := hX.okn.p12
  have r := hX.n
  have hp := pair_lt (x := x) (y := y) (by omega) (by omega)
  refine A_State_listenersOf ?_
  have go : ∀ i : Nat, i ≤ N 0 0 → ∀ f : Nat, f = ((if x < i then N 12 x else 0) ||| (if y < i then N 12 y else 0)) → qAt s d c_State_listenersOf (qQi Q) 4 [some (.ref 2), some (.int (nI (2 ^ x ||| 2 ^ y))), some (.int (nI f)), some (.int (nI i))] [] w := by
    intro i hi
    refine lpN (n := N 0 0) (P := fun i => ∀ f : Nat, f = ((if x < i then N 12 x else 0) ||| (if y < i then N 12 y else 0)) → qAt s d c_State_listenersOf (qQi Q) 4 [some (.ref 2), some (.int (nI (2 ^ x ||| 2 ^ y))), some (.int (nI f)), some (.int (nI i))] [] w) ?_ ?_ hi
    · intro f ef
      refine A_State_listenersOf_4 ?_
      rw [r.ppl, show (-1 : Int32) = -(nI 1) from rfl, nI_andn]
      rw [if_pos hx, if_pos hy] at ef
      rw [ef]
      exact ⟨fun _ => hQ, fun g => absurd (Int32.le_refl _) g⟩
    · intro i hi ih f ef
      refine A_State_listenersOf_4 ?_
      rw [r.ppl, nI_leI (by omega) (by omega), nI_1, qIx_nI (by omega), r.nr i hi, nI_or]
      refine ⟨fun g => absurd g (by omega), fun _ => ⟨fun g => ?_, fun g => ?_⟩⟩
      · have hb := (qBit_0 (by omega) (by omega)).mp g
        rw [pair_bit, Bool.or_eq_false_iff, decide_eq_false_iff_not, decide_eq_false_iff_not] at hb
        refine ih f ?_
        rw [ef]
        have e1 : (x < i + 1) ↔ (x < i) := by omega
        have e2 : (y < i + 1) ↔ (y < i) := by omega
        simp only [e1, e2]
      · have hb : (2 ^ x ||| 2 ^ y).testBit i = true := by
          cases hb : (2 ^ x ||| 2 ^ y).testBit i with
          | true => rfl
          | false => exact absurd ((qBit_0 (by omega) (by omega)).mpr hb) g
        rw [pair_bit, Bool.or_eq_true, decide_eq_true_eq, decide_eq_true_eq] at hb
        refine ⟨qIn_nI (by omega) (by decide), ih _ ?_⟩
        rw [ef]
        apply bits_ext
        intro q
        rcases hb with hb | hb
        · subst hb
          rw [if_neg (Nat.lt_irrefl _), if_pos (Nat.lt_succ_self _)]
          by_cases e : x = y
          · subst e
            rw [if_neg (Nat.lt_irrefl _), if_pos (Nat.lt_succ_self _)]
            simp
          · have e1 : (y < x + 1) ↔ (y < x) := by omega
            simp only [e1]
            rw [Nat.testBit_or, Nat.testBit_or, Nat.testBit_or, Nat.zero_testBit, Bool.false_or, Bool.or_comm]
        · subst hb
          rw [if_neg (Nat.lt_irrefl y), if_pos (Nat.lt_succ_self y)]
          by_cases e : x = y
          · subst e
            rw [if_neg (Nat.lt_irrefl _), if_pos (Nat.lt_succ_self _)]
            simp
          · have e1 : (x < y + 1) ↔ (x < y) := by omega
            simp only [e1]
            rw [Nat.testBit_or, Nat.testBit_or, Nat.testBit_or, Nat.zero_testBit, Bool.or_false]
  exact go 0 (Nat.zero_le _) 0 (by simp)
def vSec (N : vS) (a b : Int32) (h : Int64) (n : Int32) : Prop := (¬ a = b ∧ vTold (N 0 0) a ∧ vTold (N 0 0) b) ∧ (0 ≤ n ∧ n ≤ 100000) ∧ vHours h (if n = 0 then 100000 else n.toInt64)
/-- do two speak, and no listener of theirs? -/
def secP (N : vS) (x y m : Nat) : Bool := decide (m &&& (2 ^ x ||| 2 ^ y) = 2 ^ x ||| 2 ^ y) && decide (m &&& lisN N x y = 0)
def secG (T : Nat → vT) (N : vS) (x y e m i : Nat) : Bool := decide (¬ m = 0) && secP N x y (spkM T N (e + i))
def fSec (T : Nat → vT) (N : vS) (x y a m : Nat) : Int64 := if m = 0 then (match (List.range 100000).find? (fun i => secP N x y (spkM T N (a + i))) with
  | some i => lN (a + i)
  | none => -1) else lN (cnt (secG T N x y a m) m)
theorem vSec_x {a b : Int32} {h : Int64} {n : Int32} (o : okS N) (g : vSec N a b h n) : ∃ x y e m k, x < N 0 0 ∧ y < N 0 0 ∧ ¬ x = y ∧ a = nI x ∧ b = nI y ∧ h = lN e ∧ n = nI m ∧ qIx a = x ∧ qIx b = y ∧ h.toNatClampNeg = e ∧ qIx n = m ∧ m ≤ 100000 ∧ k = (if m = 0 then 100000 else m) ∧ e + k ≤ 1000000000000001 := by
  obtain ⟨x, hx, ea, ea2⟩ := vTold_x o.p12 g.1.2.1
  obtain ⟨y, hy, eb, eb2⟩ := vTold_x o.p12 g.1.2.2
  have hxy : ¬ x = y := fun e => g.1.1 (by rw [ea, eb, e])
  obtain ⟨m, _, h2, em, em2⟩ := nI_rng 0 100000 g.2.1.1 g.2.1.2
  obtain ⟨e, k, he, hk, he2, hk2, h3, h4⟩ := vHours_x g.2.2
  refine ⟨x, y, e, m, if m = 0 then 100000 else m, hx, hy, hxy, ea, eb, he, em, ea2, eb2, he2, em2, h2, rfl, ?_⟩
  have : k = if m = 0 then 100000 else m := by
    by_cases q : m = 0
    · rw [if_pos (by rw [em, q]; rfl)] at hk
      rw [if_pos q]
      exact (pk_lEQ (by omega) (by omega)).mp hk.symm
    · rw [if_neg (by rw [em, eq0 (by omega)]; exact q), em, nI_l (by omega)] at hk
      rw [if_neg q]
      exact (pk_lEQ (by omega) (by omega)).mp hk.symm
  rw [← this]
  exact h4
theorem c_secret {a b : Int32} {h : Int64} {n : Int32} (hd : 5 ≤ d) (hX : rX w N K T Z) (hy : ∀ w', vSec N a b h n → rX w' N K T Z → fr (fun c => c < 72) w w' → QL (fSec T N (qIx a) (qIx b) h.toNatClampNeg (qIx n)) w') (hn : ¬ vSec N a b h n → QL (-1) w) : qCall (some s) d 133 [.ref 1, .int a, .int b, .long h, .int n] w (qQl QL) := by
  obtain ⟨d, rfl, hd1⟩ := dS hd
  have o := hX.okn
  have o0 := o.p12
  have main : ∀ z : Int32, z = (if n = 0 then 100000 else n) → qAt s d c_X_secret (qQl QL) 12 [some (.ref 1), some (.int a), some (.int b), some (.long h), none, some (.int n), none, none, none, none, none, none, none] [.int z] w := by
    intro z hz
    have hz6 : z.toInt64 = (if n = 0 then 100000 else n.toInt64) := by
      rw [hz]
      by_cases q : n = 0
      · rw [if_pos q, if_pos q]; rfl
      · rw [if_neg q, if_neg q]
    refine A_X_secret_12 (c_isPair (by omega) hX.n.ppl o0 (fun g1 => b1 ⟨fun g => hn (fun q => ?_), fun g2 => ?_⟩) (fun g => b0 (hn (fun q => g q.1))))
    · rw [hz] at g
      by_cases q0 : n = 0
      · rw [if_pos q0] at g; exact absurd g (by decide)
      · rw [if_neg q0] at g; exact absurd g (Int32.not_lt.mpr q.2.1.2)
    · refine c_areHours (by omega) (fun g3 => n1 ?_) (fun g => n0 (hn (fun q => g (by rw [hz6]; exact q.2.2))))
      rw [hz6] at g3
      have g : vSec N a b h n := by
        refine ⟨g1, ?_, g3⟩
        by_cases q0 : n = 0
        · rw [q0]; exact ⟨by decide, by decide⟩
        · rw [hz, if_neg q0] at g2
          refine ⟨?_, Int32.not_lt.mp g2⟩
          rw [if_neg q0] at g3
          have h1 := Int64.le_iff_toInt_le.mp g3.1
          rw [i64_t, show (1 : Int64).toInt = 1 by decide] at h1
          rw [Int32.le_iff_toInt_le, show (0 : Int32).toInt = 0 by decide]
          omega
      obtain ⟨x, y, e, m, k, hx, hy', hxy, ea, eb, he, em, ea2, eb2, he2, em2, h2, hk, h4⟩ := vSec_x o g
      rw [ea2, eb2, he2, em2] at hy
      have ez : z = nI k := by
        rw [hz, em, hk]
        by_cases q : m = 0
        · subst q; rfl
        · rw [if_neg (by rw [eq0 (by omega)]; exact q), if_neg q]
      have hk1 : 1 ≤ k ∧ k ≤ 100000 := by
        rw [hk]
        by_cases q : m = 0
        · rw [if_pos q]; omega
        · rw [if_neg q]; omega
      subst ea eb he em ez
      have hp := pair_lt (x := x) (y := y) (by omega) (by omega)
      have hl := lis_lt o hx hy'
      rw [li, qShl_n (by omega), qShl_n (by omega), nI_or]
      refine c_listenersOf (by omega) hX hx hy' ?_
      refine c_begin hd1 hX (by omega) hk1.1 (by omega) ?_
      intro w1 f1 c1
      refine lpU (i := 0) (n := k) (I := fun i w2 => fr (fun c => c = 50 ∨ c = 52) w w2 ∧ vC w2 N (e + i) ∧ (m = 0 → ∀ j, j < i → secP N x y (spkM T N (e + j)) = false)) (P := fun i w2 => qAt s d c_X_secret (qQl QL) 83 [some (.ref 1), none, none, some (.long (lN e)), none, some (.int (nI m)), some (.int (nI k)), some (.int (nI (2 ^ x ||| 2 ^ y))), some (.int (nI (lisN N x y))), some (.long (lN (cnt (secG T N x y e m) i))), none, some (.int (nI i)), none] [] w2) ?_ ?_ (Nat.zero_le _) ?_
      · intro w2 ⟨f2, c2, no⟩
        have hy := hy w2 g (hX.rw f2) (fr_wk f2 (fun c hc => by omega))
        unfold fSec at hy
        refine A_X_secret_83 ⟨fun _ => ?_, fun g => absurd (Int32.le_refl _) g⟩
        rw [eq0 (by omega)]
        refine ⟨fun q => ?_, fun q => ?_⟩
        · rw [if_neg q] at hy hk
          rw [hk]; exact hy
        · rw [if_pos q, find_none (fun j hj => no q j (by rw [hk, if_pos q]; exact hj))] at hy
          exact hy
      · intro i w2 hi ⟨f2, c2, no⟩ ih
        refine A_X_secret_83 ⟨fun g => absurd g (nI_ge hi (by omega)), fun _ => c_nextMask hd1 (hX.rw f2) c2 (by omega) ?_⟩
        intro w3 f3 c3
        have hM := spkM_lt T o (e + i)
        have a1 : spkM T N (e + i) &&& (2 ^ x ||| 2 ^ y) < 4096 := Nat.lt_of_le_of_lt Nat.and_le_left hM
        have a2 : spkM T N (e + i) &&& lisN N x y < 4096 := Nat.lt_of_le_of_lt Nat.and_le_left hM
        have ce := cnt_le (secG T N x y e m) i
        have nofn : secP N x y (spkM T N (e + i)) = false → qAt s d c_X_secret (qQl QL) 83 [some (.ref 1), none, none, some (.long (lN e)), none, some (.int (nI m)), some (.int (nI k)), some (.int (nI (2 ^ x ||| 2 ^ y))), some (.int (nI (lisN N x y))), some (.long (lN (cnt (secG T N x y e m) i))), none, some (.int (nI (i + 1))), none] [] w3 := by
          intro q
          have ih := ih w3 ⟨fr_tr f2 f3, c3, fun q0 j hj => by
            by_cases ej : j = i
            · subst ej; exact q
            · exact no q0 j (by omega)⟩
          rw [cnt_0 (f := secG T N x y e m) (by unfold secG; rw [q, Bool.and_false])] at ih
          exact ih
        rw [nI_1, nI_and, nI_and, nI_eq (by omega) (by omega), eq0 (by omega), eq0 (by omega)]
        refine ⟨fun q => nofn (by unfold secP; rw [decide_eq_false q]; rfl), fun q1 => ⟨fun q => nofn (by unfold secP; rw [decide_eq_false q, Bool.and_false]), fun q2 => ?_⟩⟩
        have yes : secP N x y (spkM T N (e + i)) = true := by unfold secP; rw [decide_eq_true q1, decide_eq_true q2]; rfl
        refine ⟨fun q => ?_, fun q => ?_⟩
        · have ih := ih w3 ⟨fr_tr f2 f3, c3, fun q0 => absurd q0 q⟩
          rw [cnt_1 (f := secG T N x y e m) (by unfold secG; rw [yes, decide_eq_true q]; rfl)] at ih
          rw [ll, lN_add]
          exact ih
        · have hy := hy w3 g (hX.rw (fr_tr f2 f3)) (fr_wk (fr_tr f2 f3) (fun c hc => by omega))
          unfold fSec at hy
          rw [if_pos q, find_some (i := i) (by rw [hk, if_pos q] at hi; exact hi) yes (fun j hj => no q j hj)] at hy
          rw [nI_l (by omega), lN_add]
          exact hy
      · exact ⟨f1, c1, fun _ j hj => by omega⟩
  exact A_X_secret ⟨fun q => main n (by rw [if_neg q]), fun q => main 100000 (by rw [if_pos q])⟩
theorem sec_ref {N : vS} {x y m : Nat} : (andn m (2 ^ x ||| 2 ^ y) &&& (N 12 x ||| N 12 y)) = m &&& lisN N x y := by
  apply bits_ext
  intro q
  unfold lisN
  rw [Nat.testBit_and, andn_bit, Nat.testBit_and, andn_bit]
  cases m.testBit q <;> cases (2 ^ x ||| 2 ^ y).testBit q <;> simp
theorem m_isSecret {x y h : Nat} (hd : 5 ≤ d) (hX : rM w N K T Z) (hT : tkA w T N) (hx : x < N 0 0) (hy : y < N 0 0) (hh : h < 2 ^ 62) (hQ : Q (tI (secP N x y (spkM T N h))) w) : qCall (some s) d 287 [.ref 72, .int (nI x), .int (nI y), .long (lN h)] w (qQi Q) := by
  obtain ⟨d, rfl, hd1⟩ := dS hd
  have o := hX.okn
  have o0 := o.p12
  have hM := spkM_lt T o h
  have hp := pair_lt (x := x) (y := y) (by omega) (by omega)
  have a1 : spkM T N h &&& (2 ^ x ||| 2 ^ y) < 4096 := Nat.lt_of_le_of_lt Nat.and_le_left hM
  have a2 : spkM T N h &&& lisN N x y < 4096 := Nat.lt_of_le_of_lt Nat.and_le_left hM
  refine A_Mo_isSecret (m_speakers hd1 hX (alike_rf N) o hT hh ?_)
  rw [li, qShl_n (by omega), qShl_n (by omega), nI_or, nI_and, nI_eq (by omega) (by omega)]
  unfold secP at hQ
  refine ⟨fun q => ?_, fun q => ?_⟩
  · rw [decide_eq_false q, Bool.false_and] at hQ; exact hQ
  · rw [li, nI_add, nI_add, qIx_nI (by omega), qIx_nI (by omega), hX.n.nr x hx, hX.n.nr y hy, nI_or, nI_andn, nI_and, sec_ref, eq0 (by omega)]
    rw [decide_eq_true q, Bool.true_and] at hQ
    refine ⟨qIn_nI (by omega) (by decide), qIn_nI (by omega) (by decide), fun q2 => ?_, fun q2 => ?_⟩
    · rw [decide_eq_false q2] at hQ; exact hQ
    · rw [decide_eq_true q2] at hQ; exact hQ
theorem m_secret {a b : Int32} {h : Int64} {n : Int32} (hd : 6 ≤ d) (hX : rM w N K T Z) (hy : ∀ w', vSec N a b h n → fr (fun c => 79 ≤ c) w w' → QL (fSec T N (qIx a) (qIx b) h.toNatClampNeg (qIx n)) w') (hn : ¬ vSec N a b h n → QL (-1) w) : qCall (some s) d 286 [.ref 72, .int a, .int b, .long h, .int n] w (qQl QL) := by
  obtain ⟨d, rfl, hd1⟩ := dS hd
  have o := hX.okn
  have o0 := o.p12
  have main : vSec N a b h n → qCall (some s) d 253 [.ref 72] w (qQv fun w9 => qAt s d c_Mo_secret (qQl QL) 67 [some (.ref 72), some (.int a), some (.int b), some (.long h), none, some (.int n), some (.int (0 : Int32)), some (.long h), none] [] w9) := by
    intro g
    refine m_take' hd1 hX ?_
    intro w2 f2 hX2 t2
    have hz := hy w2 g f2
    obtain ⟨x, y, e, m, k, hx, hy', hxy, ea, eb, he, em, ea2, eb2, he2, em2, h2, hk, h4⟩ := vSec_x o g
    rw [ea2, eb2, he2, em2] at hz
    have hk1 : 1 ≤ k ∧ k ≤ 100000 := by
      rw [hk]
      by_cases q : m = 0
      · rw [if_pos q]; omega
      · rw [if_neg q]; omega
    subst ea eb he em
    have at82 : ∀ (c i : Nat), qAt s d c_Mo_secret (qQl QL) 82 [some (.ref 72), some (.int (nI x)), some (.int (nI y)), some (.long (lN e)), none, some (.int (nI m)), some (.int (nI c)), some (.long (lN (e + i))), none] [.int (nI k), .long (lN e), .long (lN (e + i))] w2 → qAt s d c_Mo_secret (qQl QL) 67 [some (.ref 72), some (.int (nI x)), some (.int (nI y)), some (.long (lN e)), none, some (.int (nI m)), some (.int (nI c)), some (.long (lN (e + i))), none] [] w2 := by
      intro c i q
      refine A_Mo_secret_67 ⟨fun q0 => ?_, fun q0 => ?_⟩
      · rw [eq0 (by omega)] at q0
        rw [hk, if_neg q0] at q; exact q
      · rw [eq0 (by omega)] at q0
        rw [hk, if_pos q0] at q; exact q
    refine lpN (i := 0) (n := k) (P := fun i => (m = 0 → ∀ j, j < i → secP N x y (spkM T N (e + j)) = false) → qAt s d c_Mo_secret (qQl QL) 67 [some (.ref 72), some (.int (nI x)), some (.int (nI y)), some (.long (lN e)), none, some (.int (nI m)), some (.int (nI (cnt (secG T N x y e m) i))), some (.long (lN (e + i))), none] [] w2) ?_ ?_ (Nat.zero_le _) (fun _ j hj => by omega)
    · intro no
      refine at82 _ _ (A_Mo_secret_82 ?_)
      unfold fSec at hz
      have ce := cnt_le (secG T N x y e m) k
      rw [nI_l (by omega), lN_add, lg_ge]
      refine ⟨fun _ => ?_, fun g => absurd (Int64.le_refl _) g⟩
      rw [eq0 (by omega)]
      refine ⟨fun q => ?_, fun q => ?_⟩
      · rw [if_neg q] at hz hk
        rw [nI_l (by omega), hk]; exact hz
      · rw [if_pos q, find_none (fun j hj => no q j (by rw [hk, if_pos q]; exact hj))] at hz
        exact hz
    · intro i hi ih no
      refine at82 _ _ (A_Mo_secret_82 ?_)
      unfold fSec at hz
      have ce := cnt_le (secG T N x y e m) i
      rw [nI_l (by omega), lN_add, lg_ge, pk_lLE (by omega) (by omega)]
      refine ⟨fun g => absurd g (by omega), fun _ => m_isSecret (by omega) hX2 t2 hx hy' (by omega) (tI_n (fun yes => ?_) (fun noo => ?_))⟩
      · rw [eq0 (by omega)]
        refine ⟨fun q => ?_, fun q => ?_⟩
        · have ih := ih (fun q0 => absurd q0 q)
          rw [cnt_1 (f := secG T N x y e m) (by unfold secG; rw [yes, decide_eq_true q]; rfl)] at ih
          rw [nI_1, ll, lN_add]
          exact ih
        · rw [if_pos q, find_some (i := i) (by rw [hk, if_pos q] at hi; exact hi) yes (fun j hj => no q j hj)] at hz
          exact hz
      · have ih := ih (fun q0 j hj => by
          by_cases ej : j = i
          · subst ej; exact noo
          · exact no q0 j (by omega))
        rw [cnt_0 (f := secG T N x y e m) (by unfold secG; rw [noo, Bool.and_false])] at ih
        rw [ll, lN_add]
        exact ih
  refine A_Mo_secret (m_isPerson (by omega) hX.n.ppl o0 (fun g1 => b1 (m_isPerson (by omega) hX.n.ppl o0 (fun g2 => b1 ⟨fun g => hn (fun q => q.1.1 g), fun g3 => m_isInB (by omega) (fun g4 => b1 ?_) (fun g => b0 (hn (fun q => g q.2.1)))⟩) (fun g => b0 (hn (fun q => g q.1.2.2))))) (fun g => b0 (hn (fun q => g q.1.2.1))))
  refine ⟨fun q => m_areHours (by omega) (fun g5 => n1 (main ⟨⟨g3, g1, g2⟩, g4, by rw [if_neg q]; exact g5⟩)) (fun g => n0 (hn (fun q2 => g (by have := q2.2.2; rw [if_neg q] at this; exact this)))), fun q => m_areHours (by omega) (fun g5 => n1 (main ⟨⟨g3, g1, g2⟩, g4, by rw [if_pos q]; exact g5⟩)) (fun g => n0 (hn (fun q2 => g (by have := q2.2.2; rw [if_pos q] at this; exact this))))⟩
/-! pass -/
def vPas (N : vS) (a : Int32) (h : Int64) (b q : Int32) : Prop := vTold (N 0 0) a ∧ vTold (N 0 0) b ∧ vStart h ∧ 0 ≤ q ∧ q ≤ 1
/-- who knows, ahead of the i-th hour -/
def knw (T : Nat → vT) (N : vS) (x e : Nat) : Nat → Nat
  | 0 => 2 ^ x
  | i + 1 => if spkM T N (e + i) &&& knw T N x e i = 0 then knw T N x e i else knw T N x e i ||| spkM T N (e + i)
def pasP (T : Nat → vT) (N : vS) (x e y i : Nat) : Bool := decide (¬ spkM T N (e + i) &&& knw T N x e i = 0) && (spkM T N (e + i)).testBit y
def fPas (T : Nat → vT) (N : vS) (x e y : Nat) (q : Int32) : Int64 := if x = y then (if q = 0 then lN e else -1) else match (List.range 100000).find? (pasP T N x e y) with
  | some i => if q = 0 then lN (e + i) else lN (lowB (spkM T N (e + i) &&& knw T N x e i))
  | none => -1
theorem knw_lt (o : okS N) {x : Nat} (hx : x < 12) (e : Nat) : ∀ i, knw T N x e i < 4096
  | 0 => p11 hx
  | i + 1 => by
    unfold knw
    by_cases q : spkM T N (e + i) &&& knw T N x e i = 0
    · rw [if_pos q]; exact knw_lt o hx e i
    · rw [if_neg q]; exact Nat.or_lt_two_pow (n := 12) (knw_lt o hx e i) (spkM_lt T o _)
theorem vPas_x {a b q : Int32} {h : Int64} (o : okS N) (g : vPas N a h b q) : ∃ x y e, x < N 0 0 ∧ y < N 0 0 ∧ e ≤ 100000000000000 ∧ a = nI x ∧ b = nI y ∧ h = lN e ∧ qIx a = x ∧ qIx b = y ∧ h.toNatClampNeg = e := by
  obtain ⟨x, hx, ea, ea2⟩ := vTold_x o.p12 g.1
  obtain ⟨y, hy, eb, eb2⟩ := vTold_x o.p12 g.2.1
  have h1 := Int64.le_iff_toInt_le.mp g.2.2.1.1
  have h2 := Int64.le_iff_toInt_le.mp g.2.2.1.2
  rw [show (0 : Int64).toInt = 0 by decide] at h1
  rw [show (100000000000000 : Int64).toInt = 100000000000000 by decide] at h2
  refine ⟨x, y, h.toInt.toNat, hx, hy, by omega, ea, eb, ?_, ea2, eb2, rfl⟩
  apply Int64.toInt_inj.mp
  rw [lN_tI (by omega)]; omega
theorem c_pass {a b q : Int32} {h : Int64} (hd : 5 ≤ d) (hX : rX w N K T Z) (hy : ∀ w', vPas N a h b q → rX w' N K T Z → fr (fun c => c < 72) w w' → QL (fPas T N (qIx a) h.toNatClampNeg (qIx b) q) w') (hn : ¬ vPas N a h b q → QL (-1) w) : qCall (some s) d 135 [.ref 1, .int a, .long h, .int b, .int q] w (qQl QL) := by
  obtain ⟨d, rfl, hd1⟩ := dS hd
  have o := hX.okn
  have o0 := o.p12
  refine A_X_pass (c_isTold (by omega) hX.n.ppl o0 (fun g1 => b1 (c_isTold (by omega) hX.n.ppl o0 (fun g2 => b1 (c_isStart (by omega) (fun g3 => b1 ⟨fun g => hn (fun q => absurd g (Int32.not_lt.mpr q.2.2.2.1)), fun g4 => ⟨fun g5 => ?_, fun g => hn (fun q => g q.2.2.2.2)⟩⟩) (fun g => b0 (hn (fun q => g q.2.2.1))))) (fun g => b0 (hn (fun q => g q.2.1))))) (fun g => b0 (hn (fun q => g q.1))))
  have g : vPas N a h b q := ⟨g1, g2, g3, Int32.not_lt.mp g4, g5⟩
  obtain ⟨x, y, e, hx, hy', he, ea, eb, eh, ea2, eb2, eh2⟩ := vPas_x o g
  rw [ea2, eb2, eh2] at hy
  subst ea eb eh
  rw [nI_eq (by omega) (by omega)]
  unfold fPas at hy
  refine ⟨fun qx => ?_, fun qx => ?_⟩
  · rw [if_neg qx] at hy
    refine c_begin (n := 100000) hd1 hX (by omega) (by omega) (by omega) ?_
    intro w1 f1 c1
    rw [li, qShl_n (by omega)]
    refine lpU (i := 0) (n := 100000) (I := fun i w2 => fr (fun c => c = 50 ∨ c = 52) w w2 ∧ vC w2 N (e + i) ∧ (∀ j, j < i → pasP T N x e y j = false)) (P := fun i w2 => qAt s d c_X_pass (qQl QL) 82 [some (.ref 1), none, some (.long (lN e)), none, some (.int (nI y)), some (.int q), some (.int (nI (knw T N x e i))), some (.int (nI i)), none, none] [] w2) ?_ ?_ (Nat.zero_le _) ⟨f1, c1, fun j hj => by omega⟩
    · intro w2 ⟨f2, c2, no⟩
      have hy := hy w2 g (hX.rw f2) (fr_wk f2 (fun c hc => by omega))
      rw [find_none no] at hy
      exact A_X_pass_82 ⟨fun _ => hy, fun g => absurd (Int32.le_refl _) g⟩
    · intro i w2 hi ⟨f2, c2, no⟩ ih
      refine A_X_pass_82 ⟨fun g => absurd g (nI_ge (b := 100000) hi (by omega)), fun _ => c_nextMask hd1 (hX.rw f2) c2 (by omega) ?_⟩
      intro w3 f3 c3
      have hM := spkM_lt T o (e + i)
      have hK := knw_lt (T := T) o (x := x) (by omega) e i
      have a1 : spkM T N (e + i) &&& knw T N x e i < 4096 := Nat.lt_of_le_of_lt Nat.and_le_left hM
      have ih : pasP T N x e y i = false → _ := fun q => ih w3 ⟨fr_tr f2 f3, c3, fun j hj => by
        by_cases ej : j = i
        · subst ej; exact q
        · exact no j (by omega)⟩
      have hu : knw T N x e (i + 1) = if spkM T N (e + i) &&& knw T N x e i = 0 then knw T N x e i else knw T N x e i ||| spkM T N (e + i) := rfl
      rw [hu] at ih
      rw [nI_1, nI_and, nI_or, eq0 (by omega)]
      refine ⟨fun q0 => ?_, fun q0 => ⟨fun qb => ?_, fun qb => ?_⟩⟩
      · have ih := ih (by unfold pasP; rw [decide_eq_false (fun q => q q0)]; rfl)
        rw [if_pos q0] at ih
        exact ih
      · have ih := ih (by unfold pasP; rw [(qBit_0 (by omega) (by omega)).mp qb, Bool.and_false])
        rw [if_neg q0] at ih
        exact ih
      · have hb : (spkM T N (e + i)).testBit y = true := by
          cases hb : (spkM T N (e + i)).testBit y with
          | true => rfl
          | false => exact absurd ((qBit_0 (by omega) (by omega)).mpr hb) qb
        have yes : pasP T N x e y i = true := by unfold pasP; rw [decide_eq_true q0, hb]; rfl
        have hy := hy w3 g (hX.rw (fr_tr f2 f3)) (fr_wk (fr_tr f2 f3) (fun c hc => by omega))
        rw [find_some hi yes no] at hy
        refine ⟨fun qq => ?_, fun qq => ?_⟩
        · have hy : QL (if q = 0 then lN (e + i) else lN (lowB (spkM T N (e + i) &&& knw T N x e i))) w3 := hy
          rw [if_neg qq] at hy
          refine c_lowestOf (by omega) (by omega) a1 ?_
          have := (lowB_spec (n := spkM T N (e + i) &&& knw T N x e i) (by omega) a1).1
          rw [nI_l (by omega)]
          exact hy
        · have hy : QL (if q = 0 then lN (e + i) else lN (lowB (spkM T N (e + i) &&& knw T N x e i))) w3 := hy
          rw [if_pos qq] at hy
          rw [nI_l (by omega), lN_add]
          exact hy
  · have hy := hy w g hX (fr_rf _ _)
    rw [if_pos qx] at hy
    refine ⟨fun qq => ?_, fun qq => ?_⟩
    · rw [if_neg qq] at hy; exact hy
    · rw [if_pos qq] at hy; exact hy
theorem m_pass {a b q : Int32} {h : Int64} (hd : 6 ≤ d) (hX : rM w N K T Z) (hy : ∀ w', vPas N a h b q → fr (fun c => 79 ≤ c) w w' → QL (fPas T N (qIx a) h.toNatClampNeg (qIx b) q) w') (hn : ¬ vPas N a h b q → QL (-1) w) : qCall (some s) d 288 [.ref 72, .int a, .long h, .int b, .int q] w (qQl QL) := by
  obtain ⟨d, rfl, hd1⟩ := dS hd
  have o := hX.okn
  have o0 := o.p12
  refine A_Mo_pass (m_isPerson (by omega) hX.n.ppl o0 (fun g1 => b1 (m_isPerson (by omega) hX.n.ppl o0 (fun g2 => b1 ?_) (fun g => b0 (hn (fun q => g q.2.1))))) (fun g => b0 (hn (fun q => g q.1))))
  rw [lg_lt, lg_gt]
  refine ⟨fun g => hn (fun q => absurd g (Int64.not_lt.mpr q.2.2.1.1)), fun g3 => ⟨fun g => hn (fun q => absurd g (Int64.not_lt.mpr q.2.2.1.2)), fun g4 => m_isInB (by omega) (fun g5 => n1 ?_) (fun g => n0 (hn (fun q => g q.2.2.2)))⟩⟩
  have g : vPas N a h b q := ⟨g1, g2, ⟨Int64.not_lt.mp g3, Int64.not_lt.mp g4⟩, g5⟩
  obtain ⟨x, y, e, hx, hy', he, ea, eb, eh, ea2, eb2, eh2⟩ := vPas_x o g
  rw [ea2, eb2, eh2] at hy
  subst ea eb eh
  rw [nI_eq (by omega) (by omega)]
  unfold fPas at hy
  refine ⟨fun qx => ?_, fun qx => ?_⟩
  · rw [if_neg qx] at hy
    refine m_take' hd1 hX ?_
    intro w2 f2 hX2 t2
    have hy := hy w2 g f2
    rw [li, qShl_n (by omega)]
    refine lpN (i := 0) (n := 100000) (P := fun i => (∀ j, j < i → pasP T N x e y j = false) → qAt s d c_Mo_pass (qQl QL) 76 [some (.ref 72), none, some (.long (lN e)), none, some (.int (nI y)), some (.int q), some (.int (nI (knw T N x e i))), some (.long (lN (e + i))), none, none] [] w2) ?_ ?_ (Nat.zero_le _) (fun j hj => by omega)
    · intro no
      rw [find_none no] at hy
      refine A_Mo_pass_76 ?_
      rw [ll, lN_add, lg_ge]
      exact ⟨fun _ => hy, fun g => absurd (Int64.le_refl _) g⟩
    · intro i hi ih no
      refine A_Mo_pass_76 ?_
      have hM := spkM_lt T o (e + i)
      have hK := knw_lt (T := T) o (x := x) (by omega) e i
      have a1 : spkM T N (e + i) &&& knw T N x e i < 4096 := Nat.lt_of_le_of_lt Nat.and_le_left hM
      have ih : pasP T N x e y i = false → _ := fun q => ih (fun j hj => by
        by_cases ej : j = i
        · subst ej; exact q
        · exact no j (by omega))
      have hu : knw T N x e (i + 1) = if spkM T N (e + i) &&& knw T N x e i = 0 then knw T N x e i else knw T N x e i ||| spkM T N (e + i) := rfl
      rw [hu] at ih
      rw [ll, lN_add, lg_ge, pk_lLE (by omega) (by omega)]
      refine ⟨fun g => absurd g (by omega), fun _ => m_speakers (by omega) hX2 (alike_rf N) o t2 (by omega) ?_⟩
      rw [nI_and, nI_or, eq0 (by omega), ll, lN_add]
      refine ⟨fun q0 => m_has (by omega) (by omega) (by omega) (fun hb => b1 ?_) (fun hb => b0 ?_), fun q0 => ?_⟩
      · have yes : pasP T N x e y i = true := by unfold pasP; rw [decide_eq_true q0, hb]; rfl
        rw [find_some hi yes no] at hy
        have hy : QL (if q = 0 then lN (e + i) else lN (lowB (spkM T N (e + i) &&& knw T N x e i))) w2 := hy
        refine ⟨fun qq => ?_, fun qq => ?_⟩
        · rw [if_neg qq] at hy
          refine m_lowest (by omega) (by omega) a1 ?_
          have := (lowB_spec (n := spkM T N (e + i) &&& knw T N x e i) (by omega) a1).1
          rw [nI_l (by omega)]
          exact hy
        · rw [if_pos qq] at hy
          exact hy
      · have ih := ih (by unfold pasP; rw [hb, Bool.and_false])
        rw [if_neg q0] at ih
        exact ih
      · have ih := ih (by unfold pasP; rw [decide_eq_false (fun q => q q0)]; rfl)
        rw [if_pos q0] at ih
        exact ih
  · have hy := hy w g (fr_rf _ _)
    rw [if_pos qx] at hy
    refine ⟨fun qq => ?_, fun qq => ?_⟩
    · rw [if_neg qq] at hy; exact hy
    · rw [if_pos qq] at hy; exact hy
end Scan2
