/-! turn: the class. -/
section TurnC
variable {s : Nat × (Nat → Int32)} {d : Nat} {w : qW} {Q : Int32 → qW → Prop} {QL : Int64 → qW → Prop} {R : qW → Prop} {N S K : vS} {T : Nat → vT} {Z : vZ} {O : Nat → Nat}
theorem nI_nn {a : Nat} (h : a < 2 ^ 31) : ¬ nI a < (0 : Int32) := by
  rw [show (0 : Int32) = nI 0 from rfl, nI_ltI h (by decide)]
  omega
theorem vC.same {w' : qW} {hr : Nat} (h : vC w N hr) (e1 : w'.1 50 = w.1 50) (e2 : w'.2.1 50 = w.2.1 50) (e3 : w'.1 52 = w.1 52) : vC w' N hr := by
  unfold vC at *
  rw [e1, e2, e3]
  exact h
theorem lN_eq64 {a b : Nat} (ha : a < 2 ^ 64) (hb : b < 2 ^ 64) : (lN a = lN b) ↔ a = b := by
  refine ⟨fun h => ?_, fun h => by rw [h]⟩
  have e : BitVec.ofNat 64 a = BitVec.ofNat 64 b := congrArg Int64.toBitVec h
  have e2 := congrArg BitVec.toNat e
  rw [BitVec.toNat_ofNat, BitVec.toNat_ofNat, Nat.mod_eq_of_lt ha, Nat.mod_eq_of_lt hb] at e2
  exact e2
theorem lg64 {c : Nat} (h : c < 2 ^ 64) : (lg_cmp (lN c) (0 : Int64) = 0) ↔ c = 0 := by
  rw [lg_eq, show (0 : Int64) = lN 0 from rfl, lN_eq64 h (by decide)]
theorem pow64 {h : Nat} (hh : h < 64) : 2 ^ h < 2 ^ 64 := Nat.pow_lt_pow_right (by decide) hh
theorem andp {V h : Nat} : (V &&& 2 ^ h = 0) ↔ V.testBit h = false := by
  constructor
  · intro e
    have := congrArg (fun n => n.testBit h) e
    have this : (V &&& 2 ^ h).testBit h = (0 : Nat).testBit h := this
    rw [Nat.testBit_and, Nat.testBit_two_pow, decide_eq_true rfl, Bool.and_true, Nat.zero_testBit] at this
    exact this
  · intro e
    apply Nat.eq_of_testBit_eq
    intro i
    rw [Nat.testBit_and, Nat.testBit_two_pow, Nat.zero_testBit]
    by_cases q : h = i
    · rw [← q, e]; rfl
    · rw [decide_eq_false q, Bool.and_false]
theorem lg_bit {V h : Nat} (hV : V < 2 ^ 64) (hh : h < 64) : (lg_cmp (lN V &&& lN (2 ^ h)) (0 : Int64) = 0) ↔ V.testBit h = false := by
  rw [lN_and, lg64 (Nat.lt_of_le_of_lt Nat.and_le_left hV), andp]
def tHi (o : Option Nat) : Int32 := match o with
  | none => -1
  | some p => nI p
def tX (w : qW) (O : Nat → Nat) (H : tH) (V : Nat) : Prop := (∀ p, p < 12 → w.2.1 57 p = lN (O p)) ∧ (∀ p, O p < 2 ^ 64) ∧ (∀ h, h < 64 → w.1 58 h = tHi (H h)) ∧ (∀ h p, H h = some p → p < 12) ∧ (w.2.1 55 4 = lN V) ∧ (V < 2 ^ 64)
theorem tX.own {w : qW} {O : Nat → Nat} {H : tH} {V : Nat} (h : tX w O H V) : ∀ p, p < 12 → w.2.1 57 p = lN (O p) := h.1
theorem tX.o64 {w : qW} {O : Nat → Nat} {H : tH} {V : Nat} (h : tX w O H V) : ∀ p, O p < 2 ^ 64 := h.2.1
theorem tX.hol {w : qW} {O : Nat → Nat} {H : tH} {V : Nat} (h : tX w O H V) : ∀ h, h < 64 → w.1 58 h = tHi (H h) := h.2.2.1
theorem tX.h12 {w : qW} {O : Nat → Nat} {H : tH} {V : Nat} (h : tX w O H V) : ∀ h p, H h = some p → p < 12 := h.2.2.2.1
theorem tX.tri {w : qW} {O : Nat → Nat} {H : tH} {V : Nat} (h : tX w O H V) : w.2.1 55 4 = lN V := h.2.2.2.2.1
theorem tX.v64 {w : qW} {O : Nat → Nat} {H : tH} {V : Nat} (h : tX w O H V) : V < 2 ^ 64 := h.2.2.2.2.2
theorem tX.mk {w : qW} {O : Nat → Nat} {H : tH} {V : Nat} (f_own : ∀ p, p < 12 → w.2.1 57 p = lN (O p)) (f_o64 : ∀ p, O p < 2 ^ 64) (f_hol : ∀ h, h < 64 → w.1 58 h = tHi (H h)) (f_h12 : ∀ h p, H h = some p → p < 12) (f_tri : w.2.1 55 4 = lN V) (f_v64 : V < 2 ^ 64) : tX w O H V := ⟨f_own, f_o64, f_hol, f_h12, f_tri, f_v64⟩
theorem tX.U {H : tH} {V h q : Nat} (x : tX w O H V) (hh : h < 64) (hq : q < 12) : tX (qPutI w 58 h (nI q)) O (tU H h q) V := by
  refine tX.mk x.own x.o64 (fun j hj => ?_) (fun j p e => ?_) x.tri x.v64
  · by_cases e : j = h
    · rw [e, pI_e, tU_e]; rfl
    · rw [pI_f e, tU_f e]; exact x.hol j hj
  · by_cases e2 : j = h
    · rw [e2, tU_e] at e; cases e; exact hq
    · rw [tU_f e2] at e; exact x.h12 j p e
theorem tX.V {H : tH} {V V' : Nat} (x : tX w O H V) (hv : V' < 2 ^ 64) : tX (qPutL w 55 4 (lN V')) O H V' :=
  tX.mk (fun p hp => by rw [pL_c (by decide)]; exact x.own p hp) x.o64 x.hol x.h12 (by rw [pL_e]) hv
theorem or64 {V h : Nat} (hV : V < 2 ^ 64) (hh : h < 64) : V ||| 2 ^ h < 2 ^ 64 := Nat.or_lt_two_pow hV (pow64 hh)
def tA (c : Nat) : Prop := c = 55 ∨ c = 58
theorem tkL_1 {rc : tH → Nat → Nat → Bool × tH × Nat} {q h : Nat} {r : List Nat} {H : tH} {V : Nat} (c : V.testBit h = true) : tkL rc q (h :: r) H V = tkL rc q r H V := by
  conv => lhs; unfold tkL
  rw [if_pos c]
theorem tkL_2 {rc : tH → Nat → Nat → Bool × tH × Nat} {q h : Nat} {r : List Nat} {H : tH} {V : Nat} (c : V.testBit h = false) (e : H h = none) : tkL rc q (h :: r) H V = (true, tU H h q, V ||| 2 ^ h) := by
  conv => lhs; unfold tkL
  rw [if_neg (by rw [c]; exact fun q => Bool.noConfusion q), e]
theorem tkL_3 {rc : tH → Nat → Nat → Bool × tH × Nat} {q h p : Nat} {r : List Nat} {H : tH} {V : Nat} (c : V.testBit h = false) (e : H h = some p) (b : (rc H (V ||| 2 ^ h) p).1 = true) : tkL rc q (h :: r) H V = (true, tU (rc H (V ||| 2 ^ h) p).2.1 h q, (rc H (V ||| 2 ^ h) p).2.2) := by
  conv => lhs; unfold tkL
  rw [if_neg (by rw [c]; exact fun q => Bool.noConfusion q), e]
  show (if _ then _ else _) = _
  rw [if_pos b]
theorem tkL_4 {rc : tH → Nat → Nat → Bool × tH × Nat} {q h p : Nat} {r : List Nat} {H : tH} {V : Nat} (c : V.testBit h = false) (e : H h = some p) (b : (rc H (V ||| 2 ^ h) p).1 = false) : tkL rc q (h :: r) H V = tkL rc q r (rc H (V ||| 2 ^ h) p).2.1 (rc H (V ||| 2 ^ h) p).2.2 := by
  conv => lhs; unfold tkL
  rw [if_neg (by rw [c]; exact fun q => Bool.noConfusion q), e]
  show (if _ then _ else _) = _
  rw [if_neg (by rw [b]; exact fun q => Bool.noConfusion q)]
/-- the hours of n from i on, r of them looked at -/
def hsk (n r i : Nat) : List Nat := (List.range' i r).filter (fun j => n.testBit j)
theorem hsk_l (n : Nat) : hsk n 64 0 = hsl n := by
  unfold hsk hsl
  rw [List.range_eq_range']
theorem hsk_y {n r i : Nat} (h : n.testBit i = true) : hsk n (r + 1) i = i :: hsk n r (i + 1) := by
  unfold hsk
  rw [List.range'_succ, List.filter_cons_of_pos (p := fun j => n.testBit j) h]
theorem hsk_n {n r i : Nat} (h : n.testBit i = false) : hsk n (r + 1) i = hsk n r (i + 1) := by
  unfold hsk
  rw [List.range'_succ, List.filter_cons_of_neg (p := fun j => n.testBit j) (by rw [h]; exact fun q => Bool.noConfusion q)]
theorem hsk_z {n r i : Nat} (h : n / 2 ^ i = 0) : hsk n r i = [] := by
  have l : n < 2 ^ i := by
    rcases Nat.div_eq_zero_iff.mp h with q | q
    · exact absurd q (Nat.ne_of_gt (Nat.two_pow_pos i))
    · exact q
  unfold hsk
  rw [List.filter_eq_nil_iff]
  intro j hj q
  rw [bit_hi l (List.mem_range'_1.mp hj).1] at q
  exact Bool.noConfusion q
theorem c_canHold {F : Nat} (hF : F < 2 ^ 64) : ∀ f q dep d H V w, dep + f = 13 → q < 12 → f + 2 ≤ d → tX w O H V → (∀ w', fr tA w w' → tX w' O (tk O F f H V q).2.1 (tk O F f H V q).2.2 → Q (tI (tk O F f H V q).1) w') → qCall (some s) d 149 [.ref 55, .int (nI q), .long (lN F), .int (nI dep)] w (qQi Q) := by
  intro f
  induction f generalizing Q with
  | zero =>
    intro q dep d H V w hd1 hq hd hx hQ
    obtain ⟨d, rfl, hd2⟩ := dS hd
    refine A_Turns_canHold ⟨fun _ => hQ w (fr_rf _ _) hx, fun g => ?_⟩
    rw [show (12 : Int32) = nI 12 from rfl, nI_ltI (by omega) (by omega)] at g
    omega
  | succ f ih =>
    intro q dep d H V w hd1 hq hd hx hQ
    obtain ⟨d, rfl, hd2⟩ := dS hd
    refine A_Turns_canHold ?_
    rw [show (12 : Int32) = nI 12 from rfl, nI_ltI (by omega) (by omega), nI_ltI (by omega) (by omega), qIx_nI (by omega), hx.own q hq, lN_and]
    refine ⟨fun g => by omega, fun _ => ⟨fun g => absurd g (nI_nn (by omega)), fun _ => ⟨fun _ => ⟨qIn_nI hq (by decide), ?_⟩, fun g => absurd hq g⟩⟩⟩
    have inner : ∀ n, n < 2 ^ 64 → ∀ r i H V w1, i + r = 64 → fr tA w w1 → tX w1 O H V → (∀ w', fr tA w w' → tX w' O (tkL (tk O F f) q (hsk n r i) H V).2.1 (tkL (tk O F f) q (hsk n r i) H V).2.2 → Q (tI (tkL (tk O F f) q (hsk n r i) H V).1) w') → qAt s d c_Turns_canHold (qQi Q) 32 [some (.ref 55), some (.int (nI q)), some (.long (lN F)), none, some (.int (nI dep)), some (.long (lN n)), none, some (.int (nI i)), none, none] [] w1 := by
      intro n on r
      induction r with
      | zero =>
        intro i H V w1 hi f1 x1 hQ1
        rw [show hsk n 0 i = [] from rfl] at hQ1
        refine A_Turns_canHold_32 ⟨fun _ => hQ1 w1 f1 x1, fun g => ?_⟩
        rw [show (64 : Int32) = nI 64 from rfl, nI_leI (by omega) (by omega)] at g
        omega
      | succ r ihr =>
        intro i H V w1 hi f1 x1 hQ1
        have hk : i < 64 := by omega
        have e1 : qIx (nI i) = i := qIx_nI (by omega)
        refine A_Turns_canHold_32 ?_
        rw [show (64 : Int32) = nI 64 from rfl, nI_leI (by omega) (by omega), qLushr_lN on hk, lg64 (c := n / 2 ^ i) (Nat.lt_of_le_of_lt (Nat.div_le_self _ _) on), show (1 : Int64) = lN 1 from rfl, qLshl_lN hk, Nat.one_mul, lg_bit on hk, x1.tri, lg_bit x1.v64 hk, lN_or, e1, x1.hol i hk, nI_1 i]
        refine ⟨fun g => by omega, fun _ => ⟨fun g => ?_, fun _ => ⟨fun g => ?_, fun b => ⟨fun g => ?_, fun c => ⟨qIn_nI hk (by decide), ?_⟩⟩⟩⟩⟩
        · rw [hsk_z g] at hQ1
          exact hQ1 w1 f1 x1
        · rw [hsk_n g] at hQ1
          exact ihr (i + 1) H V w1 (by omega) f1 x1 hQ1
        · rw [Bool.not_eq_false] at b g
          rw [hsk_y b, tkL_1 g] at hQ1
          exact ihr (i + 1) H V w1 (by omega) f1 x1 hQ1
        · rw [Bool.not_eq_false] at b
          rw [hsk_y b] at hQ1
          have x2 := x1.V (or64 x1.v64 hk)
          have f2 : fr tA w (qPutL w1 55 4 (lN (V ||| 2 ^ i))) := fr_L f1 (Or.inl rfl)
          cases e : H i with
          | none =>
            rw [tkL_2 c e] at hQ1
            exact ⟨fun _ => ⟨qIn_nI hk (by decide), hQ1 _ (fr_I f2 (Or.inr rfl)) (x2.U hk hq)⟩, fun g => absurd rfl g⟩
          | some p =>
            have p12 := x1.h12 i p e
            refine ⟨fun g => ?_, fun _ => ⟨qIn_nI hk (by decide), ?_⟩⟩
            · have g : nI p = -(nI 1) := g
              rw [nI_eqn (by omega) (by omega) (by omega)] at g
              exact g.elim
            · rw [nI_1 dep]
              refine ih p (dep + 1) d H (V ||| 2 ^ i) _ (by omega) p12 (by omega) x2 ?_
              intro w3 f3 x3
              refine tI_b (fun b => ?_) (fun b => ?_)
              · rw [tkL_3 c e b] at hQ1
                exact ⟨qIn_nI hk (by decide), hQ1 _ (fr_I (fr_tr f2 f3) (Or.inr rfl)) (x3.U hk hq)⟩
              · rw [tkL_4 c e b] at hQ1
                exact ihr (i + 1) _ _ w3 (by omega) (fr_tr f2 f3) x3 hQ1
    exact inner (O q &&& F) (Nat.lt_of_le_of_lt Nat.and_le_left (hx.o64 q)) 64 0 H V w rfl (fr_rf _ _) hx (by rw [hsk_l]; exact hQ)
theorem c_canAll {L F : Nat} (hd : 17 ≤ d) (hL : L < 4096) (hF : F < 2 ^ 64) (hO : ∀ p, p < 12 → w.2.1 57 p = lN (O p)) (hO2 : ∀ p, O p < 2 ^ 64) (hQ : ∀ w', fr tA w w' → Q (tI (tCan O L F)) w') : qCall (some s) d 147 [.ref 55, .int (nI L), .long (lN F)] w (qQi Q) := by
  obtain ⟨d, rfl, hd1⟩ := dS hd
  refine A_Turns_canAll ?_
  have fil : ∀ (R : qW → Prop), (∀ w', fr (fun c => c = 58) w w' → (∀ h, h < 64 → w'.1 58 h = -1) → R w') → qCall (some s) d 148 [.ref 58, .int (-1 : Int32)] w (qQv R) := by
    intro R hR
    obtain ⟨d, rfl, -⟩ := dS (k := 0) (d := d) (by omega)
    refine A_Arrays_fill3_58 ?_
    refine lpU (i := 0) (n := 64) (I := fun i w' => fr (fun c => c = 58) w w' ∧ ∀ h, h < i → w'.1 58 h = -1) (P := fun i w' => qAt s d c_Arrays_fill3 (qQv R) 5 [some (.ref 58), some (.int (-1 : Int32)), some (.int (nI i)), some (.int (64 : Int32))] [] w') ?_ ?_ (Nat.zero_le _) ⟨fr_rf _ _, fun h hh => absurd hh (Nat.not_lt_zero _)⟩
    · intro w1 ⟨f1, h1⟩
      exact A_Arrays_fill3_58_5 ⟨fun _ => hR w1 f1 h1, fun g => absurd (Int32.le_refl _) g⟩
    · intro i w1 hi ⟨f1, h1⟩ nxt
      refine A_Arrays_fill3_58_5 ?_
      rw [nI_1, qIx_nI (by omega)]
      refine ⟨fun g => absurd g (nI_ge (b := 64) hi (by omega)), fun _ => ⟨qIn_nI hi (by decide), nxt _ ⟨fr_I f1 rfl, fun h hh => ?_⟩⟩⟩
      by_cases e : h = i
      · rw [e, pI_e]
      · rw [pI_f e]; exact h1 h (by omega)
  refine fil _ (fun w1 f1 h1 => ?_)
  have go : ∀ k i H w2, i + k = 12 → fr tA w w2 → (∀ h, h < 64 → w2.1 58 h = tHi (H h)) → (∀ h p, H h = some p → p < 12) → (∀ w', fr tA w w' → Q (tI (tAll O L F k i H)) w') → qAt s d c_Turns_canAll (qQi Q) 11 [some (.ref 55), some (.int (nI L)), some (.long (lN F)), none, some (.int (nI i))] [] w2 := by
    intro k
    induction k with
    | zero =>
      intro i H w2 hi f2 _ _ hQ2
      have e : i = 12 := by omega
      subst e
      exact A_Turns_canAll_11 ⟨fun _ => hQ2 w2 f2, fun g => absurd (Int32.le_refl _) g⟩
    | succ k ih =>
      intro i H w2 hi f2 h2 h12 hQ2
      unfold tAll at hQ2
      refine A_Turns_canAll_11 ⟨fun g => absurd g (nI_ge (b := 12) (by omega) (by omega)), fun _ => c_isOfB (by omega) (by omega) (fun g => b1 ?_) (fun g => b0 ?_)⟩
      · rw [mem12_nI (by omega)] at g
        rw [if_pos g] at hQ2
        have x : tX (qPutL w2 55 4 (0 : Int64)) O H 0 := by
          refine tX.mk (fun p hp => ?_) hO2 h2 h12 (by rw [pL_e]; rfl) (by decide)
          rw [pL_c (by decide), (f2 57 (by unfold tA; omega)).2]
          exact hO p hp
        refine c_canHold hF 13 i 0 d H 0 _ rfl (by omega) (by omega) x (fun w3 f3 x3 => tI_n (fun b => ?_) (fun b => ?_))
        · rw [if_pos b] at hQ2
          rw [nI_1]
          exact ih (i + 1) _ w3 (by omega) (fr_tr (fr_L f2 (Or.inl rfl)) f3) x3.hol x3.h12 hQ2
        · rw [if_neg (by rw [b]; exact fun q => Bool.noConfusion q)] at hQ2
          exact hQ2 w3 (fr_tr (fr_L f2 (Or.inl rfl)) f3)
      · rw [mem12_nI (by omega)] at g
        rw [if_neg (by rw [g]; exact fun q => Bool.noConfusion q)] at hQ2
        rw [nI_1]
        exact ih (i + 1) H _ (by omega) (fr_L f2 (Or.inl rfl)) h2 h12 hQ2
  exact go 12 0 (fun _ => none) w1 rfl (fr_wk f1 (fun c hc => Or.inr hc)) (fun h hh => h1 h hh) (fun h p e => by cases e) hQ
/-- the hours in which each speaks -/
def tO (T : Nat → vT) (N : vS) (h p : Nat) : Nat := bitsOf (fun k => (spkM T N (h + k)).testBit p) 64
theorem tO_lt (T : Nat → vT) (N : vS) (h p : Nat) : tO T N h p < 2 ^ 64 := bitsOf_lt _ _
def tnB (c : Nat) : Prop := c = 50 ∨ c = 52 ∨ c = 55 ∨ c = 56 ∨ c = 57 ∨ c = 58
theorem rX.tn {w' : qW} (h : rX w N K T Z) (f : fr tnB w w') : rX w' N K T Z := h.keep f (fun c => ⟨fun _ _ => by unfold tnB; omega, by unfold tnB; omega⟩)
theorem c_listHours {h : Nat} (hd : 5 ≤ d) (hX : rX w N K T Z) (hh : h ≤ 100000000000000) (hQ : ∀ w', fr tnB w w' → (∀ p, p < 12 → w'.2.1 57 p = lN (tO T N h p)) → R w') : qCall (some s) d 144 [.ref 55, .long (lN h)] w (qQv R) := by
  obtain ⟨d, rfl, hd1⟩ := dS hd
  have o := hX.okn
  refine A_Turns_listHours ?_
  have fil : ∀ (R : qW → Prop), (∀ w', fr tnB w w' → (∀ p, p < 12 → w'.2.1 57 p = lN 0) → R w') → qCall (some s) d 145 [.ref 57, .long (0 : Int64)] w (qQv R) := by
    intro R hR
    obtain ⟨d, rfl, -⟩ := dS (k := 0) (d := d) (by omega)
    refine A_Arrays_fill2_57 ?_
    refine lpU (i := 0) (n := 12) (I := fun i w' => fr tnB w w' ∧ ∀ h, h < i → w'.2.1 57 h = lN 0) (P := fun i w' => qAt s d c_Arrays_fill2 (qQv R) 6 [some (.ref 57), some (.long (0 : Int64)), none, some (.int (nI i)), some (.int (12 : Int32))] [] w') ?_ ?_ (Nat.zero_le _) ⟨fr_rf _ _, fun h hh => absurd hh (Nat.not_lt_zero _)⟩
    · intro w1 ⟨f1, h1⟩
      exact A_Arrays_fill2_57_6 ⟨fun _ => hR w1 f1 h1, fun g => absurd (Int32.le_refl _) g⟩
    · intro i w1 hi ⟨f1, h1⟩ nxt
      refine A_Arrays_fill2_57_6 ?_
      rw [nI_1, qIx_nI (by omega)]
      refine ⟨fun g => absurd g (nI_ge (b := 12) hi (by omega)), fun _ => ⟨qIn_nI hi (by decide), nxt _ ⟨fr_L f1 (by unfold tnB; omega), fun h hh => ?_⟩⟩⟩
      by_cases e : h = i
      · rw [e, pL_e]; rfl
      · rw [pL_f e]; exact h1 h (by omega)
  refine fil _ (fun w1 f1 h1 => ?_)
  refine c_begin (n := 64) hd1 (hX.tn f1) (by omega) (by omega) (by omega) (fun w2 f2 c2 => ?_)
  refine lpU (i := 0) (n := 64) (I := fun i w' => fr tnB w w' ∧ vC w' N (h + i) ∧ ∀ p, p < 12 → w'.2.1 57 p = lN (bitsOf (fun k => (spkM T N (h + k)).testBit p) i)) (P := fun i w' => qAt s d c_Turns_listHours (qQv R) 20 [some (.ref 55), none, none, some (.int (nI i)), none, none] [] w') ?_ ?_ (Nat.zero_le _) ⟨fr_tr f1 (fr_wk f2 (fun c hc => by unfold tnB; omega)), c2, fun p hp => by rw [(f2 57 (by omega)).2]; exact h1 p hp⟩
  · intro w3 ⟨f3, _, h3⟩
    exact A_Turns_listHours_20 ⟨fun _ => hQ w3 f3 h3, fun g => absurd (Int32.le_refl _) g⟩
  · intro i w3 hi ⟨f3, c3, h3⟩ nxt
    refine A_Turns_listHours_20 ⟨fun g => absurd g (nI_ge (b := 64) hi (by omega)), fun _ => c_nextMask hd1 (hX.tn f3) c3 (by omega) (fun w4 f4 c4 => ?_)⟩
    refine lpU (i := 0) (n := 12) (I := fun j w' => fr tnB w w' ∧ vC w' N (h + (i + 1)) ∧ (∀ p, p < j → w'.2.1 57 p = lN (bitsOf (fun k => (spkM T N (h + k)).testBit p) (i + 1))) ∧ (∀ p, j ≤ p → p < 12 → w'.2.1 57 p = lN (bitsOf (fun k => (spkM T N (h + k)).testBit p) i))) (P := fun j w' => qAt s d c_Turns_listHours (qQv R) 38 [some (.ref 55), none, none, some (.int (nI i)), some (.int (nI (spkM T N (h + i)))), some (.int (nI j))] [] w') ?_ ?_ (Nat.zero_le _) ⟨fr_tr f3 (fr_wk f4 (fun c hc => by unfold tnB; omega)), c4, fun p hp => absurd hp (Nat.not_lt_zero _), fun p _ hp => by rw [(f4 57 (by omega)).2]; exact h3 p hp⟩
    · intro w5 ⟨f5, c5, h5, _⟩
      refine A_Turns_listHours_38 ⟨fun _ => ?_, fun g => absurd (Int32.le_refl _) g⟩
      rw [nI_1]
      exact nxt w5 ⟨f5, c5, h5⟩
    · intro j w5 hj ⟨f5, c5, h5, h6⟩ nxt2
      refine A_Turns_listHours_38 ⟨fun g => absurd g (nI_ge (b := 12) hj (by omega)), fun _ => ⟨qIn_nI hj (by decide), qIn_nI hj (by decide), ?_⟩⟩
      rw [bit_n (spkM_lt T o _) hj, nI_1, qIx_nI (by omega), h6 j (Nat.le_refl _) hj, nI_l (by cases (spkM T N (h + i)).testBit j <;> decide), qLshl_lN hi, lN_or]
      refine nxt2 _ ⟨fr_L f5 (by unfold tnB; omega), ?_, fun p hp => ?_, fun p h1 h2 => ?_⟩
      · exact c5.same rfl (funext fun g => pL_c (by decide)) rfl
      · by_cases e : p = j
        · subst e
          rw [pL_e]
          conv => rhs; unfold bitsOf
          cases (spkM T N (h + i)).testBit p with
          | false => rw [show false.toNat * 2 ^ i = 0 from Nat.zero_mul _]; rfl
          | true => rw [show true.toNat * 2 ^ i = 2 ^ i from Nat.one_mul _]; rfl
        · rw [pL_f e]; exact h5 p (by omega)
      · rw [pL_f (by omega)]; exact h6 p (by omega) h2
theorem m1_64 : (-1 : Int64) = lN (2 ^ 64 - 1) := by decide +kernel
theorem c_firstHours {n : Nat} (hd : 1 ≤ d) (hn : n ≤ 64) (hQ : QL (lN (2 ^ n - 1)) w) : qCall (some s) d 146 [.int (nI n)] w (qQl QL) := by
  obtain ⟨d, rfl, -⟩ := dS hd
  refine A_Turns_firstHours ?_
  rw [show (64 : Int32) = nI 64 from rfl, nI_ltI (by omega) (by omega)]
  refine ⟨fun g => ?_, fun g => ?_⟩
  · rw [show (1 : Int64) = lN 1 from rfl, qLshl_lN g, Nat.one_mul, lN_sub Nat.one_le_two_pow]; exact hQ
  · have e : n = 64 := by omega
    rw [m1_64]; rw [e] at hQ; exact hQ
theorem pm64 {n : Nat} (hn : n ≤ 64) : 2 ^ n - 1 < 2 ^ 64 := by
  have := Nat.pow_le_pow_right (n := 2) (by decide) hn
  have := Nat.two_pow_pos n
  omega
theorem c_fewest {L h : Nat} (hd : 18 ≤ d) (hX : rX w N K T Z) (L0 : 0 < L) (hL : L < 4096) (hh : h ≤ 100000000000000)
    (hy : ∀ n w', tFew (tO T N h) L = some n → n ≤ 64 → fr tnB w w' → (∀ p, p < 12 → w'.2.1 57 p = lN (tO T N h p)) → Q (nI n) w') (hn : ∀ w', tFew (tO T N h) L = none → fr tnB w w' → Q (-1) w') : qCall (some s) d 143 [.ref 55, .int (nI L), .long (lN h)] w (qQi Q) := by
  obtain ⟨d, rfl, hd1⟩ := dS hd
  refine A_Turns_fewest (c_listHours (by omega) hX hh (fun w1 f1 h1 => c_firstHours (n := 64) (by omega) (Nat.le_refl _) (c_canAll (O := tO T N h) (by omega) hL (pm64 (Nat.le_refl _)) h1 (tO_lt T N h) (fun w2 f2 => tI_n (fun b => ?_) (fun b => ?_)))))
  · have ab : ∀ c, tA c → tnB c := fun c hc => by unfold tA at hc; unfold tnB; omega
    refine c_bitCount (by omega) hL ?_
    have cl := cntB_le L
    have low0 : ∀ m, m < cntB L → tCan (tO T N h) L (2 ^ m - 1) = false := by
      intro m hm
      cases e : tCan (tO T N h) L (2 ^ m - 1) with
      | false => rfl
      | true =>
        have := tMt_n (tCan_Mt.mp e)
        omega
    have go : ∀ k lo hi i w3, hi - lo ≤ k → i + k ≤ 64 → lo ≤ hi → hi ≤ 64 → tCan (tO T N h) L (2 ^ hi - 1) = true → (∀ m, m < lo → tCan (tO T N h) L (2 ^ m - 1) = false) → fr tnB w w3 → (∀ p, p < 12 → w3.2.1 57 p = lN (tO T N h p)) → qAt s d c_Turns_fewest (qQi Q) 33 [some (.ref 55), some (.int (nI L)), none, none, some (.int (nI lo)), some (.int (nI hi)), some (.int (nI i)), none] [] w3 := by
      intro k
      induction k with
      | zero =>
        intro lo hi i w3 hk hi2 h1' h2' c1 c2 f3 h3
        have e : lo = hi := by omega
        subst e
        have r := hy lo w3 (tFew_some h2' c1 c2) h2' f3 h3
        exact A_Turns_fewest_33 ⟨fun _ => r, fun _ => ⟨fun _ => r, fun g => absurd (Int32.le_refl _) g⟩⟩
      | succ k ih =>
        intro lo hi i w3 hk hi2 h1' h2' c1 c2 f3 h3
        refine A_Turns_fewest_33 ⟨fun g => absurd g (nI_ge (b := 64) (by omega) (by omega)), fun _ => ?_⟩
        rw [nI_leI (by omega) (by omega), nI_add, show (2 : Int32) = nI 2 from rfl, nI_div' (by omega) (by omega) (by omega), nI_1, nI_1]
        refine ⟨fun g => ?_, fun g => ⟨by decide, c_firstHours (by omega) (by omega) (c_canAll (O := tO T N h) (by omega) hL (pm64 (by omega)) h3 (tO_lt T N h) (fun w4 f4 => tI_b (fun b => ?_) (fun b => ?_)))⟩⟩
        · have e : lo = hi := by omega
          subst e
          exact hy lo w3 (tFew_some h2' c1 c2) h2' f3 h3
        · exact ih lo ((lo + hi) / 2) (i + 1) w4 (by omega) (by omega) (by omega) (by omega) b c2 (fr_tr f3 (fr_wk f4 ab)) (fun p hp => by rw [(f4 57 (by unfold tA; omega)).2]; exact h3 p hp)
        · refine ih ((lo + hi) / 2 + 1) hi (i + 1) w4 (by omega) (by omega) (by omega) h2' c1 (fun m hm => ?_) (fr_tr f3 (fr_wk f4 ab)) (fun p hp => by rw [(f4 57 (by unfold tA; omega)).2]; exact h3 p hp)
          cases e : tCan (tO T N h) L (2 ^ m - 1) with
          | false => rfl
          | true =>
            rw [tCan_le (by omega) e] at b
            exact Bool.noConfusion b
    have L1 : 1 ≤ cntB L := by
      rcases Nat.eq_zero_or_pos (cntB L) with e | e
      · have := cnt0 hL e; omega
      · exact e
    exact go 63 (cntB L) 64 0 w2 (by omega) (by omega) (by omega) (Nat.le_refl _) b low0 (fr_tr f1 (fr_wk f2 ab)) (fun p hp => by rw [(f2 57 (by unfold tA; omega)).2]; exact h1 p hp)
  · exact hn w2 (tFew_none b) (fr_tr f1 (fr_wk f2 (fun c hc => by unfold tA at hc; unfold tnB; omega)))
theorem tLow_lt (O : Nat → Nat) (i L F : Nat) : tLow O i L F < 64 := by
  unfold tLow
  cases e : (List.range 64).find? (fun h => (O i &&& F).testBit h && tCan O L (andn F (2 ^ h))) with
  | none => decide
  | some k =>
    rw [List.find?_range_eq_some] at e
    exact List.mem_range.mp e.2.1
theorem tLow_is {i L F k : Nat} (hk : k < 64) (h1 : (O i &&& F).testBit k = true) (h2 : tCan O L (andn F (2 ^ k)) = true) (h3 : ∀ j, j < k → ((O i &&& F).testBit j && tCan O L (andn F (2 ^ j))) = false) : tLow O i L F = k := by
  unfold tLow
  have e : (List.range 64).find? (fun h => (O i &&& F).testBit h && tCan O L (andn F (2 ^ h))) = some k := by
    rw [List.find?_range_eq_some]
    exact ⟨by rw [h1, h2]; rfl, List.mem_range.mpr hk, fun j hj => by rw [h3 j hj]; rfl⟩
  rw [e]; rfl
theorem tLow_no {i L F : Nat} (h3 : ∀ j, j < 64 → ((O i &&& F).testBit j && tCan O L (andn F (2 ^ j))) = false) : tLow O i L F = 0 := by
  unfold tLow
  have e : (List.range 64).find? (fun h => (O i &&& F).testBit h && tCan O L (andn F (2 ^ h))) = none := by
    rw [List.find?_eq_none]
    intro j hj q
    rw [h3 j (List.mem_range.mp hj)] at q
    exact Bool.noConfusion q
  rw [e]; rfl
theorem c_lowestFor {i L F : Nat} (hd : 18 ≤ d) (hi : i < 12) (hL : L < 4096) (hF : F < 2 ^ 64) (hO : ∀ p, p < 12 → w.2.1 57 p = lN (O p)) (hO2 : ∀ p, O p < 2 ^ 64) (hQ : ∀ w', fr tA w w' → Q (nI (tLow O i L F)) w') : qCall (some s) d 151 [.ref 55, .int (nI i), .int (nI L), .long (lN F)] w (qQi Q) := by
  obtain ⟨d, rfl, hd1⟩ := dS hd
  refine A_Turns_lowestFor ?_
  refine lpU (i := 0) (n := 64) (I := fun k w' => fr tA w w' ∧ ∀ j, j < k → ((O i &&& F).testBit j && tCan O L (andn F (2 ^ j))) = false) (P := fun k w' => qAt s d c_Turns_lowestFor (qQi Q) 3 [some (.ref 55), some (.int (nI i)), some (.int (nI L)), some (.long (lN F)), none, some (.int (nI k)), none, none] [] w') ?_ ?_ (Nat.zero_le _) ⟨fr_rf _ _, fun j hj => absurd hj (Nat.not_lt_zero _)⟩
  · intro w1 ⟨f1, h1⟩
    refine A_Turns_lowestFor_3 ⟨fun _ => ?_, fun g => absurd (Int32.le_refl _) g⟩
    have r := hQ w1 f1
    rw [tLow_no h1] at r
    exact r
  · intro k w1 hk ⟨f1, h1⟩ nxt
    have own : w1.2.1 57 i = lN (O i) := by rw [(f1 57 (by unfold tA; omega)).2]; exact hO i hi
    refine A_Turns_lowestFor_3 ⟨fun g => absurd g (nI_ge (b := 64) hk (by omega)), fun _ => ⟨qIn_nI hi (by decide), ?_⟩⟩
    rw [qIx_nI (by omega), own, lN_and, show (1 : Int64) = lN 1 from rfl, qLshl_lN hk, Nat.one_mul, lg_bit (Nat.lt_of_le_of_lt Nat.and_le_left (hO2 i)) hk, nI_1, lN_andn]
    have more : ∀ w', fr tA w w' → ((O i &&& F).testBit k && tCan O L (andn F (2 ^ k))) = false → qAt s d c_Turns_lowestFor (qQi Q) 3 [some (.ref 55), some (.int (nI i)), some (.int (nI L)), some (.long (lN F)), none, some (.int (nI (k + 1))), none, none] [] w' := by
      intro w' f' e
      refine nxt w' ⟨f', fun j hj => ?_⟩
      by_cases q : j = k
      · rw [q]; exact e
      · exact h1 j (by omega)
    refine ⟨fun g => more w1 f1 (by rw [g]; rfl), fun g => c_canAll (O := O) (by omega) hL (andn_lt hF) (fun p hp => by rw [(f1 57 (by unfold tA; omega)).2]; exact hO p hp) hO2 (fun w2 f2 => tI_b (fun b => ?_) (fun b => more w2 (fr_tr f1 f2) (by rw [b, Bool.and_false])))⟩
    rw [Bool.not_eq_false] at g
    have r := hQ w2 (fr_tr f1 f2)
    rw [tLow_is hk g b h1] at r
    exact r
theorem c_allot {L n : Nat} (hd : 19 ≤ d) (hL : L < 4096) (hn : n ≤ 64) (hO : ∀ p, p < 12 → w.2.1 57 p = lN (O p)) (hO2 : ∀ p, O p < 2 ^ 64) (hQ : ∀ w', fr tnB w w' → (∀ who, who < 12 → L.testBit who = true → w'.1 56 who = nI (tGo O who 12 0 L (2 ^ n - 1))) → R w') : qCall (some s) d 150 [.ref 55, .int (nI L), .int (nI n)] w (qQv R) := by
  obtain ⟨d, rfl, hd1⟩ := dS hd
  refine A_Turns_allot (c_firstHours (by omega) hn ?_)
  have ab : ∀ c, tA c → tnB c := fun c hc => by unfold tA at hc; unfold tnB; omega
  have go : ∀ k i M F w2, i + k = 12 → M < 4096 → F < 2 ^ 64 → (∀ p, i ≤ p → M.testBit p = L.testBit p) → fr tnB w w2 → (∀ p, p < 12 → w2.2.1 57 p = lN (O p)) → (∀ who, who < i → L.testBit who = true → w2.1 56 who = nI (tGo O who 12 0 L (2 ^ n - 1))) → (∀ who, i ≤ who → who < 12 → L.testBit who = true → tGo O who 12 0 L (2 ^ n - 1) = tGo O who k i M F) → qAt s d c_Turns_allot (qQv R) 11 [some (.ref 55), some (.int (nI L)), none, some (.long (lN F)), none, some (.int (nI M)), some (.int (nI i))] [] w2 := by
    intro k
    induction k with
    | zero =>
      intro i M F w2 hi hM hF hML f2 h2 h3 h4
      have e : i = 12 := by omega
      subst e
      exact A_Turns_allot_11 ⟨fun _ => hQ w2 f2 h3, fun g => absurd (Int32.le_refl _) g⟩
    | succ k ih =>
      intro i M F w2 hi hM hF hML f2 h2 h3 h4
      refine A_Turns_allot_11 ⟨fun g => absurd g (nI_ge (b := 12) (by omega) (by omega)), fun _ => c_isOfB (by omega) (by omega) (fun g => b1 ?_) (fun g => b0 ?_)⟩
      · rw [mem12_nI (by omega)] at g
        have gM : M.testBit i = true := by rw [hML i (Nat.le_refl _)]; exact g
        rw [show qShl (1 : Int32) (nI i) = nI (2 ^ i) from qShl_n (by omega), show (-1 : Int32) = -(nI 1) from rfl, nI_andn]
        have aM : andn M (2 ^ i) < 4096 := andn_lt (n := 12) hM
        refine c_lowestFor (O := O) (by omega) (by omega) aM hF h2 hO2 (fun w3 f3 => ?_)
        have tl := tLow_lt O i (andn M (2 ^ i)) F
        rw [qIx_nI (by omega), pI_e, show (1 : Int64) = lN 1 from rfl, qLshl_lN tl, Nat.one_mul, lN_andn, nI_1]
        refine ⟨qIn_nI (by omega) (by decide), qIn_nI (by omega) (by decide), ih (i + 1) _ _ _ (by omega) aM (andn_lt hF) (fun p hp => ?_) (fr_I (fr_tr f2 (fr_wk f3 ab)) (by unfold tnB; omega)) (fun p hp => ?_) (fun who hw lw => ?_) (fun who hw hw2 lw => ?_)⟩
        · rw [andn_bit, Nat.testBit_two_pow, decide_eq_false (by omega), Bool.not_false, Bool.and_true]
          exact hML p (by omega)
        · show w3.2.1 57 p = _
          rw [(f3 57 (by unfold tA; omega)).2]; exact h2 p hp
        · by_cases e : who = i
          · subst e
            rw [pI_e, h4 who (Nat.le_refl _) (by omega) lw]
            unfold tGo
            rw [if_pos gM, if_pos rfl]
          · rw [pI_f e, (f3 56 (by unfold tA; omega)).1]
            exact h3 who (by omega) lw
        · rw [h4 who (by omega) hw2 lw]
          conv => lhs; unfold tGo
          rw [if_pos gM, if_neg (by omega)]
      · rw [mem12_nI (by omega)] at g
        have gM : M.testBit i = false := by rw [hML i (Nat.le_refl _)]; exact g
        rw [nI_1]
        refine ih (i + 1) M F w2 (by omega) hM hF (fun p hp => hML p (by omega)) f2 h2 (fun who hw lw => ?_) (fun who hw hw2 lw => ?_)
        · by_cases e : who = i
          · subst e; rw [g] at lw; exact Bool.noConfusion lw
          · exact h3 who (by omega) lw
        · rw [h4 who (by omega) hw2 lw]
          conv => lhs; unfold tGo
          rw [if_neg (by rw [gM]; exact fun q => Bool.noConfusion q)]
  exact go 12 0 L (2 ^ n - 1) w rfl hL (pm64 hn) (fun _ _ => rfl) (fr_rf _ _) hO (fun who hw => absurd hw (Nat.not_lt_zero _)) (fun _ _ _ _ => rfl)
def vTn (N : vS) (set : Int32) (h : Int64) (who : Int32) : Prop := vSet (N 0 0) set ∧ vStart h ∧ (who = -1 ∨ mem12 who (qIx set) = true)
def fTn (T : Nat → vT) (N : vS) (L e : Nat) (who : Int32) : Int64 := match tFew (tO T N e) L with
  | none => -1
  | some n => if who = -1 then lN n else lN (e + tGo (tO T N e) (qIx who) 12 0 L (2 ^ n - 1))
theorem vStart_x {h : Int64} (g : vStart h) : ∃ e, e ≤ 100000000000000 ∧ h = lN e ∧ h.toNatClampNeg = e := by
  have h1 := Int64.le_iff_toInt_le.mp g.1
  have h2 := Int64.le_iff_toInt_le.mp g.2
  have e : h = lN h.toNatClampNeg := by
    apply Int64.toInt_inj.mp
    have h3 : h.toNatClampNeg = h.toInt.toNat := rfl
    have h4 : (0 : Int64).toInt = 0 := rfl
    have h5 : (100000000000000 : Int64).toInt = 100000000000000 := rfl
    rw [h3, lN_tI (by omega)]
    omega
  refine ⟨h.toNatClampNeg, ?_, e, rfl⟩
  have h3 : h.toNatClampNeg = h.toInt.toNat := rfl
  have h5 : (100000000000000 : Int64).toInt = 100000000000000 := rfl
  omega
theorem tGo_lt (O : Nat → Nat) (who : Nat) : ∀ k i L F, tGo O who k i L F < 64
  | 0, _, _, _ => by unfold tGo; decide
  | k + 1, i, L, F => by
    unfold tGo
    split
    · split
      · exact tLow_lt _ _ _ _
      · exact tGo_lt O who k _ _ _
    · exact tGo_lt O who k _ _ _
theorem c_turn {set : Int32} {h : Int64} {who : Int32} (hd : 20 ≤ d) (hX : rX w N K T Z) (hy : ∀ w', vTn N set h who → rX w' N K T Z → fr (fun c => c < 72) w w' → QL (fTn T N (qIx set) h.toNatClampNeg who) w') (hn : ¬ vTn N set h who → QL (-1) w) : qCall (some s) d 141 [.ref 1, .int set, .long h, .int who] w (qQl QL) := by
  obtain ⟨d, rfl, hd1⟩ := dS hd
  have o := hX.okn
  have o0 := o.p12
  refine A_X_turn (c_isSet (by omega) hX.n.ppl o0 (fun g1 => b1 (c_isStart (by omega) (fun g2 => b1 ?_) (fun g => b0 (hn (fun q => g q.2.1))))) (fun g => b0 (hn (fun q => g q.1))))
  obtain ⟨L, h1, h2, h3, e, e2⟩ := vSet_x o0 g1
  obtain ⟨t, ht, et, et2⟩ := vStart_x g2
  have vT : (who = -1 ∨ mem12 who L = true) → vTn N set h who := fun q => ⟨g1, g2, by rw [e2]; exact q⟩
  have hnn : ¬ (who = -1 ∨ mem12 who L = true) → QL (-1) w := fun q => hn (fun k => q (by have := k.2.2; rw [e2] at this; exact this))
  rw [e2, et2] at hy
  have hz := fun w' q => hy w' (vT q)
  subst e et
  refine c_isOfOrNone (by omega) (by omega) (fun g3 => n1 ?_) (fun g => n0 (hnn g))
  have lo : ∀ w', fr tnB w w' → fr (fun c => c < 72) w w' := fun w' f => fr_wk f (fun c hc => by unfold tnB at hc; omega)
  refine c_fewest (by omega) hX h1 h3 ht (fun n w1 en hn64 f1 r1 => ?_) (fun w1 en f1 => ?_)
  · have hw := fun w' f' => hz w' g3 (hX.tn f') (lo w' f')
    unfold fTn at hw
    rw [en] at hw
    refine ⟨fun g => ?_, fun _ => ⟨fun g => ?_, fun g => ?_⟩⟩
    · have g : nI n = -(nI 1) := g
      rw [nI_eqn (by omega) (by omega) (by omega)] at g
      exact g.elim
    · rcases g3 with g3 | g3
      · exact absurd g3 g
      · obtain ⟨x, hx12, ex, ex2, bx⟩ := mem12_x g3
        refine c_allot (O := tO T N t) (by omega) h3 hn64 r1 (tO_lt T N t) (fun w3 f3 r3 => ?_)
        have r : QL (if who = -1 then lN n else lN (t + tGo (tO T N t) (qIx who) 12 0 L (2 ^ n - 1))) w3 := hw w3 (fr_tr f1 f3)
        rw [if_neg g, ex2] at r
        rw [ex, qIx_nI (by omega), r3 x hx12 bx]
        have tl := tGo_lt (tO T N t) x 12 0 L (2 ^ n - 1)
        rw [nI_l (by omega), lN_add]
        exact ⟨qIn_nI hx12 (by decide), r⟩
    · have r : QL (if who = -1 then lN n else lN (t + tGo (tO T N t) (qIx who) 12 0 L (2 ^ n - 1))) w1 := hw w1 f1
      rw [if_pos g] at r
      rw [nI_l (by omega)]
      exact r
  · have r := hz w1 g3 (hX.tn f1) (lo w1 f1)
    unfold fTn at r
    rw [en] at r
    exact ⟨fun _ => r, fun g => absurd rfl g⟩
end TurnC
