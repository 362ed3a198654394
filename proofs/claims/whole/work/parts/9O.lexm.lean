/-! text: the reference's tokens. -/
section LexM
variable {s : Nat × (Nat → Int32)} {d : Nat} {w : qW} {Q : Int32 → qW → Prop} {QL : Int64 → qW → Prop} {R : qW → Prop} {Z : vZ} {a : Nat}
def pkr : List Nat → Nat
  | [] => 0
  | b :: r => pkr r * 256 + b
theorem pkr_lt : ∀ (l : List Nat), (∀ x, x ∈ l → x < 256) → pkr l < 256 ^ l.length
  | [], _ => by decide
  | b :: r, h => by
    have k := pkr_lt r (fun x hx => h x (List.mem_cons_of_mem _ hx))
    have hb := h b List.mem_cons_self
    show pkr r * 256 + b < 256 ^ (r.length + 1)
    rw [Nat.pow_succ]
    omega
theorem pkr_inj : ∀ (l m : List Nat), (∀ x, x ∈ l → 1 ≤ x ∧ x < 256) → (∀ x, x ∈ m → 1 ≤ x ∧ x < 256) → pkr l = pkr m → l = m
  | [], [], _, _, _ => rfl
  | [], b :: r, _, h, e => by
    have hb := h b List.mem_cons_self
    have e : 0 = pkr r * 256 + b := e
    omega
  | b :: r, [], h, _, e => by
    have hb := h b List.mem_cons_self
    have e : pkr r * 256 + b = 0 := e
    omega
  | b :: r, c :: t, h, h', e => by
    have hb := h b List.mem_cons_self
    have hc := h' c List.mem_cons_self
    have e : pkr r * 256 + b = pkr t * 256 + c := e
    have e1 : b = c := by omega
    have e2 : pkr r = pkr t := by omega
    rw [e1, pkr_inj r t (fun x hx => h x (List.mem_cons_of_mem _ hx)) (fun x hx => h' x (List.mem_cons_of_mem _ hx)) e2]
/-- a word as a long -/
def pkW (k : Nat) : Nat := pkr (qSt k).reverse
theorem pkW_ok : ((List.range 16).all fun k => decide (k = 0) || (decide (1 ≤ pkW k) && decide (pkW k < 2 ^ 56) && decide ((qSt k).length ≤ 6) && (qSt k).all (fun x => decide (1 ≤ x ∧ x < 256)))) = true := by decide +kernel
theorem pkW_b {k : Nat} (h1 : 1 ≤ k) (h2 : k ≤ 15) : 1 ≤ pkW k ∧ pkW k < 2 ^ 56 ∧ (qSt k).length ≤ 6 ∧ ∀ x, x ∈ qSt k → 1 ≤ x ∧ x < 256 := by
  have q := List.all_eq_true.mp pkW_ok k (List.mem_range.mpr (by omega))
  rw [decide_eq_false (show ¬ k = 0 by omega), Bool.false_or, Bool.and_eq_true, Bool.and_eq_true, Bool.and_eq_true, decide_eq_true_eq, decide_eq_true_eq, decide_eq_true_eq, List.all_eq_true] at q
  exact ⟨q.1.1.1, q.1.1.2, q.1.2, fun x hx => of_decide_eq_true (q.2 x hx)⟩
def mc (w : qW) (Z : vZ) : Prop := (w.1 72 6 = nI Z.1) ∧ (Z.1 ≤ 300) ∧ (∀ j, j < Z.1 → w.1 78 j = nI (Z.2.1 j)) ∧ (∀ j, j < Z.1 → Z.2.1 j < 256)
theorem mc.len {w : qW} {Z : vZ} (h : mc w Z) : w.1 72 6 = nI Z.1 := h.1
theorem mc.l3 {w : qW} {Z : vZ} (h : mc w Z) : Z.1 ≤ 300 := h.2.1
theorem mc.tape {w : qW} {Z : vZ} (h : mc w Z) : ∀ j, j < Z.1 → w.1 78 j = nI (Z.2.1 j) := h.2.2.1
theorem mc.byt {w : qW} {Z : vZ} (h : mc w Z) : ∀ j, j < Z.1 → Z.2.1 j < 256 := h.2.2.2
theorem mc.mk {w : qW} {Z : vZ} (f_len : w.1 72 6 = nI Z.1) (f_l3 : Z.1 ≤ 300) (f_tape : ∀ j, j < Z.1 → w.1 78 j = nI (Z.2.1 j)) (f_byt : ∀ j, j < Z.1 → Z.2.1 j < 256) : mc w Z := ⟨f_len, f_l3, f_tape, f_byt⟩
theorem m_byteAt {k : Nat} (hd : 1 ≤ d) (h : mc w Z) (hk : k < 2 ^ 31) (hQ : Q (byI (yB Z k)) w) : qCall (some s) d 222 [.ref 72, .int (nI k)] w (qQi Q) := by
  obtain ⟨d, rfl, -⟩ := dS hd
  have l3 := h.l3
  refine A_Mo_byteAt ?_
  rw [h.len, nI_leI (by omega) hk]
  refine ⟨fun g => ?_, fun g => ⟨qIn_nI (by omega) (by decide), ?_⟩⟩
  · rw [yB_out g] at hQ; exact hQ
  · have b := h.byt k (by omega)
    rw [yB_in (by omega), byI_0 _ (by omega)] at hQ
    rw [qIx_nI hk, h.tape k (by omega)]
    exact hQ
theorem byI_in {k lo hi : Nat} (hk : k ≤ 256) (h1 : 1 ≤ lo) (h2 : hi < 256) (h3 : lo ≤ hi) : (nI lo ≤ byI k ∧ byI k ≤ nI hi) ↔ lo ≤ k ∧ k ≤ hi := by
  rw [← Int32.not_lt, byI_lt hk (by omega) (by omega), byI_le hk h2]
  omega
theorem m_isDigit {k : Nat} (hd : 2 ≤ d) (hk : k ≤ 256) (hQ : Q (tI (yD k)) w) : qCall (some s) d 223 [.int (byI k)] w (qQi Q) := by
  obtain ⟨d, rfl, hd1⟩ := dS hd
  refine A_Mo_isDigit (m_isInB hd1 (fun g => ?_) (fun g => ?_))
  · have g : nI 48 ≤ byI k ∧ byI k ≤ nI 57 := g
    rw [byI_in hk (by omega) (by omega) (by omega)] at g
    have e : yD k = true := decide_eq_true g
    rw [e] at hQ; exact hQ
  · have g : ¬ (nI 48 ≤ byI k ∧ byI k ≤ nI 57) := g
    rw [byI_in hk (by omega) (by omega) (by omega)] at g
    have e : yD k = false := decide_eq_false g
    rw [e] at hQ; exact hQ
theorem m_isLetter {k : Nat} (hd : 2 ≤ d) (hk : k ≤ 256) (hQ : Q (tI (yL k)) w) : qCall (some s) d 224 [.int (byI k)] w (qQi Q) := by
  obtain ⟨d, rfl, hd1⟩ := dS hd
  refine A_Mo_isLetter (m_isInB hd1 (fun g => n1 ?_) (fun g => n0 (m_isInB hd1 (fun g2 => b1 ?_) (fun g2 => b0 ?_))))
  · have g : nI 97 ≤ byI k ∧ byI k ≤ nI 122 := g
    rw [byI_in hk (by omega) (by omega) (by omega)] at g
    have e : yL k = true := by unfold yL; rw [decide_eq_true g]; rfl
    rw [e] at hQ; exact hQ
  · have g2 : nI 65 ≤ byI k ∧ byI k ≤ nI 90 := g2
    rw [byI_in hk (by omega) (by omega) (by omega)] at g2
    have e : yL k = true := by unfold yL; rw [decide_eq_true g2, Bool.or_true]
    rw [e] at hQ; exact hQ
  · have g : ¬ (nI 97 ≤ byI k ∧ byI k ≤ nI 122) := g
    have g2 : ¬ (nI 65 ≤ byI k ∧ byI k ≤ nI 90) := g2
    rw [byI_in hk (by omega) (by omega) (by omega)] at g g2
    have e : yL k = false := by unfold yL; rw [decide_eq_false g, decide_eq_false g2]; rfl
    rw [e] at hQ; exact hQ
/-- only the token's fields have changed -/
def ma (w w' : qW) : Prop := w'.2.2 = w.2.2 ∧ (∀ c, ¬ c = 72 → w'.1 c = w.1 c ∧ w'.2.1 c = w.2.1 c) ∧ ∀ f, (f < 9 ∨ 12 < f) → w'.1 72 f = w.1 72 f
theorem ma_rf (w : qW) : ma w w := ⟨rfl, fun _ _ => ⟨rfl, rfl⟩, fun _ _ => rfl⟩
theorem ma_tr {w w' w'' : qW} (h : ma w w') (h' : ma w' w'') : ma w w'' := ⟨h'.1.trans h.1, fun c hc => ⟨(h'.2.1 c hc).1.trans (h.2.1 c hc).1, (h'.2.1 c hc).2.trans (h.2.1 c hc).2⟩, fun f hf => (h'.2.2 f hf).trans (h.2.2 f hf)⟩
theorem ma_p {w w' : qW} {f : Nat} {v : Int32} (h : ma w w') (h1 : 9 ≤ f) (h2 : f ≤ 12) : ma w (qPutI w' 72 f v) := by
  refine ⟨h.1, fun c hc => ⟨?_, (h.2.1 c hc).2⟩, fun g hg => ?_⟩
  · rw [← (h.2.1 c hc).1]; exact funext fun g => pI_c hc
  · rw [pI_f (by omega)]; exact h.2.2 g hg
theorem ma_l {w w' : qW} {f : Nat} {v : Int64} (h : ma w w') : ma w (qPutL w' 72 f v) := by
  refine ⟨h.1, fun c hc => ⟨(h.2.1 c hc).1, ?_⟩, fun g hg => h.2.2 g hg⟩
  rw [← (h.2.1 c hc).2]; exact funext fun g => pL_c hc
theorem mc.ma {w' : qW} (h : mc w Z) (k : ma w w') : mc w' Z := by
  refine mc.mk ?_ h.l3 (fun j hj => ?_) h.byt
  · rw [k.2.2 6 (by decide)]; exact h.len
  · rw [(k.2.1 78 (by decide)).1]; exact h.tape j hj
def cm (w : qW) (Z : vZ) (a : Nat) : Prop := (mc w Z) ∧ (a ≤ Z.1) ∧ (w.1 72 11 = nI (yT Z a).1) ∧ (w.1 72 10 = nI (yT Z a).2.2) ∧ (w.1 72 9 = nI (yN Z a)) ∧ ((yT Z a).1 = 1 → ∃ m, w.1 72 12 = nI m ∧ m < 1000000 ∧ min 10000 m = (yT Z a).2.1) ∧ ((yT Z a).1 = 2 → ∀ k, 1 ≤ k → k ≤ 15 → (w.2.1 72 13 = lN (pkW k) ↔ (yT Z a).2.1 = k))
theorem cm.cc {w : qW} {Z : vZ} {a : Nat} (h : cm w Z a) : mc w Z := h.1
theorem cm.la {w : qW} {Z : vZ} {a : Nat} (h : cm w Z a) : a ≤ Z.1 := h.2.1
theorem cm.tok {w : qW} {Z : vZ} {a : Nat} (h : cm w Z a) : w.1 72 11 = nI (yT Z a).1 := h.2.2.1
theorem cm.pl {w : qW} {Z : vZ} {a : Nat} (h : cm w Z a) : w.1 72 10 = nI (yT Z a).2.2 := h.2.2.2.1
theorem cm.en {w : qW} {Z : vZ} {a : Nat} (h : cm w Z a) : w.1 72 9 = nI (yN Z a) := h.2.2.2.2.1
theorem cm.num {w : qW} {Z : vZ} {a : Nat} (h : cm w Z a) : (yT Z a).1 = 1 → ∃ m, w.1 72 12 = nI m ∧ m < 1000000 ∧ min 10000 m = (yT Z a).2.1 := h.2.2.2.2.2.1
theorem cm.wrd {w : qW} {Z : vZ} {a : Nat} (h : cm w Z a) : (yT Z a).1 = 2 → ∀ k, 1 ≤ k → k ≤ 15 → (w.2.1 72 13 = lN (pkW k) ↔ (yT Z a).2.1 = k) := h.2.2.2.2.2.2
theorem cm.mk {w : qW} {Z : vZ} {a : Nat} (f_cc : mc w Z) (f_la : a ≤ Z.1) (f_tok : w.1 72 11 = nI (yT Z a).1) (f_pl : w.1 72 10 = nI (yT Z a).2.2) (f_en : w.1 72 9 = nI (yN Z a)) (f_num : (yT Z a).1 = 1 → ∃ m, w.1 72 12 = nI m ∧ m < 1000000 ∧ min 10000 m = (yT Z a).2.1) (f_wrd : (yT Z a).1 = 2 → ∀ k, 1 ≤ k → k ≤ 15 → (w.2.1 72 13 = lN (pkW k) ↔ (yT Z a).2.1 = k)) : cm w Z a := ⟨f_cc, f_la, f_tok, f_pl, f_en, f_num, f_wrd⟩
theorem yW_s {p q : Nat} (h : p ≤ q) : yW Z p (q + 1) = yW Z p q ++ [Z.2.1 q] := by
  unfold yW
  rw [show q + 1 - p = (q - p) + 1 by omega, List.range_succ, List.map_append, List.map_cons, List.map_nil, show p + (q - p) = q by omega]
theorem sh8 {n b : Nat} (hb : b < 256) : qLshl (lN n) (8 : Int32) ||| (nI b).toInt64 = lN (n * 256 + b) := by
  rw [show (8 : Int32) = nI 8 from rfl, qLshl_lN (by omega), nI_l (by omega), lN_or]
  congr 1
  have := Nat.two_pow_add_eq_or_of_lt (i := 8) (b := b) hb n
  rw [Nat.mul_comm n, show (2 : Nat) ^ 8 = 256 from rfl] at *
  exact this.symm
theorem m_nextToken {e : Nat} (hd : 3 ≤ d) (h : mc w Z) (he : w.1 72 9 = nI e) (le : e ≤ Z.1) (hQ : ∀ w', ma w w' → cm w' Z e → R w') : qCall (some s) d 221 [.ref 72] w (qQv R) := by
  obtain ⟨d, rfl, hd1⟩ := dS hd
  have l3 := h.l3
  have bl := yB_le h.byt
  refine A_Mo_nextToken ?_
  have rest : ∀ p w1, p = yR yS Z e → p ≤ Z.1 → ma w w1 → w1.1 72 9 = nI p → qCall (some s) d 222 [.ref 72, .int (w1.1 72 9)] (qPutI w1 72 10 (w1.1 72 9)) (qQi fun x6 w5 =>
            (0 ≤ x6 →
              qCall (some s) d 223 [.int x6] w5 (qQi fun x8 w7 =>
                (x8 = 0 →
                  qCall (some s) d 224 [.int x6] w7 (qQi fun x10 w9 =>
                    (x10 = 0 →
                      (x6 = (60 : Int32) →
                        qAt s d c_Mo_nextToken (qQv R) 338 [some (.ref 72), some (.int x6), none] [.int (1 : Int32)] (qPutI w9 72 9 ((w9.1 72 9) + (1 : Int32)))) ∧
                      (¬ x6 = (60 : Int32) →
                        (x6 = (62 : Int32) →
                          qAt s d c_Mo_nextToken (qQv R) 338 [some (.ref 72), some (.int x6), none] [.int (1 : Int32)] (qPutI w9 72 9 ((w9.1 72 9) + (1 : Int32)))) ∧
                        (¬ x6 = (62 : Int32) →
                          (x6 = (61 : Int32) →
                            qAt s d c_Mo_nextToken (qQv R) 338 [some (.ref 72), some (.int x6), none] [.int (1 : Int32)] (qPutI w9 72 9 ((w9.1 72 9) + (1 : Int32)))) ∧
                          (¬ x6 = (61 : Int32) →
                            (x6 = (35 : Int32) →
                              qAt s d c_Mo_nextToken (qQv R) 338 [some (.ref 72), some (.int x6), none] [.int (1 : Int32)] (qPutI w9 72 9 ((w9.1 72 9) + (1 : Int32)))) ∧
                            (¬ x6 = (35 : Int32) →
                              (x6 = (43 : Int32) →
                                qAt s d c_Mo_nextToken (qQv R) 338 [some (.ref 72), some (.int x6), none] [.int (1 : Int32)] (qPutI w9 72 9 ((w9.1 72 9) + (1 : Int32)))) ∧
                              (¬ x6 = (43 : Int32) →
                                (x6 = (45 : Int32) →
                                  qAt s d c_Mo_nextToken (qQv R) 338 [some (.ref 72), some (.int x6), none] [.int (1 : Int32)] (qPutI w9 72 9 ((w9.1 72 9) + (1 : Int32)))) ∧
                                (¬ x6 = (45 : Int32) →
                                  (x6 = (42 : Int32) →
                                    qAt s d c_Mo_nextToken (qQv R) 338 [some (.ref 72), some (.int x6), none] [.int (1 : Int32)] (qPutI w9 72 9 ((w9.1 72 9) + (1 : Int32)))) ∧
                                  (¬ x6 = (42 : Int32) →
                                    (x6 = (47 : Int32) →
                                      qAt s d c_Mo_nextToken (qQv R) 338 [some (.ref 72), some (.int x6), none] [.int (1 : Int32)] (qPutI w9 72 9 ((w9.1 72 9) + (1 : Int32)))) ∧
                                    (¬ x6 = (47 : Int32) →
                                      (x6 = (37 : Int32) →
                                        qAt s d c_Mo_nextToken (qQv R) 338 [some (.ref 72), some (.int x6), none] [.int (1 : Int32)] (qPutI w9 72 9 ((w9.1 72 9) + (1 : Int32)))) ∧
                                      (¬ x6 = (37 : Int32) →
                                        (x6 = (40 : Int32) →
                                          qAt s d c_Mo_nextToken (qQv R) 338 [some (.ref 72), some (.int x6), none] [.int (1 : Int32)] (qPutI w9 72 9 ((w9.1 72 9) + (1 : Int32)))) ∧
                                        (¬ x6 = (40 : Int32) →
                                          (x6 = (41 : Int32) →
                                            qAt s d c_Mo_nextToken (qQv R) 338 [some (.ref 72), some (.int x6), none] [.int (1 : Int32)] (qPutI w9 72 9 ((w9.1 72 9) + (1 : Int32)))) ∧
                                          (¬ x6 = (41 : Int32) →
                                            (x6 = (59 : Int32) →
                                              qAt s d c_Mo_nextToken (qQv R) 338 [some (.ref 72), some (.int x6), none] [.int (1 : Int32)] (qPutI w9 72 9 ((w9.1 72 9) + (1 : Int32)))) ∧
                                            (¬ x6 = (59 : Int32) →
                                              (¬ x6 = (44 : Int32) →
                                                qAt s d c_Mo_nextToken (qQv R) 338 [some (.ref 72), some (.int x6), none] [.int (0 : Int32)] (qPutI w9 72 9 ((w9.1 72 9) + (1 : Int32)))) ∧
                                              (x6 = (44 : Int32) →
                                                qAt s d c_Mo_nextToken (qQv R) 338 [some (.ref 72), some (.int x6), none] [.int (1 : Int32)] (qPutI w9 72 9 ((w9.1 72 9) + (1 : Int32))))))))))))))))) ∧
                    (¬ x10 = 0 →
                      qAt s d c_Mo_nextToken (qQv R) 161 [some (.ref 72), none, none] [] (qPutL (qPutI w9 72 11 (2 : Int32)) 72 13 (0 : Int64))))) ∧
                (¬ x8 = 0 →
                  qAt s d c_Mo_nextToken (qQv R) 85 [some (.ref 72), none, none] [] (qPutI (qPutI w7 72 11 (1 : Int32)) 72 12 (0 : Int32))))) ∧
            (¬ 0 ≤ x6 →
              R (qPutI w5 72 11 (0 : Int32)))) := by
    intro p w1 ep lp m1 e9
    rw [e9]
    have k1 : ma w (qPutI w1 72 10 (nI p)) := ma_p m1 (by decide) (by decide)
    have w9 : (qPutI w1 72 10 (nI p)).1 72 9 = nI p := by rw [pI_f (by decide)]; exact e9
    have w10 : (qPutI w1 72 10 (nI p)).1 72 10 = nI p := by rw [pI_e]
    revert k1 w9 w10
    generalize qPutI w1 72 10 (nI p) = v
    intro k1 v9 v10
    refine m_byteAt (by omega) (h.ma k1) (by omega) ⟨fun g => ?_, fun g => ?_⟩
    · have n256 : ¬ yB Z p = 256 := fun q => by rw [q] at g; exact absurd g (by decide)
      have lp2 : p < Z.1 := by
        rcases Nat.lt_or_ge p Z.1 with q | q
        · exact q
        · exact absurd (yB_out q) n256
      have bp := bl p
      refine m_isDigit (by omega) bp (tI_b (fun gd => ?_) (fun gd => m_isLetter (by omega) bp (tI_b (fun gl => ?_) (fun gl => ?_))))
      · -- a number
        have nl : ¬ yL (yB Z p) = true := by
          have bd : 48 ≤ yB Z p ∧ yB Z p ≤ 57 := of_decide_eq_true gd
          unfold yL
          rw [decide_eq_false (by omega), decide_eq_false (by omega)]
          exact fun q => Bool.noConfusion q
        have y : y0 Z p = ((1, yV Z p 0, p), yR yD Z p) := by unfold y0; rw [if_neg n256, if_neg nl, if_pos gd]
        have fin : ∀ q m w2, ma w w2 → w2.1 72 11 = nI 1 → w2.1 72 10 = nI p → w2.1 72 9 = nI q → w2.1 72 12 = nI m → m < 1000000 → yR yD Z p = q → yV Z p 0 = min 10000 m → R w2 := by
          intro q m w2 kk e11 e10 e9 e12 m6 eq ev
          refine hQ w2 kk (cm.mk (h.ma kk) le ?_ ?_ ?_ ?_ ?_)
          · unfold yT; rw [← ep, y]; exact e11
          · unfold yT; rw [← ep, y]; exact e10
          · unfold yN; rw [← ep, y]; show _ = nI (yR yD Z p); rw [eq]; exact e9
          · unfold yT; rw [← ep, y]; intro _; exact ⟨m, e12, m6, ev.symm⟩
          · unfold yT; rw [← ep, y]; intro q; have q : (1 : Nat) = 2 := q; omega
        have loop : ∀ t q m w2, Z.1 - q = t → p ≤ q → q ≤ Z.1 → m < 1000000 → ma w w2 → w2.1 72 11 = nI 1 → w2.1 72 10 = nI p → w2.1 72 9 = nI q → w2.1 72 12 = nI m → yR yD Z p = yR yD Z q → yV Z p 0 = yV Z q (min 10000 m) → qAt s d c_Mo_nextToken (qQv R) 85 [some (.ref 72), none, none] [] w2 := by
          intro t
          induction t with
          | zero =>
            intro q m w2 ht pq lq m6 kk e11 e10 e9 e12 er ev
            have o : yB Z q = 256 := yB_out (by omega)
            refine A_Mo_nextToken_85 ?_
            rw [e9]
            refine m_byteAt (by omega) (h.ma kk) (by omega) (m_isDigit (by omega) (bl q) (tI_b (fun g => ?_) (fun g => ?_)))
            · rw [o] at g; exact Bool.noConfusion g
            · exact fin q m w2 kk e11 e10 e9 e12 m6 (by rw [er, yR_0 g]) (by rw [ev, yV_0 g])
          | succ t ih =>
            intro q m w2 ht pq lq m6 kk e11 e10 e9 e12 er ev
            refine A_Mo_nextToken_85 ?_
            rw [e9]
            refine m_byteAt (by omega) (h.ma kk) (by omega) (m_isDigit (by omega) (bl q) (tI_b (fun g => ?_) (fun g => ?_)))
            · have bq : 48 ≤ yB Z q ∧ yB Z q ≤ 57 := of_decide_eq_true g
              rw [e9, e12, show (100000 : Int32) = nI 100000 from rfl, nI_leI (by omega) (by omega), nI_1]
              refine ⟨fun g5 => ih (q + 1) m _ (by omega) (by omega) (by omega) m6 (ma_p kk (by decide) (by decide)) ?_ ?_ ?_ ?_ ?_ ?_, fun g5 => m_byteAt (by omega) (h.ma kk) (by omega) ?_⟩
              · rw [pI_f (by decide)]; exact e11
              · rw [pI_f (by decide)]; exact e10
              · rw [pI_e]
              · rw [pI_f (by decide)]; exact e12
              · rw [er, (yR_1 rfl g).2]
              · rw [ev, yV_1 g]; congr 1; omega
              · rw [byI_0 _ (by omega), show (10 : Int32) = nI 10 from rfl, nI_mul', nI_add, show (48 : Int32) = nI 48 from rfl, nI_sub' (by omega), e9, nI_1]
                refine ih (q + 1) (10 * m + yB Z q - 48) _ (by omega) (by omega) (by omega) (by omega) (ma_p (ma_p kk (by decide) (by decide)) (by decide) (by decide)) ?_ ?_ ?_ ?_ ?_ ?_
                · rw [pI_f (by decide), pI_f (by decide)]; exact e11
                · rw [pI_f (by decide), pI_f (by decide)]; exact e10
                · rw [pI_e]
                · rw [pI_f (by decide), pI_e]
                · rw [er, (yR_1 rfl g).2]
                · rw [ev, yV_1 g]; congr 1; omega
            · exact fin q m w2 kk e11 e10 e9 e12 m6 (by rw [er, yR_0 g]) (by rw [ev, yV_0 g])
        refine loop _ p 0 _ rfl (Nat.le_refl _) lp (by omega) (ma_p (ma_p k1 (by decide) (by decide)) (by decide) (by decide)) ?_ ?_ ?_ ?_ rfl rfl
        · rw [pI_f (by decide), pI_e]; rfl
        · rw [pI_f (by decide), pI_f (by decide)]; exact v10
        · rw [pI_f (by decide), pI_f (by decide)]; exact v9
        · rw [pI_e]; rfl
      · -- a word
        have y : y0 Z p = ((2, yI (yW Z p (yR yL Z p)), p), yR yL Z p) := by unfold y0; rw [if_neg n256, if_pos gl]
        have fin : ∀ q w2, ma w w2 → w2.1 72 11 = nI 2 → w2.1 72 10 = nI p → w2.1 72 9 = nI q → yR yL Z p = q → (∀ k, 1 ≤ k → k ≤ 15 → (w2.2.1 72 13 = lN (pkW k) ↔ yI (yW Z p q) = k)) → R w2 := by
          intro q w2 kk e11 e10 e9 eq ew
          refine hQ w2 kk (cm.mk (h.ma kk) le ?_ ?_ ?_ ?_ ?_)
          · unfold yT; rw [← ep, y]; exact e11
          · unfold yT; rw [← ep, y]; exact e10
          · unfold yN; rw [← ep, y]; show _ = nI (yR yL Z p); rw [eq]; exact e9
          · unfold yT; rw [← ep, y]; intro q; have q : (2 : Nat) = 1 := q; omega
          · unfold yT; rw [← ep, y]; intro _ k h1 h2; show _ ↔ yI (yW Z p (yR yL Z p)) = k; rw [eq]; exact ew k h1 h2
        have ylb : ∀ {x : Nat}, yL x = true → 1 ≤ x ∧ x < 256 := by
          intro x hx
          unfold yL at hx
          rw [Bool.or_eq_true, decide_eq_true_eq, decide_eq_true_eq] at hx
          omega
        have endw : ∀ q w2, p ≤ q → q ≤ Z.1 → ma w w2 → w2.1 72 11 = nI 2 → w2.1 72 10 = nI p → w2.1 72 9 = nI q → (q - p ≤ 7 → w2.2.1 72 13 = lN (pkr (yW Z p q).reverse)) → (∀ x, x ∈ yW Z p q → 1 ≤ x ∧ x < 256) → yR yL Z p = yR yL Z q → yL (yB Z q) = false → (((w2.1 72 9) - (w2.1 72 10)) ≤ (7 : Int32) → R w2) ∧ (¬ ((w2.1 72 9) - (w2.1 72 10)) ≤ (7 : Int32) → R (qPutL w2 72 13 (0 : Int64))) := by
          intro q w2 pq lq kk e11 e10 e9 ew eb er g
          have eq : yR yL Z p = q := by rw [er, yR_0 g]
          have wl : (yW Z p q).length = q - p := by unfold yW; rw [List.length_map, List.length_range]
          rw [e9, e10, nI_sub' pq, show (7 : Int32) = nI 7 from rfl, nI_leI (by omega) (by omega)]
          refine ⟨fun g7 => fin q w2 kk e11 e10 e9 eq (fun k h1 h2 => ?_), fun g7 => fin q _ (ma_l kk) e11 e10 e9 eq (fun k h1 h2 => ?_)⟩
          · have pb := pkW_b h1 h2
            have rl := pkr_lt (yW Z p q).reverse (fun x hx => (eb x (List.mem_reverse.mp hx)).2)
            rw [List.length_reverse, wl] at rl
            have r7 : 256 ^ (q - p) ≤ 256 ^ 7 := Nat.pow_le_pow_right (by decide) g7
            rw [ew g7, lN_eq64 (Nat.lt_of_lt_of_le rl (Nat.le_trans r7 (by decide))) (by omega), yI_iff h1 h2]
            refine ⟨fun e => ?_, fun e => by unfold pkW; rw [e]⟩
            have := pkr_inj _ _ (fun x hx => eb x (List.mem_reverse.mp hx)) (fun x hx => pb.2.2.2 x (List.mem_reverse.mp hx)) e
            exact (List.reverse_inj.mp this).symm
          · have pb := pkW_b h1 h2
            rw [pL_e, show (0 : Int64) = lN 0 from rfl, lN_eq64 (by decide) (by omega), yI_iff h1 h2]
            refine ⟨fun e => by omega, fun e => ?_⟩
            have := congrArg List.length e
            rw [wl] at this
            omega
        have loop : ∀ t q w2, Z.1 - q = t → p ≤ q → q ≤ Z.1 → ma w w2 → w2.1 72 11 = nI 2 → w2.1 72 10 = nI p → w2.1 72 9 = nI q → (q - p ≤ 7 → w2.2.1 72 13 = lN (pkr (yW Z p q).reverse)) → (∀ x, x ∈ yW Z p q → 1 ≤ x ∧ x < 256) → yR yL Z p = yR yL Z q → qAt s d c_Mo_nextToken (qQv R) 161 [some (.ref 72), none, none] [] w2 := by
          intro t
          induction t with
          | zero =>
            intro q w2 ht pq lq kk e11 e10 e9 ew eb er
            have o : yB Z q = 256 := yB_out (by omega)
            refine A_Mo_nextToken_161 ?_
            rw [e9]
            refine m_byteAt (by omega) (h.ma kk) (by omega) (m_isLetter (by omega) (bl q) (tI_b (fun g => ?_) (fun g => ?_)))
            · rw [o] at g; exact Bool.noConfusion g
            · exact endw q w2 pq lq kk e11 e10 e9 ew eb er g
          | succ t ih =>
            intro q w2 ht pq lq kk e11 e10 e9 ew eb er
            refine A_Mo_nextToken_161 ?_
            rw [e9]
            refine m_byteAt (by omega) (h.ma kk) (by omega) (m_isLetter (by omega) (bl q) (tI_b (fun g => ?_) (fun g => ?_)))
            · have bq := ylb g
              have zq : yB Z q = Z.2.1 q := yB_in (by omega)
              have eb2 : ∀ x, x ∈ yW Z p (q + 1) → 1 ≤ x ∧ x < 256 := by
                intro x hx
                rw [yW_s pq, List.mem_append, List.mem_singleton] at hx
                rcases hx with hx | hx
                · exact eb x hx
                · rw [hx, ← zq]; exact bq
              rw [e9, e10, nI_sub' pq, show (7 : Int32) = nI 7 from rfl, nI_leI (by omega) (by omega), nI_1]
              refine ⟨fun g7 => ih (q + 1) _ (by omega) (by omega) (by omega) (ma_p kk (by decide) (by decide)) ?_ ?_ ?_ (fun g8 => by omega) eb2 (by rw [er, (yR_1 rfl g).2]), fun g7 => m_byteAt (by omega) (h.ma kk) (by omega) ?_⟩
              · rw [pI_f (by decide)]; exact e11
              · rw [pI_f (by decide)]; exact e10
              · rw [pI_e]
              · rw [byI_0 _ (by omega), ew (by omega), sh8 bq.2, e9, nI_1]
                refine ih (q + 1) _ (by omega) (by omega) (by omega) (ma_p (ma_l kk) (by decide) (by decide)) ?_ ?_ ?_ (fun _ => ?_) eb2 (by rw [er, (yR_1 rfl g).2])
                · rw [pI_f (by decide)]; exact e11
                · rw [pI_f (by decide)]; exact e10
                · rw [pI_e]
                · show (qPutL w2 72 13 _).2.1 72 13 = _
                  rw [pL_e, yW_s pq, List.reverse_append]
                  show lN (pkr (yW Z p q).reverse * 256 + yB Z q) = lN (pkr (yW Z p q).reverse * 256 + Z.2.1 q)
                  rw [zq]
            · exact endw q w2 pq lq kk e11 e10 e9 ew eb er g
        have w0 : yW Z p p = [] := by unfold yW; rw [Nat.sub_self]; rfl
        refine loop _ p _ rfl (Nat.le_refl _) lp (ma_l (ma_p k1 (by decide) (by decide))) ?_ ?_ ?_ (fun _ => ?_) (fun x hx => by rw [w0] at hx; exact absurd hx List.not_mem_nil) rfl
        · show (qPutI v 72 11 2).1 72 11 = _
          rw [pI_e]; rfl
        · show (qPutI v 72 11 2).1 72 10 = _
          rw [pI_f (by decide)]; exact v10
        · show (qPutI v 72 11 2).1 72 9 = _
          rw [pI_f (by decide)]; exact v9
        · rw [pL_e, w0]; rfl
      · -- a sign
        have nl : ¬ yL (yB Z p) = true := by rw [gl]; exact fun q => Bool.noConfusion q
        have nd : ¬ yD (yB Z p) = true := by rw [gd]; exact fun q => Bool.noConfusion q
        rw [v9, nI_1]
        have k2 : ma w (qPutI v 72 9 (nI (p + 1))) := ma_p k1 (by decide) (by decide)
        have x9 : (qPutI v 72 9 (nI (p + 1))).1 72 9 = nI (p + 1) := by rw [pI_e]
        have x10 : (qPutI v 72 9 (nI (p + 1))).1 72 10 = nI p := by rw [pI_f (by decide)]; exact v10
        revert k2 x9 x10
        generalize qPutI v 72 9 (nI (p + 1)) = x
        intro k2 x9 x10
        have one : ∀ t (v2 : Int32), v2 = nI t → ¬ ((yB Z p = 60 ∨ yB Z p = 62) ∧ yB Z (p + 1) = 61) → (if yG (yB Z p) = true then yB Z p else 3) = t → R (qPutI x 72 11 v2) := by
          intro t v2 ev c4 et
          have y : y0 Z p = ((t, 0, p), p + 1) := by
            unfold y0
            rw [if_neg n256, if_neg nl, if_neg nd, if_neg c4, ← et]
            split <;> rfl
          have nt : ¬ t = 1 ∧ ¬ t = 2 := by
            rw [← et]
            split
            · rename_i g2; have := yG_b g2; omega
            · decide
          have kk : ma w (qPutI x 72 11 v2) := ma_p k2 (by decide) (by decide)
          refine hQ _ kk (cm.mk (h.ma kk) le ?_ ?_ ?_ ?_ ?_)
          · unfold yT; rw [← ep, y, pI_e]; exact ev
          · unfold yT; rw [← ep, y, pI_f (by decide)]; exact x10
          · unfold yN; rw [← ep, y, pI_f (by decide)]; exact x9
          · unfold yT; rw [← ep, y]; intro q; exact absurd q nt.1
          · unfold yT; rw [← ep, y]; intro q; exact absurd q nt.2
        have two : ∀ (v2 : Int32), (yB Z p = 60 ∨ yB Z p = 62) → v2 = nI (yB Z p) → qAt s d c_Mo_nextToken (qQv R) 364 [some (.ref 72), some (.int (byI (yB Z p))), none] [] (qPutI x 72 11 v2) := by
          intro v2 c3 ev
          have kk : ma w (qPutI x 72 11 v2) := ma_p k2 (by decide) (by decide)
          refine A_Mo_nextToken_364 ?_
          rw [show (qPutI x 72 11 v2).1 72 9 = nI (p + 1) from by rw [pI_f (by decide)]; exact x9]
          refine m_byteAt (by omega) (h.ma kk) (by omega) ?_
          rw [show (qPutI x 72 11 v2).1 72 9 = nI (p + 1) from by rw [pI_f (by decide)]; exact x9, show (61 : Int32) = nI 61 from rfl, byI_eq (bl _) (by omega), show (60 : Int32) = nI 60 from rfl, byI_eq (bl _) (by omega), nI_1]
          have gG : yG (yB Z p) = true := by rcases c3 with c3 | c3 <;> (rw [c3]; decide)
          refine ⟨fun g => one (yB Z p) v2 ev (fun q => g q.2) (if_pos gG), fun g => ?_⟩
          have y : y0 Z p = ((if yB Z p = 60 then 4 else 5, 0, p), p + 2) := by unfold y0; rw [if_neg n256, if_neg nl, if_neg nd, if_pos ⟨c3, g⟩]
          have fin : ∀ v3 : Int32, v3 = nI (if yB Z p = 60 then 4 else 5) → R (qPutI (qPutI (qPutI x 72 11 v2) 72 9 (nI (p + 1 + 1))) 72 11 v3) := by
            intro v3 e3
            have k3 : ma w (qPutI (qPutI (qPutI x 72 11 v2) 72 9 (nI (p + 1 + 1))) 72 11 v3) := ma_p (ma_p kk (by decide) (by decide)) (by decide) (by decide)
            refine hQ _ k3 (cm.mk (h.ma k3) le ?_ ?_ ?_ ?_ ?_)
            · unfold yT; rw [← ep, y, pI_e]; exact e3
            · unfold yT; rw [← ep, y, pI_f (by decide), pI_f (by decide), pI_f (by decide)]; exact x10
            · unfold yN; rw [← ep, y, pI_f (by decide), pI_e]
            · unfold yT; rw [← ep, y]; intro q; have q : (if yB Z p = 60 then 4 else 5) = 1 := q; split at q <;> omega
            · unfold yT; rw [← ep, y]; intro q; have q : (if yB Z p = 60 then 4 else 5) = 2 := q; split at q <;> omega
          exact ⟨fun g60 => fin _ (by rw [if_neg g60]; rfl), fun g60 => fin _ (by rw [if_pos g60]; rfl)⟩
        have h338 : ∀ is0 : Int32, is0 = tI (yG (yB Z p)) → qAt s d c_Mo_nextToken (qQv R) 338 [some (.ref 72), some (.int (byI (yB Z p))), none] [.int is0] x := by
          intro is0 ei
          refine A_Mo_nextToken_338 ?_
          rw [ei, show (60 : Int32) = nI 60 from rfl, show (62 : Int32) = nI 62 from rfl, byI_eq (bl _) (by omega), byI_eq (bl _) (by omega)]
          refine tI_b (fun g => ?_) (fun g => ?_)
          · have e : byI (yB Z p) = nI (yB Z p) := byI_0 _ n256
            refine ⟨fun g6 => two _ (Or.inl g6) e, fun g6 => ⟨fun g7 => one (yB Z p) _ e (fun q => by omega) (if_pos g), fun g7 => two _ (Or.inr g7) e⟩⟩
          · have no : ∀ k, yB Z p = k → yG k = true → False := fun k e q => by rw [e, q] at g; exact Bool.noConfusion g
            refine ⟨fun g6 => (no 60 g6 (by decide)).elim, fun g6 => ⟨fun g7 => one 3 _ rfl (fun q => by omega) (if_neg (by rw [g]; exact fun q => Bool.noConfusion q)), fun g7 => (no 62 g7 (by decide)).elim⟩⟩
        have H1 : ∀ k, yG k = true → k < 256 → byI (yB Z p) = nI k → qAt s d c_Mo_nextToken (qQv R) 338 [some (.ref 72), some (.int (byI (yB Z p))), none] [.int (1 : Int32)] x := by
          intro k gk k2 e
          rw [byI_eq (bl _) k2] at e
          exact h338 _ (by rw [e, gk]; rfl)
        refine ⟨fun g => H1 60 (by decide) (by decide) g, fun g1 => ⟨fun g => H1 62 (by decide) (by decide) g, fun g2 => ⟨fun g => H1 61 (by decide) (by decide) g, fun g3 => ⟨fun g => H1 35 (by decide) (by decide) g, fun g4 => ⟨fun g => H1 43 (by decide) (by decide) g, fun g5 => ⟨fun g => H1 45 (by decide) (by decide) g, fun g6 => ⟨fun g => H1 42 (by decide) (by decide) g, fun g7 => ⟨fun g => H1 47 (by decide) (by decide) g, fun g8 => ⟨fun g => H1 37 (by decide) (by decide) g, fun g9 => ⟨fun g => H1 40 (by decide) (by decide) g, fun g10 => ⟨fun g => H1 41 (by decide) (by decide) g, fun g11 => ⟨fun g => H1 59 (by decide) (by decide) g, fun g12 => ⟨fun g13 => h338 _ ?_, fun g => H1 44 (by decide) (by decide) g⟩⟩⟩⟩⟩⟩⟩⟩⟩⟩⟩⟩⟩
        have ne : ∀ k, k < 256 → ¬ byI (yB Z p) = nI k → ¬ yB Z p = k := fun k hk q e => q ((byI_eq (bl _) hk).mpr e)
        have q1 := ne 60 (by decide) g1
        have q2 := ne 62 (by decide) g2
        have q3 := ne 61 (by decide) g3
        have q4 := ne 35 (by decide) g4
        have q5 := ne 43 (by decide) g5
        have q6 := ne 45 (by decide) g6
        have q7 := ne 42 (by decide) g7
        have q8 := ne 47 (by decide) g8
        have q9 := ne 37 (by decide) g9
        have q10 := ne 40 (by decide) g10
        have q11 := ne 41 (by decide) g11
        have q12 := ne 59 (by decide) g12
        have q13 := ne 44 (by decide) g13
        have e : yG (yB Z p) = false := by
          refine decide_eq_false (fun hm => ?_)
          have hm : yB Z p ∈ [60, 62, 61, 35, 43, 45, 42, 47, 37, 40, 41, 44, 59] := hm
          simp only [List.mem_cons, List.not_mem_nil, or_false] at hm
          omega
        rw [e]; rfl
    · have e256 : yB Z p = 256 := by
        by_cases q : yB Z p = 256
        · exact q
        · rw [byI_0 _ q] at g
          have := bl p
          exact absurd (Int32.not_lt.mp (nI_nn (a := yB Z p) (by omega))) g
      have y : y0 Z p = ((0, 0, p), p) := by unfold y0; rw [if_pos e256]
      have kk : ma w (qPutI v 72 11 (0 : Int32)) := ma_p k1 (by decide) (by decide)
      refine hQ _ kk (cm.mk (h.ma kk) le ?_ ?_ ?_ ?_ ?_)
      · unfold yT; rw [← ep, y, pI_e]; rfl
      · unfold yT; rw [← ep, y, pI_f (by decide)]; exact v10
      · unfold yN; rw [← ep, y, pI_f (by decide)]; exact v9
      · unfold yT; rw [← ep, y]; intro q; have q : (0 : Nat) = 1 := q; omega
      · unfold yT; rw [← ep, y]; intro q; have q : (0 : Nat) = 2 := q; omega
  have blank : ∀ t k w1, Z.1 - k = t → k ≤ Z.1 → ma w w1 → w1.1 72 9 = nI k → yR yS Z e = yR yS Z k → qAt s d c_Mo_nextToken (qQv R) 0 [some (.ref 72), none, none] [] w1 := by
    intro t
    induction t with
    | zero =>
      intro k w1 ht lk m1 e9 er
      have o : yB Z k = 256 := yB_out (by omega)
      refine A_Mo_nextToken_0 ?_
      have rs := rest k w1 (by rw [er, yR_0 (by rw [o]; rfl)]) lk m1 e9
      rw [e9] at rs ⊢
      refine m_byteAt (by omega) (h.ma m1) (by omega) ⟨fun g => ?_, fun _ => ?_⟩
      · rw [o] at g; exact absurd g (by decide)
      · rw [e9]
        refine m_byteAt (by omega) (h.ma m1) (by omega) ⟨fun _ => ?_, fun g => ?_⟩
        · rw [e9]; exact rs
        · rw [o] at g; exact absurd g (by decide)
    | succ t ih =>
      intro k w1 ht lk m1 e9 er
      refine A_Mo_nextToken_0 ?_
      have nx : yS (yB Z k) = true → qAt s d c_Mo_nextToken (qQv R) 0 [some (.ref 72), none, none] [] (qPutI w1 72 9 (nI k + (1 : Int32))) := by
        intro g
        rw [nI_1]
        exact ih (k + 1) _ (by omega) (by omega) (ma_p m1 (by decide) (by decide)) (by rw [pI_e]) (by rw [er, (yR_1 (p := yS) rfl g).2])
      have rs : yS (yB Z k) = false → _ := fun g => rest k w1 (by rw [er, yR_0 g]) lk m1 e9
      rw [e9] at rs ⊢
      refine m_byteAt (by omega) (h.ma m1) (by omega) ⟨fun g => ?_, fun g => ?_⟩
      · have g : byI (yB Z k) = nI 32 := g
        rw [byI_eq (bl k) (by omega)] at g
        rw [e9]
        exact nx (by rw [g]; rfl)
      · have g : ¬ byI (yB Z k) = nI 32 := g
        rw [byI_eq (bl k) (by omega)] at g
        rw [e9]
        refine m_byteAt (by omega) (h.ma m1) (by omega) ⟨fun g2 => ?_, fun g2 => ?_⟩
        · have g2 : ¬ byI (yB Z k) = nI 10 := g2
          rw [byI_eq (bl k) (by omega)] at g2
          rw [e9]
          exact rs (decide_eq_false (by omega))
        · have g2 : byI (yB Z k) = nI 10 := g2
          rw [byI_eq (bl k) (by omega)] at g2
          rw [e9]
          exact nx (by rw [g2]; rfl)
  exact blank _ e w rfl le (ma_rf w) he rfl
theorem m_nxt (hd : 3 ≤ d) (h : cm w Z a) (hQ : ∀ w', ma w w' → cm w' Z (yN Z a) → R w') : qCall (some s) d 221 [.ref 72] w (qQv R) :=
  m_nextToken hd h.cc h.en (yT_b h.la h.cc.byt).2.2.1 hQ
theorem cm.b (h : cm w Z a) : (yT Z a).2.2 ≤ 300 ∧ (yT Z a).1 ≤ 62 ∧ (yT Z a).2.1 ≤ 10000 ∧ yN Z a ≤ 300 := by
  have := yT_b h.la h.cc.byt
  have := h.cc.l3
  omega
theorem cm.is (h : cm w Z a) {j : Nat} (hj : j ≤ 62) : (w.1 72 11 = nI j) ↔ (yT Z a).1 = j := by
  have b := h.b
  rw [h.tok, nI_eq (by omega) (by omega)]
theorem m_isWord {k : Nat} {y : Int64} (hd : 1 ≤ d) (h : cm w Z a) (h1 : 1 ≤ k) (h2 : k ≤ 15) (ey : y = lN (pkW k)) (hQ : Q (tI (decide ((yT Z a).1 = 2 ∧ (yT Z a).2.1 = k))) w) : qCall (some s) d 229 [.ref 72, .long y] w (qQi Q) := by
  obtain ⟨d, rfl, -⟩ := dS hd
  refine A_Mo_isWord ?_
  rw [show (2 : Int32) = nI 2 from rfl, h.is (by omega), lg_eq, ey]
  refine ⟨fun g => ?_, fun g => ?_⟩
  · rw [decide_eq_false (fun q => g q.1)] at hQ; exact hQ
  · rw [h.wrd g k h1 h2]
    refine ⟨fun g2 => ?_, fun g2 => ?_⟩
    · rw [decide_eq_false (fun q => g2 q.2)] at hQ; exact hQ
    · rw [decide_eq_true ⟨g, g2⟩] at hQ; exact hQ
def W3 (a b c : Int32) : Int64 := (qLshl ((qLshl (Int32.toInt64 a) (8 : Int32)) ||| (Int32.toInt64 b)) (8 : Int32)) ||| (Int32.toInt64 c)
def W4 (a b c e : Int32) : Int64 := (qLshl (W3 a b c) (8 : Int32)) ||| (Int32.toInt64 e)
def W5 (a b c e f : Int32) : Int64 := (qLshl ((qLshl (W3 a b c) (8 : Int32)) ||| (Int32.toInt64 e)) (8 : Int32)) ||| (Int32.toInt64 f)
def W6 (a b c e f g : Int32) : Int64 := (qLshl (W5 a b c e f) (8 : Int32)) ||| (Int32.toInt64 g)
theorem m_w3 {a b c : Int32} (hd : 1 ≤ d) (hQ : QL (W3 a b c) w) : qCall (some s) d 228 [.int a, .int b, .int c] w (qQl QL) := by
  obtain ⟨d, rfl, -⟩ := dS hd
  exact A_Mo_w3 hQ
theorem m_w4 {a b c e : Int32} (hd : 2 ≤ d) (hQ : QL (W4 a b c e) w) : qCall (some s) d 227 [.int a, .int b, .int c, .int e] w (qQl QL) := by
  obtain ⟨d, rfl, hd1⟩ := dS hd
  exact A_Mo_w4 (m_w3 hd1 hQ)
theorem m_w5 {a b c e f : Int32} (hd : 2 ≤ d) (hQ : QL (W5 a b c e f) w) : qCall (some s) d 230 [.int a, .int b, .int c, .int e, .int f] w (qQl QL) := by
  obtain ⟨d, rfl, hd1⟩ := dS hd
  exact A_Mo_w5 (m_w3 hd1 hQ)
theorem m_w6 {a b c e f g : Int32} (hd : 3 ≤ d) (hQ : QL (W6 a b c e f g) w) : qCall (some s) d 231 [.int a, .int b, .int c, .int e, .int f, .int g] w (qQl QL) := by
  obtain ⟨d, rfl, hd1⟩ := dS hd
  exact A_Mo_w6 (m_w5 hd1 hQ)
theorem W_1 : W4 98 97 114 115 = lN (pkW 1) := by decide +kernel
theorem W_2 : W5 119 111 114 116 104 = lN (pkW 2) := by decide +kernel
theorem W_3 : W6 112 101 114 115 111 110 = lN (pkW 3) := by decide +kernel
theorem W_4 : W4 110 101 97 114 = lN (pkW 4) := by decide +kernel
theorem W_5 : W4 102 114 111 109 = lN (pkW 5) := by decide +kernel
theorem W_6 : W5 99 108 111 99 107 = lN (pkW 6) := by decide +kernel
theorem W_7 : W6 110 117 109 98 101 114 = lN (pkW 7) := by decide +kernel
theorem W_8 : W5 102 105 114 115 116 = lN (pkW 8) := by decide +kernel
theorem W_9 : W3 119 104 111 = lN (pkW 9) := by decide +kernel
theorem W_10 : W3 103 111 116 = lN (pkW 10) := by decide +kernel
theorem W_11 : W5 97 115 107 101 100 = lN (pkW 11) := by decide +kernel
theorem W_12 : W5 104 111 117 114 115 = lN (pkW 12) := by decide +kernel
theorem W_13 : W3 110 111 116 = lN (pkW 13) := by decide +kernel
theorem W_14 : W3 97 110 100 = lN (pkW 14) := by decide +kernel
theorem W_15 : (28530 : Int64) = lN (pkW 15) := by decide +kernel
theorem m_nameOf (hd : 4 ≤ d) (h : cm w Z a) (hQ : Q (yNm (yT Z a)) w) : qCall (some s) d 243 [.ref 72] w (qQi Q) := by
  obtain ⟨d, rfl, hd1⟩ := dS hd
  refine A_Mo_nameOf ?_
  rw [show (2 : Int32) = nI 2 from rfl, h.is (by omega)]
  refine ⟨fun t2 => ?_, fun g => ?_⟩
  · have yes : ∀ k, 6 ≤ k → k ≤ 12 → (yT Z a).2.1 = k → Q (nI (k - 6)) w := by
      intro k h6 h12 g
      have e : yNm (yT Z a) = nI (k - 6) := by unfold yNm; rw [if_pos ⟨t2, by omega, by omega⟩, g]
      rw [e] at hQ; exact hQ
    have wr := fun k h1 h2 => h.wrd t2 k h1 h2
    refine m_w5 (by omega) ?_
    rw [lg_eq, W_6, wr 6 (by omega) (by omega)]
    refine ⟨fun g6 => m_w6 (by omega) ?_, fun g => yes 6 (by omega) (by omega) g⟩
    rw [lg_eq, W_7, wr 7 (by omega) (by omega)]
    refine ⟨fun g7 => m_w5 (by omega) ?_, fun g => yes 7 (by omega) (by omega) g⟩
    rw [lg_eq, W_8, wr 8 (by omega) (by omega)]
    refine ⟨fun g8 => m_w3 (by omega) ?_, fun g => yes 8 (by omega) (by omega) g⟩
    rw [lg_eq, W_9, wr 9 (by omega) (by omega)]
    refine ⟨fun g9 => m_w3 (by omega) ?_, fun g => yes 9 (by omega) (by omega) g⟩
    rw [lg_eq, W_10, wr 10 (by omega) (by omega)]
    refine ⟨fun g10 => m_w5 (by omega) ?_, fun g => yes 10 (by omega) (by omega) g⟩
    rw [lg_eq, W_11, wr 11 (by omega) (by omega)]
    refine ⟨fun g11 => m_w5 (by omega) ?_, fun g => yes 11 (by omega) (by omega) g⟩
    rw [lg_eq, W_12, wr 12 (by omega) (by omega)]
    refine ⟨fun g12 => ?_, fun g => yes 12 (by omega) (by omega) g⟩
    have e : yNm (yT Z a) = -1 := by unfold yNm; rw [if_neg (by omega)]
    rw [e] at hQ; exact hQ
  · have e : yNm (yT Z a) = -1 := by unfold yNm; rw [if_neg (fun q => g q.1)]
    rw [e] at hQ; exact hQ
theorem m_sortOf (hd : 4 ≤ d) (h : cm w Z a) (hQ : Q (nI (yKd (yT Z a))) w) : qCall (some s) d 226 [.ref 72] w (qQi Q) := by
  obtain ⟨d, rfl, hd1⟩ := dS hd
  have yes : ∀ k, 1 ≤ k → k ≤ 4 → decide ((yT Z a).1 = 2 ∧ (yT Z a).2.1 = k) = true → Q (nI k) w := by
    intro k h6 h12 g
    have g := of_decide_eq_true g
    have e : yKd (yT Z a) = k := by unfold yKd; rw [if_pos ⟨g.1, by omega⟩, g.2]
    rw [e] at hQ; exact hQ
  refine A_Mo_sortOf (m_w4 (by omega) (m_isWord (k := 1) (by omega) h (by omega) (by omega) W_1 (tI_b (fun g => yes 1 (by omega) (by omega) g) (fun g1 => m_w5 (by omega) (m_isWord (k := 2) (by omega) h (by omega) (by omega) W_2 (tI_b (fun g => yes 2 (by omega) (by omega) g) (fun g2 => m_w6 (by omega) (m_isWord (k := 3) (by omega) h (by omega) (by omega) W_3 (tI_b (fun g => yes 3 (by omega) (by omega) g) (fun g3 => m_w4 (by omega) (m_isWord (k := 4) (by omega) h (by omega) (by omega) W_4 (tI_b (fun g => yes 4 (by omega) (by omega) g) (fun g4 => ?_)))))))))))))
  have g1 := of_decide_eq_false g1
  have g2 := of_decide_eq_false g2
  have g3 := of_decide_eq_false g3
  have g4 := of_decide_eq_false g4
  have e : yKd (yT Z a) = 0 := by unfold yKd; split <;> omega
  rw [e] at hQ; exact hQ
theorem m_compareOf (hd : 1 ≤ d) (h : cm w Z a) (hy : ¬ opC (yT Z a) = 0 → Q (nI (opC (yT Z a))) w) (hn : opC (yT Z a) = 0 → Q (-1) w) : qCall (some s) d 247 [.ref 72] w (qQi Q) := by
  obtain ⟨d, rfl, -⟩ := dS hd
  refine A_Mo_compareOf ?_
  rw [show (60 : Int32) = nI 60 from rfl, show (4 : Int32) = nI 4 from rfl, show (62 : Int32) = nI 62 from rfl, show (5 : Int32) = nI 5 from rfl, show (61 : Int32) = nI 61 from rfl, show (35 : Int32) = nI 35 from rfl, h.is (by omega), h.is (by omega), h.is (by omega), h.is (by omega), h.is (by omega), h.is (by omega)]
  unfold opC at hy hn
  refine ⟨fun g1 => ⟨fun g2 => ⟨fun g3 => ⟨fun g4 => ⟨fun g5 => ⟨fun g6 => ?_, fun g => ?_⟩, fun g => ?_⟩, fun g => ?_⟩, fun g => ?_⟩, fun g => ?_⟩, fun g => ?_⟩
  · exact hn (by rw [if_neg g1, if_neg g2, if_neg g3, if_neg g4, if_neg g5, if_neg g6])
  · rw [g] at hy; exact hy (by decide)
  · rw [g] at hy; exact hy (by decide)
  · rw [g] at hy; exact hy (by decide)
  · rw [g] at hy; exact hy (by decide)
  · rw [g] at hy; exact hy (by decide)
  · rw [g] at hy; exact hy (by decide)
end LexM
