/-! text: the reference: what is asked, clauses, the call. -/
section TextM
variable {s : Nat × (Nat → Int32)} {d : Nat} {w w0 : qW} {Q : Int32 → qW → Prop} {R : qW → Prop} {Z : vZ} {a x0 op : Nat} {b : Bool} {cs : xSt} {cl : List xC} {N K : vS} {T : Nat → vT}
def rp20 (k : Nat) : xSt := List.replicate k (20, 0)
theorem m_asksAt (hd : 10 ≤ d) : ∀ f k (cs : xSt) a w, f + k = 8 → pq w Z x0 b a cs k → km x0 w0 w → cs.length + k ≤ a → (∀ C r w', xAsk Z b f a = .ok (C, r) → km x0 w0 w' → pm w' Z x0 b r (cs ++ C ++ rp20 k) 0 [] → Q 0 w') → (∀ e w', xAsk Z b f a = .error e → km x0 w0 w' → erm w' e → Q (nI e.1) w') → qAt s d c_Mo_asks (qQi Q) 2 [some (.ref 72), some (.int (nI k)), none, none, none] [] w := by
  intro f
  -- behind the nots
  have cmp : ∀ f k (cs : xSt) a w, f + k = 8 → pq w Z x0 b a cs k → km x0 w0 w → cs.length + k ≤ a → (∀ C r w', xCp Z b f a = .ok (C, r) → km x0 w0 w' → pm w' Z x0 b r (cs ++ C ++ rp20 k) 0 [] → Q 0 w') → (∀ e w', xCp Z b f a = .error e → km x0 w0 w' → erm w' e → Q (nI e.1) w') → qCall (some s) d 234 [.ref 72] w (qQi fun x6 w5 =>
          (x6 = 0 →
            qCall (some s) d 247 [.ref 72] w5 (qQi fun x8 w7 =>
              (0 ≤ x8 →
                qCall (some s) d 221 [.ref 72] w7 (qQv fun w9 =>
                  qCall (some s) d 234 [.ref 72] w9 (qQi fun x11 w10 =>
                    (x11 = 0 →
                      qCall (some s) d 239 [.ref 72, .int x8, .int (0 : Int32)] w10 (qQv fun w12 =>
                        qAt s d c_Mo_asks (qQi Q) 105 [some (.ref 72), some (.int (nI k)), none, none, some (.int (0 : Int32))] [] (qPutI w12 72 20 ((w12.1 72 20) - (nI k))))) ∧
                    (¬ x11 = 0 →
                      Q x11 w10)))) ∧
              (¬ 0 ≤ x8 →
                Q (1 : Int32) w7))) ∧
          (¬ x6 = 0 →
            Q x6 w5)) := by
    intro f k cs a w hfk h k0 hcs hy hn
    have byt := h.cur.cc.byt
    have l3 := h.cur.cc.l3
    have sb := xSm_b byt (xOne_b (b := b) byt f)
    have e8 : 8 - f = k := by omega
    have ne : ∀ e : Nat × Nat, ∀ w' : qW, erm w' e → ¬ nI e.1 = (0 : Int32) := fun e w' x => nI_pos0 x.2.1 (by have := x.2.2; omega)
    unfold xCp at hy hn
    refine m_summed (f := f) (by omega) (by omega) (by rw [e8]; exact h) (by omega) (fun C r1 w3 e3 k3 p3 => b0 ?_) (fun e w3 e3 k3 x3 => ⟨fun z => absurd z (ne e w3 x3), fun _ => hn e w3 (by rw [e3]) (km_tr k0 k3) x3⟩)
    rw [e3] at hy hn
    dsimp only at hy hn
    have b3 := sb _ h.cur.la C r1 e3
    have tb := yT_b p3.cur.la byt
    have l1 : (cs ++ C).length = cs.length + C.length := List.length_append
    rw [e8] at p3
    refine m_compareOf (by omega) p3.cur (fun g => ?_) (fun g => ?_)
    · rw [if_neg g] at hy hn
      have oc := opC_r _ g
      have t0 := tb.2.2.2.1 (fun z => g (opC_0 _ z))
      refine ⟨fun _ => m_nxt (by omega) p3.cur (fun w4 k4 u4 => m_summed (f := f) (by omega) (by omega) (by rw [e8]; exact p3.pq.ma k4 u4) (by omega) (fun C2 r2 w5 e5 k5 p5 => b0 ?_) (fun e w5 e5 k5 x5 => ⟨fun z => absurd z (ne e w5 x5), fun _ => hn e w5 (by rw [e5]) (km_tr k0 (km_tr k3 (km_tr (km_ma k4) k5))) x5⟩)), fun z => absurd (Int32.not_lt.mp (nI_nn (a := opC (yT Z r1)) (by omega))) z⟩
      rw [e5] at hy
      rw [e8] at p5
      have b5 := sb _ tb.2.2.1 C2 r2 e5
      have l2 : (cs ++ C ++ C2).length = cs.length + C.length + C2.length := by rw [List.length_append, l1]
      refine m_emit (x := (opC (yT Z r1), 0)) (by omega) p5 (by omega) rfl rfl (fun w6 k6 _ p6 => ?_)
      rw [p6.ope, nI_sub' (Nat.le_refl k), Nat.sub_self]
      have p7 := p6.opn (v := 0)
      have lb : ∀ j, j ≤ k → (cs ++ C ++ C2 ++ [(opC (yT Z r1), 0)] ++ rp20 j).length ≤ 300 := by
        intro j hj
        have e : (rp20 j).length = j := List.length_replicate
        rw [List.length_append, List.length_append, l2, e]
        show _ + 1 + _ ≤ _
        omega
      refine lpU (i := 0) (n := k) (I := fun j w' => km x0 w0 w' ∧ pm w' Z x0 b r2 (cs ++ C ++ C2 ++ [(opC (yT Z r1), 0)] ++ rp20 j) 0 []) (P := fun j w' => qAt s d c_Mo_asks (qQi Q) 105 [some (.ref 72), some (.int (nI k)), none, none, some (.int (nI j))] [] w') ?_ ?_ (Nat.zero_le _) ⟨km_tr k0 (km_tr k3 (km_tr (km_ma k4) (km_tr k5 (km_tr k6 (km_p (by omega)))))), by show pm _ Z x0 b r2 (_ ++ []) 0 []; rw [List.append_nil]; exact p7⟩
      · intro w8 ⟨k8, p8⟩
        refine A_Mo_asks_105 ⟨fun _ => hy _ _ w8 rfl k8 ?_, fun z => absurd (Int32.le_refl _) z⟩
        rw [show cs ++ (C ++ (C2 ++ [(opC (yT Z r1), 0)])) ++ rp20 k = cs ++ C ++ C2 ++ [(opC (yT Z r1), 0)] ++ rp20 k by simp only [List.append_assoc]]
        exact p8
      · intro j w8 hj ⟨k8, p8⟩ nxt
        have lj := lb (j + 1) (by omega)
        have er : rp20 (j + 1) = rp20 j ++ [(20, 0)] := List.replicate_succ'
        rw [er, ← List.append_assoc, List.length_append] at lj
        have lj : (cs ++ C ++ C2 ++ [(opC (yT Z r1), 0)] ++ rp20 j).length + 1 ≤ 300 := lj
        refine A_Mo_asks_105 ?_
        rw [nI_leI (by omega) (by omega), nI_1]
        refine ⟨fun z => by omega, fun _ => m_emit (x := (20, 0)) (by omega) p8 (by omega) rfl rfl (fun w9 k9 _ p9 => nxt w9 ⟨km_tr k8 k9, ?_⟩)⟩
        rw [er, ← List.append_assoc]
        exact p9
    · rw [if_pos g] at hn
      exact ⟨fun z => absurd z (by decide), fun _ => hn _ w3 rfl (km_tr k0 k3) (erm_k p3.cur.pl (by decide) (by decide))⟩
  induction f with
  | zero =>
    intro k cs a w hfk h k0 hcs hy hn
    have u := h.cur
    unfold xAsk at hy hn
    refine A_Mo_asks_2 (m_w3 (by omega) (m_isWord (k := 13) (by omega) u (by omega) (by omega) W_13 (tI_b (fun g => ?_) (fun g => ?_))))
    · have g := of_decide_eq_true g
      rw [if_pos g] at hn
      have e8 : k = 8 := by omega
      rw [h.ope, e8]
      exact ⟨fun z => absurd rfl z, fun _ => hn _ w rfl k0 (erm_k u.pl (by decide) (by decide))⟩
    · have g := of_decide_eq_false g
      rw [if_neg g] at hy hn
      exact cmp 0 k cs a w hfk h k0 hcs hy hn
  | succ f ih =>
    intro k cs a w hfk h k0 hcs hy hn
    have u := h.cur
    have tb := yT_b u.la u.cc.byt
    unfold xAsk at hy hn
    refine A_Mo_asks_2 (m_w3 (by omega) (m_isWord (k := 13) (by omega) u (by omega) (by omega) W_13 (tI_b (fun g => ?_) (fun g => ?_))))
    · have g := of_decide_eq_true g
      rw [if_pos g] at hy hn
      have t0 := tb.2.2.2.1 (by omega)
      rw [h.ope, show (8 : Int32) = nI 8 from rfl, nI_eq (by omega) (by omega), nI_1]
      refine ⟨fun _ => m_nxt (by omega) (h.opn (v := k + 1)).cur (fun w2 k2 u2 => ?_), fun z => by omega⟩
      refine ih (k + 1) cs (yN Z a) w2 (by omega) ((h.opn (v := k + 1)).ma k2 u2) (km_tr k0 (km_tr (km_p (by omega)) (km_ma k2))) (by omega) (fun C r w3 e3 k3 p3 => ?_) (fun e w3 e3 k3 x3 => hn e w3 (by rw [e3]) k3 x3)
      rw [e3] at hy
      refine hy _ _ w3 rfl k3 ?_
      have e5 : cs ++ C ++ rp20 (k + 1) = cs ++ (C ++ [(20, 0)]) ++ rp20 k := by unfold rp20; rw [List.replicate_succ]; simp only [List.append_assoc]; rfl
      rw [← e5]; exact p3
    · have g := of_decide_eq_false g
      rw [if_neg g] at hy hn
      exact cmp (f + 1) k cs a w hfk h k0 hcs hy hn
theorem m_asks (hd : 11 ≤ d) (h : pq w Z x0 b a cs 0) (hcs : cs.length ≤ a) (hy : ∀ C r w', xAsk Z b 8 a = .ok (C, r) → km x0 w w' → pm w' Z x0 b r (cs ++ C) 0 [] → Q 0 w') (hn : ∀ e w', xAsk Z b 8 a = .error e → km x0 w w' → erm w' e → Q (nI e.1) w') : qCall (some s) d 246 [.ref 72] w (qQi Q) := by
  obtain ⟨d, rfl, hd1⟩ := dS hd
  refine A_Mo_asks (m_asksAt (w0 := w) (by omega) 8 0 cs a w rfl h (km_rf _ _) hcs (fun C r w' e k p => hy C r w' e k ?_) hn)
  have p : pm w' Z x0 b r (cs ++ C ++ []) 0 [] := p
  rw [List.append_nil] at p
  exact p
theorem m_either (hd : 13 ≤ d) (h : pq w Z x0 b a cs 0) (hcs : cs.length ≤ a) (hy : ∀ C r w', xEi Z b a = .ok (C, r) → km x0 w w' → pm w' Z x0 b r (cs ++ C) 0 [] → Q 0 w') (hn : ∀ e w', xEi Z b a = .error e → km x0 w w' → erm w' e → Q (nI e.1) w') : qCall (some s) d 245 [.ref 72] w (qQi Q) := by
  obtain ⟨d, rfl, hd1⟩ := dS hd
  have byt := h.cur.cc.byt
  have l3 := h.cur.cc.l3
  have ab := fun a => xAsk_b (Z := Z) (b := b) byt 8 a
  have andb := xCh_b (op := opA) byt opA_0 ab
  have ne : ∀ e : Nat × Nat, ∀ w' : qW, erm w' e → ¬ nI e.1 = (0 : Int32) := fun e w' x => nI_pos0 x.2.1 (by have := x.2.2; omega)
  -- the word or, and what follows it
  have nx15 : ∀ r (w1 : qW), cm w1 Z r → ∀ (i1 i2 : Int32), (∀ is0 : Int32, is0 = tI (decide ((yT Z r).1 = 2 ∧ (yT Z r).2.1 = 15)) → qAt s d c_Mo_either (qQi Q) 73 [some (.ref 72), some (.int i1), some (.int i2), none, none, none] [.int is0] w1) → (¬ (w1.1 72 11) = (2 : Int32) → qAt s d c_Mo_either (qQi Q) 73 [some (.ref 72), some (.int i1), some (.int i2), none, none, none] [.int (0 : Int32)] w1) ∧ ((w1.1 72 11) = (2 : Int32) → (¬ (lg_cmp (w1.2.1 72 13) (28530 : Int64)) = 0 → qAt s d c_Mo_either (qQi Q) 73 [some (.ref 72), some (.int i1), some (.int i2), none, none, none] [.int (0 : Int32)] w1) ∧ ((lg_cmp (w1.2.1 72 13) (28530 : Int64)) = 0 → qAt s d c_Mo_either (qQi Q) 73 [some (.ref 72), some (.int i1), some (.int i2), none, none, none] [.int (1 : Int32)] w1)) := by
    intro r w1 u i1 i2 hq
    rw [show (2 : Int32) = nI 2 from rfl, u.is (by omega), lg_eq, W_15]
    refine ⟨fun g => hq _ (by rw [decide_eq_false (fun z => g z.1)]; rfl), fun g => ?_⟩
    rw [u.wrd g 15 (by omega) (by omega)]
    exact ⟨fun g2 => hq _ (by rw [decide_eq_false (fun z => g2 z.2)]; rfl), fun g2 => hq _ (by rw [decide_eq_true ⟨g, g2⟩]; rfl)⟩
  have tailA : ∀ (o : Bool) n i r (cs' : xSt) w1, i + n = 300 → 2 * i ≤ r → cs'.length ≤ r → km x0 w w1 → pm w1 Z x0 b r cs' 0 [] → (∀ C r2 w', xCh Z (xAsk Z b 8) opA n r = .ok (C, r2) → km x0 w w' → pm w' Z x0 b r2 (cs' ++ C) 0 [] → qAt s d c_Mo_either (qQi Q) 73 [some (.ref 72), some (.int (0 : Int32)), some (.int (tI o)), none, none, none] [.int (tI (decide ((yT Z r2).1 = 2 ∧ (yT Z r2).2.1 = 15)))] w') → (∀ e w', xCh Z (xAsk Z b 8) opA n r = .error e → km x0 w w' → erm w' e → Q (nI e.1) w') → qAt s d c_Mo_either (qQi Q) 35 [some (.ref 72), none, some (.int (tI o)), none, none, none] [] w1 := by
    intro o n
    induction n with
    | zero =>
      intro i r cs' w1 hi hr hl1 k1 p1
      have := p1.cur.la
      omega
    | succ n ih =>
      intro i r cs' w1 hi hr hl1 k1 p1 hy1 hn1
      have u1 := p1.cur
      have ur := u1.la
      have tb := yT_b u1.la byt
      refine A_Mo_either_35 (m_w3 (by omega) (m_isWord (k := 14) (by omega) u1 (by omega) (by omega) W_14 ?_))
      refine nx15 r w1 u1 _ _ (fun is0 ei => ?_)
      cases g : decide ((yT Z r).1 = 2 ∧ (yT Z r).2.1 = 14) with
      | true =>
        have g := of_decide_eq_true g
        have v1 := opA_1 g
        have t0 := tb.2.2.2.1 (by omega)
        refine A_Mo_either_73 ⟨fun _ => A_Mo_either_93 ⟨fun _ => ⟨fun z => absurd z (by decide), fun _ => m_nxt (by omega) u1 (fun w2 k2 u2 => ?_)⟩, fun z => absurd z (by decide)⟩, fun z => absurd z (by decide)⟩
        refine A_Mo_either_6 ⟨fun z => absurd z (by decide), fun _ => m_asks (by omega) (p1.pq.ma k2 u2) (by omega) (fun C r1 w3 e3 k3 p3 => b0 ⟨fun z => absurd z (by decide), fun _ => ?_⟩) (fun e w3 e3 k3 x3 => ⟨fun z => absurd z (ne e w3 x3), fun _ => hn1 e w3 (xCh_ee v1 (by decide) e3) (km_tr k1 (km_tr (km_ma k2) k3)) x3⟩)⟩
        have kk := km_tr k1 (km_tr (km_ma k2) k3)
        have b3 := ab _ tb.2.2.1 C r1 e3
        have l1 : (cs' ++ C).length = cs'.length + C.length := List.length_append
        refine m_emit (x := (21, 0)) (by omega) p3 (by omega) rfl rfl (fun w5 k5 _ p5 => ?_)
        refine ih (i + 1) r1 _ w5 (by omega) (by omega) (by rw [List.length_append, l1]; show _ + 1 ≤ _; omega) (km_tr kk k5) p5 (fun C2 r2 w6 e6 k6 p6 => ?_) (fun e w6 e6 k6 x6 => hn1 e w6 (xCh_oe v1 (by decide) e3 e6) k6 x6)
        refine hy1 (C ++ (21, 0) :: C2) r2 w6 (xCh_oo v1 (by decide) e3 e6) k6 ?_
        rw [show cs' ++ (C ++ (21, 0) :: C2) = cs' ++ C ++ [(21, 0)] ++ C2 by simp]
        exact p6
      | false =>
        have g := of_decide_eq_false g
        rw [ei]
        refine hy1 [] r w1 (xCh_Z (opA_n g)) k1 ?_
        rw [List.append_nil]; exact p1
  have tailO : ∀ m j r (cs' : xSt) w1, j + m = 300 → 2 * j ≤ r → cs'.length ≤ r → km x0 w w1 → pm w1 Z x0 b r cs' 0 [] → (∀ C r2 w', xCh Z (xCn Z (xAsk Z b 8) opA) opO m r = .ok (C, r2) → km x0 w w' → pm w' Z x0 b r2 (cs' ++ C) 0 [] → Q 0 w') → (∀ e w', xCh Z (xCn Z (xAsk Z b 8) opA) opO m r = .error e → km x0 w w' → erm w' e → Q (nI e.1) w') → qAt s d c_Mo_either (qQi Q) 93 [some (.ref 72), some (.int (0 : Int32)), some (.int (tI (decide ((yT Z r).1 = 2 ∧ (yT Z r).2.1 = 15)))), none, none, some (.int (tI (decide ((yT Z r).1 = 2 ∧ (yT Z r).2.1 = 15))))] [] w1 := by
    intro m
    induction m with
    | zero =>
      intro j r cs' w1 hi hr hl1 k1 p1
      have := p1.cur.la
      omega
    | succ m ih =>
      intro j r cs' w1 hi hr hl1 k1 p1 hy1 hn1
      have u1 := p1.cur
      have ur := u1.la
      have tb := yT_b u1.la byt
      refine A_Mo_either_93 ⟨fun z => absurd rfl z, fun _ => ?_⟩
      cases g : decide ((yT Z r).1 = 2 ∧ (yT Z r).2.1 = 15) with
      | true =>
        have g := of_decide_eq_true g
        have v1 := opO_1 g
        have t0 := tb.2.2.2.1 (by omega)
        refine ⟨fun z => absurd z (by decide), fun _ => ⟨fun z => absurd z (by decide), fun _ => m_nxt (by omega) u1 (fun w2 k2 u2 => ?_)⟩⟩
        refine A_Mo_either_6 ⟨fun z => absurd z (by decide), fun _ => m_asks (by omega) (p1.pq.ma k2 u2) (by omega) (fun C r1 w3 e3 k3 p3 => b0 ⟨fun _ => ?_, fun z => absurd rfl z⟩) (fun e w3 e3 k3 x3 => ⟨fun z => absurd z (ne e w3 x3), fun _ => hn1 e w3 (xCh_ee v1 (by decide) (xCn_ee e3)) (km_tr k1 (km_tr (km_ma k2) k3)) x3⟩)⟩
        have kk := km_tr k1 (km_tr (km_ma k2) k3)
        have b3 := ab _ tb.2.2.1 C r1 e3
        have l1 : (cs' ++ C).length = cs'.length + C.length := List.length_append
        refine tailA true 300 0 r1 (cs' ++ C) w3 rfl (Nat.zero_le _) (by omega) kk p3 (fun C2 r2 w5 e5 k5 p5 => A_Mo_either_73 ⟨fun z => absurd rfl z, fun _ => ⟨fun z => absurd z (by decide), fun _ => ?_⟩⟩) (fun e w5 e5 k5 x5 => hn1 e w5 (xCh_ee v1 (by decide) (xCn_oe e3 e5)) k5 x5)
        have b5 := andb 300 r1 b3.2.2 C2 r2 e5
        have l2 : (cs' ++ C ++ C2).length = cs'.length + C.length + C2.length := by rw [List.length_append, l1]
        refine m_emit (x := (22, 0)) (by omega) p5 (by omega) rfl rfl (fun w6 k6 _ p6 => ?_)
        refine ih (j + 1) r2 _ w6 (by omega) (by omega) (by rw [List.length_append, l2]; show _ + 1 ≤ _; omega) (km_tr k5 k6) p6 (fun C3 r3 w7 e7 k7 p7 => ?_) (fun e w7 e7 k7 x7 => hn1 e w7 (xCh_oe v1 (by decide) (xCn_oo e3 e5) e7) k7 x7)
        refine hy1 (C ++ C2 ++ (22, 0) :: C3) r3 w7 (xCh_oo v1 (by decide) (xCn_oo e3 e5) e7) k7 ?_
        rw [show cs' ++ (C ++ C2 ++ (22, 0) :: C3) = cs' ++ C ++ C2 ++ [(22, 0)] ++ C3 by simp]
        exact p7
      | false =>
        have g := of_decide_eq_false g
        refine ⟨fun _ => ⟨fun _ => A_Mo_either_6 ⟨fun _ => hy1 [] r w1 (xCh_Z (opO_n g)) k1 ?_, fun z => absurd rfl z⟩, fun z => absurd rfl z⟩, fun z => absurd rfl z⟩
        rw [List.append_nil]; exact p1
  refine A_Mo_either (A_Mo_either_6 ⟨fun z => absurd z (by decide), fun _ => m_asks (by omega) h hcs (fun C r1 w3 e3 k3 p3 => b0 ⟨fun _ => ?_, fun z => absurd rfl z⟩) (fun e w3 e3 k3 x3 => ⟨fun z => absurd z (ne e w3 x3), fun _ => hn e w3 (xCn_ee (xCn_ee e3)) k3 x3⟩)⟩)
  have b3 := ab _ h.cur.la C r1 e3
  have l1 : (cs ++ C).length = cs.length + C.length := List.length_append
  refine tailA false 300 0 r1 (cs ++ C) w3 rfl (Nat.zero_le _) (by omega) k3 p3 (fun C2 r2 w5 e5 k5 p5 => A_Mo_either_73 ⟨fun z => absurd rfl z, fun _ => ⟨fun _ => ?_, fun z => absurd rfl z⟩⟩) (fun e w5 e5 k5 x5 => hn e w5 (xCn_ee (xCn_oe e3 e5)) k5 x5)
  have b5 := andb 300 r1 b3.2.2 C2 r2 e5
  have l2 : (cs ++ C ++ C2).length = cs.length + C.length + C2.length := by rw [List.length_append, l1]
  refine tailO 300 0 r2 _ w5 rfl (Nat.zero_le _) (by omega) k5 p5 (fun C3 r3 w7 e7 k7 p7 => hy (C ++ C2 ++ C3) r3 w7 (xCn_oo (xCn_oo e3 e5) e7) k7 ?_) (fun e w7 e7 k7 x7 => hn e w7 (xCn_oe (xCn_oo e3 e5) e7) k7 x7)
  rw [show cs ++ (C ++ C2 ++ C3) = cs ++ C ++ C2 ++ C3 by simp]
  exact p7
end TextM
