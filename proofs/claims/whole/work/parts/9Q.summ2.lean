/-! text: the reference's sums: what they read is what is asked. -/
section SumM2
variable {s : Nat × (Nat → Int32)} {d : Nat} {w w0 : qW} {Q : Int32 → qW → Prop} {R : qW → Prop} {Z : vZ} {a x0 op : Nat} {b : Bool} {cs : xSt} {St : List Nat}
theorem qv_mono {m : Nat} {v : List Value} {P P' : qW → Prop} (h : ∀ u, P u → P' u) (hc : qCall (some s) d m v w (qQv P)) : qCall (some s) d m v w (qQv P') := qCall_mono d m v w (qQv P) (qQv P') ⟨fun _ _ q => q, fun _ _ q => q, fun u => h u, fun _ _ q => q⟩ hc
theorem qi_mono {m : Nat} {v : List Value} {P P' : Int32 → qW → Prop} (h : ∀ x u, P x u → P' x u) (hc : qCall (some s) d m v w (qQi P)) : qCall (some s) d m v w (qQi P') := qCall_mono d m v w (qQi P) (qQi P') ⟨fun x u => h x u, fun _ _ q => q, fun _ q => q, fun _ _ q => q⟩ hc
def erm (w : qW) (e : Nat × Nat) : Prop := w.1 72 10 = nI e.2 ∧ 1 ≤ e.1 ∧ e.1 ≤ 6
def h10 (s : Nat × (Nat → Int32)) (d : Nat) (Q : Int32 → qW → Prop) (w : qW) : Prop := qAt s d c_Mo_summed (qQi Q) 10 [some (.ref 72), none] [] w
theorem m_h0 (h : w.1 72 21 = nI 0) (hq : qCall (some s) d 242 [.ref 72] w (qQi fun x2 w1 => (x2 = 0 → h10 s d Q w1) ∧ (¬ x2 = 0 → Q x2 w1))) : h10 s d Q w :=
  A_Mo_summed_10 ⟨fun _ => A_Mo_summed_24 ⟨fun _ => hq, fun g => absurd h g⟩, fun g => absurd h g⟩
theorem m_h1 (h : w.1 72 21 = nI 1) (hg : qCall (some s) d 235 [.ref 72] w (qQi fun x2 w1 => (x2 = 0 → qCall (some s) d 238 [.ref 72, .int (3 : Int32)] w1 (qQv fun w3 => ((w3.1 72 19) ≤ 0 → Q (0 : Int32) w3) ∧ (¬ (w3.1 72 19) ≤ 0 → Q (1 : Int32) w3))) ∧ (¬ x2 = 0 → w1.1 72 21 = nI 1 ∧ qCall (some s) d 237 [.ref 72] w1 (qQi fun x4 w3 => (x4 = 0 → h10 s d Q w3) ∧ (¬ x4 = 0 → Q x4 w3))))) : h10 s d Q w := by
  have n0 : ¬ nI 1 = (0 : Int32) := by decide
  refine A_Mo_summed_10 ⟨fun g => absurd g (by rw [h]; exact n0), fun _ => ?_⟩
  refine qi_mono (fun x v hv => ?_) hg
  exact ⟨hv.1, fun g => A_Mo_summed_24 ⟨fun z => absurd z (by rw [(hv.2 g).1]; exact n0), fun _ => (hv.2 g).2⟩⟩
theorem m_goesOn (hd : 2 ≤ d) (h : pm w Z x0 b a cs op St) (h4 : ∀ o, o ∈ St → o ≤ 40) (hl : St.length ≤ 100) (hy : (¬ opS (yT Z a) = 0 ∨ ¬ opP (yT Z a) = 0 ∨ ((yT Z a).1 = 41 ∧ 40 ∈ St)) → Q 1 w) (hn : opS (yT Z a) = 0 → opP (yT Z a) = 0 → ((yT Z a).1 = 41 → ¬ 40 ∈ St) → Q 0 w) : qCall (some s) d 235 [.ref 72] w (qQi Q) := by
  obtain ⟨d, rfl, hd1⟩ := dS hd
  have u := h.cur
  refine A_Mo_goesOn ?_
  rw [show (43 : Int32) = nI 43 from rfl, show (45 : Int32) = nI 45 from rfl, show (42 : Int32) = nI 42 from rfl, show (47 : Int32) = nI 47 from rfl, show (37 : Int32) = nI 37 from rfl, show (41 : Int32) = nI 41 from rfl, u.is (by omega), u.is (by omega), u.is (by omega), u.is (by omega), u.is (by omega), u.is (by omega)]
  have sS : ∀ k, k = 43 ∨ k = 45 → (yT Z a).1 = k → Q 1 w := fun k hk e => hy (Or.inl (by unfold opS; rcases hk with rfl | rfl <;> (rw [e]; decide)))
  have sP : ∀ k, k = 42 ∨ k = 47 ∨ k = 37 → (yT Z a).1 = k → Q 1 w := fun k hk e => hy (Or.inr (Or.inl (by unfold opP; rcases hk with rfl | rfl | rfl <;> (rw [e]; decide))))
  refine ⟨fun g => sS 43 (Or.inl rfl) g, fun g1 => ⟨fun g => sS 45 (Or.inr rfl) g, fun g2 => ⟨fun g => sP 42 (Or.inl rfl) g, fun g3 => ⟨fun g => sP 47 (Or.inr (Or.inl rfl)) g, fun g4 => ⟨fun g => sP 37 (Or.inr (Or.inr rfl)) g, fun g5 => ?_⟩⟩⟩⟩⟩
  have z1 : opS (yT Z a) = 0 := by unfold opS; rw [if_neg g1, if_neg g2]
  have z2 : opP (yT Z a) = 0 := by unfold opP; rw [if_neg g3, if_neg g4, if_neg g5]
  refine ⟨fun g => hn z1 z2 (fun q => absurd q g), fun g => m_hasParen (by omega) h h4 hl (tI_b (fun q => ?_) (fun q => ?_))⟩
  · exact hy (Or.inr (Or.inr ⟨g, of_decide_eq_true q⟩))
  · exact hn z1 z2 (fun _ => of_decide_eq_false q)
theorem m_leaf {o : xR} (hd : 6 ≤ d) (h : pm w Z x0 b a cs op St) (h4 : ∀ o, o ∈ St → o ≤ 40) (hl : St.length ≤ 100) (ha : cs.length + St.length ≤ a) (hm : stM St ≤ op) (hop : op ≤ 8) (ht : (yT Z a).1 = 1 ∨ (yT Z a).1 = 2) (hy : ∀ C r w', xLf Z b a o = .ok (C, r) → km x0 w w' → w'.1 72 21 = nI 1 → pm w' Z x0 b r (cs ++ C ++ mn2 (stM St)) (op - stM St) (St.drop (stM St)) → h10 s d Q w') (hn : ∀ e w', xLf Z b a o = .error e → km x0 w w' → erm w' e → Q (nI e.1) w') : qCall (some s) d 242 [.ref 72] w (qQi fun x2 w1 => (x2 = 0 → h10 s d Q w1) ∧ (¬ x2 = 0 → Q x2 w1)) := by
  obtain ⟨d, rfl, hd1⟩ := dS hd
  have u := h.cur
  have tb := yT_b u.la u.cc.byt
  have l3 := u.cc.l3
  have t0 := tb.2.2.2.1 (by omega)
  have sl := stM_le St
  have bad : ∀ f, xLf Z b a o = xF Z f a → 1 ≤ f → f ≤ 6 → ∀ i : Int32, i = nI f → (i = 0 → h10 s (d + 1) Q w) ∧ (¬ i = 0 → Q i w) := by
    intro f ef h1 h2 i ei
    subst ei
    exact ⟨fun z => absurd z (nI_pos0 h1 (by omega)), fun _ => hn _ w ef (km_rf _ _) ⟨u.pl, h1, h2⟩⟩
  have go : ∀ x i1 i2, xLf Z b a o = .ok ([x], yN Z a) → i1 = nI x.1 → i2 = nI x.2 → qCall (some s) d 239 [.ref 72, .int i1, .int i2] w (qQv fun w12 => qCall (some s) d 221 [.ref 72] w12 (qQv fun w13 => qCall (some s) d 241 [.ref 72] w13 (qQv fun w14 => ((0 : Int32) = 0 → h10 s (d + 1) Q w14) ∧ (¬ (0 : Int32) = 0 → Q 0 w14)))) := by
    intro x i1 i2 ex e1 e2
    refine m_emit (x := x) (by omega) h (by omega) e1 e2 (fun w2 k2 _ p2 => m_nxt (by omega) p2.cur (fun w3 k3 u3 => ?_))
    have p3 := p2.ma k3 u3
    refine m_whole (by omega) St (cs ++ [x]) op w3 p3 h4 hl hm hop (by rw [List.length_append]; show cs.length + 1 + _ ≤ _; omega) (fun w4 k4 e4 p4 => b0 (hy _ _ w4 ex (km_tr k2 (km_tr (km_ma k3) k4)) e4 p4))
  refine A_Mo_beginOne ?_
  rw [show (1 : Int32) = nI 1 from rfl, u.is (by omega)]
  refine ⟨fun t1 => ?_, fun t1 => ?_⟩
  · have t2 : (yT Z a).1 = 2 := by omega
    refine m_nameOf (by omega) u ?_
    unfold yNm
    by_cases q : 6 ≤ (yT Z a).2.1 ∧ (yT Z a).2.1 ≤ 12
    · have e : (if (yT Z a).1 = 2 ∧ 6 ≤ (yT Z a).2.1 ∧ (yT Z a).2.1 ≤ 12 then nI ((yT Z a).2.1 - 6) else -1) = nI ((yT Z a).2.1 - 6) := if_pos ⟨t2, q⟩
      have em : yNm (yT Z a) = nI ((yT Z a).2.1 - 6) := e
      rw [e]
      refine ⟨fun g => absurd g (nI_nn (by omega)), fun _ => m_nameOf (by omega) u ?_⟩
      rw [em]
      obtain ⟨d, rfl, hd2⟩ := dS (k := 4) (d := d) (by omega)
      refine A_Mo_isBarred ?_
      rw [show (3 : Int32) = nI 3 from rfl, nI_leI (by omega) (by omega)]
      have fin : ∀ is0 : Int32, is0 = tI (decide (3 < (yT Z a).2.1 - 6)) → qAt s d c_Mo_isBarred (qQi fun x6 w5 =>
            (x6 = 0 →
              qCall (some s) (d + 1) 243 [.ref 72] w5 (qQi fun x8 w7 =>
                qCall (some s) (d + 1) 239 [.ref 72, .int (nI 1), .int x8] w7 (qQv fun w9 =>
                  qCall (some s) (d + 1) 221 [.ref 72] w9 (qQv fun w10 =>
                    qCall (some s) (d + 1) 241 [.ref 72] w10 (qQv fun w11 =>
                      ((0 : Int32) = 0 → h10 s (d + 1 + 1) Q w11) ∧ (¬ (0 : Int32) = 0 → Q 0 w11)))))) ∧
            (¬ x6 = 0 →
              ((5 : Int32) = 0 → h10 s (d + 1 + 1) Q w5) ∧ (¬ (5 : Int32) = 0 → Q 5 w5))) 10 [some (.ref 72), none] [.int is0] w := by
        intro is0 ei
        have ok : b = decide ((yT Z a).2.1 - 6 < 4) → ((0 : Int32) = 0 →
              qCall (some s) (d + 1) 243 [.ref 72] w (qQi fun x8 w7 =>
                qCall (some s) (d + 1) 239 [.ref 72, .int (nI 1), .int x8] w7 (qQv fun w9 =>
                  qCall (some s) (d + 1) 221 [.ref 72] w9 (qQv fun w10 =>
                    qCall (some s) (d + 1) 241 [.ref 72] w10 (qQv fun w11 =>
                      ((0 : Int32) = 0 → h10 s (d + 1 + 1) Q w11) ∧ (¬ (0 : Int32) = 0 → Q 0 w11)))))) ∧
            (¬ (0 : Int32) = 0 →
              ((5 : Int32) = 0 → h10 s (d + 1 + 1) Q w) ∧ (¬ (5 : Int32) = 0 → Q 5 w)) := by
          intro eb
          refine ⟨fun _ => m_nameOf (by omega) u ?_, fun z => absurd rfl z⟩
          rw [em]
          refine go (1, (yT Z a).2.1 - 6) _ _ ?_ rfl rfl
          unfold xLf; rw [if_neg t1, if_pos t2, if_pos q, if_pos eb]
        have no : ¬ b = decide ((yT Z a).2.1 - 6 < 4) → ((1 : Int32) = 0 →
              qCall (some s) (d + 1) 243 [.ref 72] w (qQi fun x8 w7 =>
                qCall (some s) (d + 1) 239 [.ref 72, .int (nI 1), .int x8] w7 (qQv fun w9 =>
                  qCall (some s) (d + 1) 221 [.ref 72] w9 (qQv fun w10 =>
                    qCall (some s) (d + 1) 241 [.ref 72] w10 (qQv fun w11 =>
                      ((0 : Int32) = 0 → h10 s (d + 1 + 1) Q w11) ∧ (¬ (0 : Int32) = 0 → Q 0 w11)))))) ∧
            (¬ (1 : Int32) = 0 →
              ((5 : Int32) = 0 → h10 s (d + 1 + 1) Q w) ∧ (¬ (5 : Int32) = 0 → Q 5 w)) := by
          intro eb
          refine ⟨fun z => absurd z (by decide), fun _ => bad 5 ?_ (by decide) (by decide) _ rfl⟩
          unfold xLf; rw [if_neg t1, if_pos t2, if_pos q, if_neg eb]
        refine A_Mo_isBarred_10 ?_
        rw [h.srt, ei]
        cases eb : b with
        | true =>
          refine ⟨fun _ => ⟨fun g => ?_, fun g => ?_⟩, fun g => absurd g (by decide)⟩
          · refine ok ?_
            rw [eb]
            cases eq : decide (3 < (yT Z a).2.1 - 6) with
            | true => rw [eq] at g; exact absurd g (by decide)
            | false => have := of_decide_eq_false eq; rw [decide_eq_true (by omega)]
          · refine no ?_
            rw [eb]
            cases eq : decide (3 < (yT Z a).2.1 - 6) with
            | true => have := of_decide_eq_true eq; rw [decide_eq_false (by omega)]; exact fun q => Bool.noConfusion q
            | false => rw [eq] at g; exact absurd rfl g
        | false =>
          refine ⟨fun g => absurd rfl g, fun _ => ⟨fun g => ?_, fun g => ?_⟩⟩
          · refine ok ?_
            rw [eb]
            cases eq : decide (3 < (yT Z a).2.1 - 6) with
            | true => have := of_decide_eq_true eq; rw [decide_eq_false (by omega)]
            | false => rw [eq] at g; exact absurd g (by decide)
          · refine no ?_
            rw [eb]
            cases eq : decide (3 < (yT Z a).2.1 - 6) with
            | true => rw [eq] at g; exact absurd rfl g
            | false => have := of_decide_eq_false eq; rw [decide_eq_true (by omega)]; exact fun q => Bool.noConfusion q
      exact ⟨fun g => fin _ (by rw [decide_eq_false (by omega)]; rfl), fun g => fin _ (by rw [decide_eq_true (by omega)]; rfl)⟩
    · rw [if_neg (fun z => q z.2)]
      refine ⟨fun _ => ?_, fun g => absurd (by decide) g⟩
      rw [show (40 : Int32) = nI 40 from rfl, show (45 : Int32) = nI 45 from rfl, u.is (by omega), u.is (by omega)]
      refine ⟨fun _ => ⟨fun _ => A_Mo_beginOne_106 ⟨fun z => absurd rfl z, fun _ => bad 1 ?_ (by decide) (by decide) _ rfl⟩, fun z => by omega⟩, fun z => by omega⟩
      unfold xLf; rw [if_neg t1, if_pos t2, if_neg q]
  · obtain ⟨m, em, m6, ev⟩ := u.num t1
    rw [em, show (9999 : Int32) = nI 9999 from rfl, nI_leI (by omega) (by omega)]
    refine ⟨fun g => ?_, fun g => bad 2 ?_ (by decide) (by decide) _ rfl⟩
    · refine go (0, (yT Z a).2.1) _ _ ?_ rfl ?_
      · unfold xLf; rw [if_pos t1, if_pos (by omega)]
      · show nI m = nI (yT Z a).2.1
        congr 1
        omega
    · unfold xLf; rw [if_pos t1, if_neg (by omega)]
/-- what one, a product, a sum must do, ahead of which something waits -/
def mOk (s : Nat × (Nat → Int32)) (d : Nat) (Q : Int32 → qW → Prop) (Z : vZ) (x0 : Nat) (b : Bool) (w0 : qW) (f : Nat) : Prop := ∀ (St : List Nat) (cs : xSt) (a : Nat) (w : qW), pm w Z x0 b a cs (8 - f) St → w.1 72 21 = nI 0 → km x0 w0 w → (∀ o, o ∈ St → o ≤ 40) → cs.length + St.length ≤ a → St.length ≤ 3 * (8 - f) + 2 → stM St ≤ 8 - f → (∀ C r w', xOne Z b f a = .ok (C, r) → km x0 w0 w' → w'.1 72 21 = nI 1 → pm w' Z x0 b r (cs ++ C ++ mn2 (stM St)) (8 - f - stM St) (St.drop (stM St)) → h10 s d Q w') → (∀ e w', xOne Z b f a = .error e → km x0 w0 w' → erm w' e → Q (nI e.1) w') → h10 s d Q w
def mPk (s : Nat × (Nat → Int32)) (d : Nat) (Q : Int32 → qW → Prop) (Z : vZ) (x0 : Nat) (b : Bool) (w0 : qW) (f : Nat) : Prop := ∀ (B : List Nat) (cs : xSt) (a : Nat) (w : qW), pm w Z x0 b a cs (8 - f) B → w.1 72 21 = nI 0 → km x0 w0 w → (∀ o, o ∈ B → o ≤ 40) → (∀ o r, B = o :: r → (o < 5 ∨ 40 ≤ o) ∧ ¬ o = 2) → cs.length + B.length ≤ a → B.length ≤ 3 * (8 - f) + 1 → (∀ C r pend C0 w', xCn Z (xOne Z b f) opP a = .ok (C, r) → C = C0 ++ mp0 pend → (∀ o, o ∈ pend → 5 ≤ o ∧ o ≤ 7) → pend.length ≤ 1 → km x0 w0 w' → w'.1 72 21 = nI 1 → pm w' Z x0 b r (cs ++ C0) (8 - f) (pend ++ B) → h10 s d Q w') → (∀ e w', xCn Z (xOne Z b f) opP a = .error e → km x0 w0 w' → erm w' e → Q (nI e.1) w') → h10 s d Q w
def mSk (s : Nat × (Nat → Int32)) (d : Nat) (Q : Int32 → qW → Prop) (Z : vZ) (x0 : Nat) (b : Bool) (w0 : qW) (f : Nat) : Prop := ∀ (B : List Nat) (cs : xSt) (a : Nat) (w : qW), pm w Z x0 b a cs (8 - f) B → w.1 72 21 = nI 0 → km x0 w0 w → (∀ o, o ∈ B → o ≤ 40) → (∀ o r, B = o :: r → o = 40) → cs.length + B.length ≤ a → B.length ≤ 3 * (8 - f) → (∀ C r pend C0 w', xSm Z (xOne Z b f) a = .ok (C, r) → C = C0 ++ mp0 pend → (∀ o, o ∈ pend → 3 ≤ o ∧ o ≤ 7) → pend.length ≤ 2 → opS (yT Z r) = 0 → opP (yT Z r) = 0 → km x0 w0 w' → w'.1 72 21 = nI 1 → pm w' Z x0 b r (cs ++ C0) (8 - f) (pend ++ B) → h10 s d Q w') → (∀ e w', xSm Z (xOne Z b f) a = .error e → km x0 w0 w' → erm w' e → Q (nI e.1) w') → h10 s d Q w
theorem mp0_l (l : List Nat) : (mp0 l).length = l.length := List.length_map _
theorem mp0_a (l m : List Nat) : mp0 (l ++ m) = mp0 l ++ mp0 m := List.map_append
/-- an operator: what waits and may be written is, the operator waits -/
theorem m_oper {lo o : Nat} {pend B : List Nat} (hd : 6 ≤ d) (h : pm w Z x0 b a cs op (pend ++ B)) (h21 : w.1 72 21 = nI 1) (hB4 : ∀ o, o ∈ B → o ≤ 40) (hlo : (lo = 3 ∧ o = opS (yT Z a)) ∨ (lo = 5 ∧ o = opP (yT Z a))) (ho : ¬ o = 0) (hp : ∀ o, o ∈ pend → lo ≤ o ∧ o < 40) (hB : ∀ o r, B = o :: r → o < lo ∨ 40 ≤ o) (hlen : (pend ++ B).length ≤ 90) (hcs : cs.length + (pend ++ B).length ≤ a) (hQ : ∀ w', km x0 w w' → w'.1 72 21 = nI 0 → pm w' Z x0 b (yN Z a) (cs ++ mp0 pend) op (o :: B) → h10 s d Q w') : h10 s d Q w := by
  have u := h.cur
  have l3 := u.cc.l3
  have tb := yT_b u.la u.cc.byt
  have al : a ≤ Z.1 := u.la
  have h4 : ∀ x, x ∈ pend ++ B → x ≤ 40 := by
    intro x hx
    rcases List.mem_append.mp hx with q | q
    · have := (hp x q).2; omega
    · exact hB4 x q
  have la : (pend ++ B).length = pend.length + B.length := List.length_append
  refine m_h1 h21 (m_goesOn (by omega) h h4 (by omega) (fun _ => ⟨fun z => absurd z (by decide), fun _ => ⟨h21, ?_⟩⟩) (fun z1 z2 _ => ?_))
  · obtain ⟨d, rfl, hd1⟩ := dS hd
    have st : ∀ (lo' : Nat) (i o' : Int32), lo' = lo → i = nI lo' → o' = nI o → qCall (some s) d 238 [.ref 72, .int i] w (qQv fun w1 => qCall (some s) d 240 [.ref 72, .int o'] w1 (qQv fun w2 => qCall (some s) d 221 [.ref 72] (qPutI w2 72 21 (0 : Int32)) (qQv fun w3 => ((0 : Int32) = 0 → h10 s (d + 1) Q w3) ∧ (¬ (0 : Int32) = 0 → Q 0 w3)))) := by
      intro lo' i o' e1 e2 e3
      subst e1 e2
      refine m_settle (by omega) (by omega) (by omega) pend B cs w h hp hB hB4 (by omega) (by omega) (fun w2 k2 _ p2 => m_push (o := o) (by omega) p2 (by omega) e3 (fun w3 k3 _ p3 => ?_))
      refine m_nxt (by omega) (p3.whl (v := 0)).cur (fun w4 k4 u4 => b0 (hQ w4 (km_tr k2 (km_tr k3 (km_tr (km_p (by omega)) (km_ma k4)))) ?_ ((p3.whl (v := 0)).ma k4 u4)))
      rw [k4.2.2 21 (by decide), pI_e]; rfl
    refine A_Mo_behindOne ?_
    rw [show (43 : Int32) = nI 43 from rfl, show (45 : Int32) = nI 45 from rfl, show (42 : Int32) = nI 42 from rfl, show (47 : Int32) = nI 47 from rfl, show (37 : Int32) = nI 37 from rfl, u.is (by omega), u.is (by omega), u.is (by omega), u.is (by omega), u.is (by omega)]
    have hS : ((yT Z a).1 = 43 ∨ (yT Z a).1 = 45) → lo = 3 ∧ o = opS (yT Z a) := by
      intro q
      rcases hlo with z | z
      · exact z
      · have : opP (yT Z a) = 0 := by unfold opP; rw [if_neg (by omega), if_neg (by omega), if_neg (by omega)]
        exact absurd (z.2.trans this) ho
    have hP : ((yT Z a).1 = 42 ∨ (yT Z a).1 = 47 ∨ (yT Z a).1 = 37) → lo = 5 ∧ o = opP (yT Z a) := by
      intro q
      rcases hlo with z | z
      · have : opS (yT Z a) = 0 := by unfold opS; rw [if_neg (by omega), if_neg (by omega)]
        exact absurd (z.2.trans this) ho
      · exact z
    have b17 : ((yT Z a).1 = 43 ∨ (yT Z a).1 = 45) → qAt s d c_Mo_behindOne (qQi fun x4 w3 => (x4 = 0 → h10 s (d + 1) Q w3) ∧ (¬ x4 = 0 → Q x4 w3)) 17 [some (.ref 72), some (.int (w.1 72 11))] [] w := by
      intro q
      have z := hS q
      refine A_Mo_behindOne_17 ?_
      have e := st 3 (3 : Int32)
      rcases q with q | q
      · have eo : o = 3 := by rw [z.2]; unfold opS; rw [if_pos q]
        have k := e (3 : Int32) z.1.symm rfl (by rw [eo]; rfl)
        refine qv_mono (fun v hv => ⟨fun g => ?_, fun _ => hv⟩) k
        exact absurd ((u.is (j := 43) (by omega)).mpr q) g
      · have eo : o = 4 := by rw [z.2]; unfold opS; rw [if_neg (by omega), if_pos q]
        have k := e (4 : Int32) z.1.symm rfl (by rw [eo]; rfl)
        refine qv_mono (fun v hv => ⟨fun _ => hv, fun g => ?_⟩) k
        have := (u.is (j := 43) (by omega)).mp g
        omega
    have b63 : ((yT Z a).1 = 42 ∨ (yT Z a).1 = 47 ∨ (yT Z a).1 = 37) → qAt s d c_Mo_behindOne (qQi fun x4 w3 => (x4 = 0 → h10 s (d + 1) Q w3) ∧ (¬ x4 = 0 → Q x4 w3)) 63 [some (.ref 72), some (.int (w.1 72 11))] [] w := by
      intro q
      have z := hP q
      refine A_Mo_behindOne_63 ?_
      have e := st 5 (5 : Int32)
      rcases q with q | q | q
      · have eo : o = 5 := by rw [z.2]; unfold opP; rw [if_pos q]
        have k := e (5 : Int32) z.1.symm rfl (by rw [eo]; rfl)
        refine qv_mono (fun v hv => ⟨fun g => ?_, fun _ => hv⟩) k
        exact absurd ((u.is (j := 42) (by omega)).mpr q) g
      · have eo : o = 6 := by rw [z.2]; unfold opP; rw [if_neg (by omega), if_pos q]
        have k := e (6 : Int32) z.1.symm rfl (by rw [eo]; rfl)
        refine qv_mono (fun v hv => ⟨fun _ => ⟨fun g => ?_, fun _ => hv⟩, fun g => ?_⟩) k
        · exact absurd ((u.is (j := 47) (by omega)).mpr q) g
        · have := (u.is (j := 42) (by omega)).mp g
          omega
      · have eo : o = 7 := by rw [z.2]; unfold opP; rw [if_neg (by omega), if_neg (by omega), if_pos q]
        have k := e (7 : Int32) z.1.symm rfl (by rw [eo]; rfl)
        refine qv_mono (fun v hv => ⟨fun _ => ⟨fun _ => hv, fun g => ?_⟩, fun g => ?_⟩) k
        · have := (u.is (j := 47) (by omega)).mp g
          omega
        · have := (u.is (j := 42) (by omega)).mp g
          omega
    refine ⟨fun g => b17 (Or.inl g), fun g1 => ⟨fun g2 => ⟨fun g => b63 (Or.inl g), fun g3 => ⟨fun g => b63 (Or.inr (Or.inl g)), fun g4 => ⟨fun g5 => ?_, fun g => b63 (Or.inr (Or.inr g))⟩⟩⟩, fun g => b17 (Or.inr g)⟩⟩
    exfalso
    rcases hlo with z | z
    · refine ho (z.2.trans ?_)
      unfold opS; rw [if_neg g1, if_neg g2]
    · refine ho (z.2.trans ?_)
      unfold opP; rw [if_neg g3, if_neg g4, if_neg g5]
  · exfalso
    rcases hlo with z | z
    · exact ho (z.2.trans z1)
    · exact ho (z.2.trans z2)
end SumM2
