/-! text: the reference's products and sums. -/
section SumM3
variable {s : Nat × (Nat → Int32)} {d : Nat} {w w0 : qW} {Q : Int32 → qW → Prop} {R : qW → Prop} {Z : vZ} {a x0 op : Nat} {b : Bool} {cs : xSt} {St : List Nat}
theorem erm_k {f p : Nat} (h : w.1 72 10 = nI p) (h1 : 1 ≤ f) (h2 : f ≤ 6) : erm w (f, p) := ⟨h, h1, h2⟩
theorem m_prod {f : Nat} (hd : 6 ≤ d) (hf : f ≤ 8) (ho : mOk s d Q Z x0 b w0 f) : mPk s d Q Z x0 b w0 f := by
  intro B cs a w h h21 k0 h4 hB hcs hlen hy hn
  have byt := h.cur.cc.byt
  have ob := fun a => xOne_b (Z := Z) (b := b) byt f a
  have sB : ∀ o r, B = o :: r → stM (o :: r) = 0 := fun o r e => if_neg (hB o r e).2
  have sB0 : stM B = 0 := by
    cases e : B with
    | nil => rfl
    | cons o r => exact sB o r e
  have tail : ∀ n r pend cs1 w1, (∀ o, o ∈ pend → 5 ≤ o ∧ o ≤ 7) → pend.length ≤ 1 → pm w1 Z x0 b r cs1 (8 - f) (pend ++ B) → w1.1 72 21 = nI 1 → km x0 w0 w1 → cs1.length + (pend ++ B).length ≤ r → (∀ C2 r2 pend' C0 w', xCh Z (xOne Z b f) opP n r = .ok (C2, r2) → mp0 pend ++ C2 = C0 ++ mp0 pend' → (∀ o, o ∈ pend' → 5 ≤ o ∧ o ≤ 7) → pend'.length ≤ 1 → km x0 w0 w' → w'.1 72 21 = nI 1 → pm w' Z x0 b r2 (cs1 ++ C0) (8 - f) (pend' ++ B) → h10 s d Q w') → (∀ e w', xCh Z (xOne Z b f) opP n r = .error e → km x0 w0 w' → erm w' e → Q (nI e.1) w') → h10 s d Q w1 := by
    intro n
    induction n with
    | zero =>
      intro r pend cs1 w1 hp hpl p1 e1 k1 hc1 hy1 hn1
      refine hy1 [] r pend [] w1 rfl (by rw [List.append_nil, List.nil_append]) hp hpl k1 e1 ?_
      rw [List.append_nil]; exact p1
    | succ n ih =>
      intro r pend cs1 w1 hp hpl p1 e1 k1 hc1 hy1 hn1
      by_cases v0 : opP (yT Z r) = 0
      · refine hy1 [] r pend [] w1 (xCh_Z v0) (by rw [List.append_nil, List.nil_append]) hp hpl k1 e1 ?_
        rw [List.append_nil]; exact p1
      · have la : (pend ++ B).length = pend.length + B.length := List.length_append
        rw [xCh_S v0] at hy1 hn1
        have tb := yT_b p1.cur.la byt
        have t0 := tb.2.2.2.1 (fun z => v0 (opP_0 _ z))
        have vr := opP_r _ v0
        have v5 : 5 ≤ opP (yT Z r) := by
          unfold opP at v0 ⊢
          split
          · decide
          · split
            · decide
            · split
              · decide
              · rename_i q1 q2 q3; rw [if_neg q1, if_neg q2, if_neg q3] at v0; exact absurd rfl v0
        refine m_oper (lo := 5) (o := opP (yT Z r)) hd p1 e1 h4 (Or.inr ⟨rfl, rfl⟩) v0 (fun o hh => by have := hp o hh; omega) (fun o r' e => (hB o r' e).1) (by omega) hc1 (fun w2 k2 e2 p2 => ?_)
        have ml := mp0_l pend
        have lc : (cs1 ++ mp0 pend).length = cs1.length + pend.length := by rw [List.length_append, ml]
        have sm : stM (opP (yT Z r) :: B) = 0 := if_neg (by omega)
        refine ho (opP (yT Z r) :: B) (cs1 ++ mp0 pend) (yN Z r) w2 p2 e2 (km_tr k1 k2) (fun x hx => ?_) (by rw [lc]; show _ + (B.length + 1) ≤ _; omega) (by show B.length + 1 ≤ _; omega) (by rw [sm]; exact Nat.zero_le _) (fun C r1 w3 e3 k3 f3 p3 => ?_) (fun e w3 e3 k3 x3 => ?_)
        · rcases List.mem_cons.mp hx with q | q
          · omega
          · exact h4 x q
        · rw [sm] at p3
          have p3 : pm w3 Z x0 b r1 (cs1 ++ mp0 pend ++ C ++ []) (8 - f) ([opP (yT Z r)] ++ B) := p3
          rw [List.append_nil] at p3
          rw [e3] at hy1 hn1
          have b3 := ob _ tb.2.2.1 C r1 e3
          refine ih r1 [opP (yT Z r)] (cs1 ++ mp0 pend ++ C) w3 (fun x hx => by rw [List.mem_singleton] at hx; omega) (Nat.le_refl _) p3 f3 k3 (by rw [List.length_append, lc]; show _ + (B.length + 1) ≤ _; omega) (fun C2 r2 pend' C0 w4 e4 q4 hp4 hl4 k4 f4 p4 => ?_) (fun e w4 e4 k4 x4 => hn1 e w4 (by dsimp only; rw [e4]) k4 x4)
          refine hy1 _ r2 pend' (mp0 pend ++ C ++ C0) w4 (by dsimp only; rw [e4]) ?_ hp4 hl4 k4 f4 ?_
          · have q4 : (opP (yT Z r), 0) :: C2 = C0 ++ mp0 pend' := q4
            rw [q4]
            simp only [List.append_assoc]
          · rw [show cs1 ++ (mp0 pend ++ C ++ C0) = cs1 ++ mp0 pend ++ C ++ C0 by simp only [List.append_assoc]]
            exact p4
        · rw [e3] at hn1
          exact hn1 e w3 rfl k3 x3
  refine ho B cs a w h h21 k0 h4 hcs (by omega) (by rw [sB0]; exact Nat.zero_le _) (fun C r1 w3 e3 k3 f3 p3 => ?_) (fun e w3 e3 k3 x3 => hn e w3 (xCn_ee e3) k3 x3)
  rw [sB0] at p3
  have p3 : pm w3 Z x0 b r1 (cs ++ C ++ []) (8 - f) ([] ++ B) := p3
  rw [List.append_nil] at p3
  have b3 := ob _ h.cur.la C r1 e3
  refine tail 300 r1 [] (cs ++ C) w3 (fun o hh => absurd hh List.not_mem_nil) (by decide) p3 f3 k3 (by rw [List.length_append]; show _ + B.length ≤ _; omega) (fun C2 r2 pend' C0 w4 e4 q4 hp4 hl4 k4 f4 p4 => ?_) (fun e w4 e4 k4 x4 => hn e w4 (xCn_oe e3 e4) k4 x4)
  have q4 : C2 = C0 ++ mp0 pend' := q4
  refine hy (C ++ C2) r2 pend' (C ++ C0) w4 (xCn_oo e3 e4) (by rw [q4, List.append_assoc]) hp4 hl4 k4 f4 ?_
  rw [← List.append_assoc]; exact p4
/-- a chain ends where no operator stands -/
theorem xCh_e {o : Nat → xR} {op : yK → Nat} (hb : ∀ j, j < Z.1 → Z.2.1 j < 256) (h0 : ∀ t, t.1 = 0 → op t = 0) (ho : ∀ a, a ≤ Z.1 → xB Z a (o a)) : ∀ k r C r2, r ≤ Z.1 → Z.1 < r + 2 * k → xCh Z o op k r = .ok (C, r2) → op (yT Z r2) = 0
  | 0, r, C, r2, h, hk, _ => by omega
  | k + 1, r, C, r2, h, hk, e => by
    by_cases q : op (yT Z r) = 0
    · rw [xCh_Z q] at e
      cases e
      exact q
    · rw [xCh_S q] at e
      have t := yT_b h hb
      have t0 := t.2.2.2.1 (fun z => q (h0 _ z))
      cases e1 : o (yN Z r) with
      | error x => rw [e1] at e; cases e
      | ok x =>
        obtain ⟨c1, r1⟩ := x
        rw [e1] at e
        dsimp only at e
        have k1 := ho _ t.2.2.1 _ _ e1
        cases e2 : xCh Z o op k r1 with
        | error x => rw [e2] at e; cases e
        | ok x =>
          obtain ⟨c2, r2'⟩ := x
          rw [e2] at e
          dsimp only at e
          cases e
          exact xCh_e hb h0 ho k r1 c2 _ k1.2.2 (by omega) e2
theorem xCh_p {o : Nat → xR} {op : yK → Nat} {P : Nat → Prop} (ho : ∀ a C r, o a = .ok (C, r) → a ≤ Z.1 → P r) (hb : ∀ j, j < Z.1 → Z.2.1 j < 256) (hob : ∀ a, a ≤ Z.1 → xB Z a (o a)) : ∀ k r C r2, r ≤ Z.1 → P r → xCh Z o op k r = .ok (C, r2) → P r2
  | 0, r, C, r2, h, hp, e => by
    unfold xCh at e
    cases e
    exact hp
  | k + 1, r, C, r2, h, hp, e => by
    by_cases q : op (yT Z r) = 0
    · rw [xCh_Z q] at e
      cases e
      exact hp
    · rw [xCh_S q] at e
      have t := yT_b h hb
      cases e1 : o (yN Z r) with
      | error x => rw [e1] at e; cases e
      | ok x =>
        obtain ⟨c1, r1⟩ := x
        rw [e1] at e
        dsimp only at e
        have k1 := hob _ t.2.2.1 _ _ e1
        cases e2 : xCh Z o op k r1 with
        | error x => rw [e2] at e; cases e
        | ok x =>
          obtain ⟨c2, r2'⟩ := x
          rw [e2] at e
          dsimp only at e
          cases e
          exact xCh_p ho hb hob k r1 c2 _ k1.2.2 (ho _ _ _ e1 t.2.2.1) e2
theorem xCn_e {o : Nat → xR} {op : yK → Nat} (hb : ∀ j, j < Z.1 → Z.2.1 j < 256) (l3 : Z.1 ≤ 300) (h0 : ∀ t, t.1 = 0 → op t = 0) (ho : ∀ a, a ≤ Z.1 → xB Z a (o a)) : ∀ a C r, a ≤ Z.1 → xCn Z o op a = .ok (C, r) → op (yT Z r) = 0 := by
  intro a C r h e
  unfold xCn at e
  cases e1 : o a with
  | error x => rw [e1] at e; cases e
  | ok x =>
    obtain ⟨c1, r1⟩ := x
    rw [e1] at e
    dsimp only at e
    have k1 := ho _ h _ _ e1
    cases e2 : xCh Z o op 300 r1 with
    | error x => rw [e2] at e; cases e
    | ok x =>
      obtain ⟨c2, r2⟩ := x
      rw [e2] at e
      dsimp only at e
      cases e
      exact xCh_e hb h0 ho 300 r1 c2 _ k1.2.2 (by omega) e2
theorem xCn_p {o : Nat → xR} {op : yK → Nat} {P : Nat → Prop} (ho : ∀ a C r, o a = .ok (C, r) → a ≤ Z.1 → P r) (hb : ∀ j, j < Z.1 → Z.2.1 j < 256) (hob : ∀ a, a ≤ Z.1 → xB Z a (o a)) : ∀ a C r, a ≤ Z.1 → xCn Z o op a = .ok (C, r) → P r := by
  intro a C r h e
  unfold xCn at e
  cases e1 : o a with
  | error x => rw [e1] at e; cases e
  | ok x =>
    obtain ⟨c1, r1⟩ := x
    rw [e1] at e
    dsimp only at e
    have k1 := hob _ h _ _ e1
    cases e2 : xCh Z o op 300 r1 with
    | error x => rw [e2] at e; cases e
    | ok x =>
      obtain ⟨c2, r2⟩ := x
      rw [e2] at e
      dsimp only at e
      cases e
      exact xCh_p ho hb hob 300 r1 c2 _ k1.2.2 (ho _ _ _ e1 h) e2
theorem xSm_e {o : Nat → xR} (hb : ∀ j, j < Z.1 → Z.2.1 j < 256) (l3 : Z.1 ≤ 300) (ho : ∀ a, a ≤ Z.1 → xB Z a (o a)) {C : xSt} {r : Nat} (h : a ≤ Z.1) (e : xSm Z o a = .ok (C, r)) : opS (yT Z r) = 0 ∧ opP (yT Z r) = 0 :=
  ⟨xCn_e hb l3 opS_0 (xCn_b hb opP_0 ho) a C r h e, xCn_p (P := fun r => opP (yT Z r) = 0) (fun a C r e h => xCn_e hb l3 opP_0 ho a C r h e) hb (xCn_b hb opP_0 ho) a C r h e⟩
theorem m_sums {f : Nat} (hd : 6 ≤ d) (hf : f ≤ 8) (ho : mPk s d Q Z x0 b w0 f) : mSk s d Q Z x0 b w0 f := by
  intro B cs a w h h21 k0 h4 hB hcs hlen hy hn
  have byt := h.cur.cc.byt
  have l3 := h.cur.cc.l3
  have ob1 := fun a => xOne_b (Z := Z) (b := b) byt f a
  have ob := xCn_b (op := opP) byt opP_0 ob1
  have hB5 : ∀ o r, B = o :: r → (o < 5 ∨ 40 ≤ o) ∧ ¬ o = 2 := fun o r e => by have := hB o r e; omega
  have tail : ∀ n r pend cs1 w1, (∀ o, o ∈ pend → 3 ≤ o ∧ o ≤ 7) → pend.length ≤ 2 → pm w1 Z x0 b r cs1 (8 - f) (pend ++ B) → w1.1 72 21 = nI 1 → km x0 w0 w1 → cs1.length + (pend ++ B).length ≤ r → (∀ C2 r2 pend' C0 w', xCh Z (xCn Z (xOne Z b f) opP) opS n r = .ok (C2, r2) → mp0 pend ++ C2 = C0 ++ mp0 pend' → (∀ o, o ∈ pend' → 3 ≤ o ∧ o ≤ 7) → pend'.length ≤ 2 → km x0 w0 w' → w'.1 72 21 = nI 1 → pm w' Z x0 b r2 (cs1 ++ C0) (8 - f) (pend' ++ B) → h10 s d Q w') → (∀ e w', xCh Z (xCn Z (xOne Z b f) opP) opS n r = .error e → km x0 w0 w' → erm w' e → Q (nI e.1) w') → h10 s d Q w1 := by
    intro n
    induction n with
    | zero =>
      intro r pend cs1 w1 hp hpl p1 e1 k1 hc1 hy1 hn1
      refine hy1 [] r pend [] w1 rfl (by rw [List.append_nil, List.nil_append]) hp hpl k1 e1 ?_
      rw [List.append_nil]; exact p1
    | succ n ih =>
      intro r pend cs1 w1 hp hpl p1 e1 k1 hc1 hy1 hn1
      by_cases v0 : opS (yT Z r) = 0
      · refine hy1 [] r pend [] w1 (xCh_Z v0) (by rw [List.append_nil, List.nil_append]) hp hpl k1 e1 ?_
        rw [List.append_nil]; exact p1
      · have la : (pend ++ B).length = pend.length + B.length := List.length_append
        rw [xCh_S v0] at hy1 hn1
        have tb := yT_b p1.cur.la byt
        have t0 := tb.2.2.2.1 (fun z => v0 (opS_0 _ z))
        have vr := opS_r _ v0
        have v4 : opS (yT Z r) ≤ 4 := by
          unfold opS
          split
          · decide
          · split <;> decide
        refine m_oper (lo := 3) (o := opS (yT Z r)) hd p1 e1 h4 (Or.inl ⟨rfl, rfl⟩) v0 (fun o hh => by have := hp o hh; omega) (fun o r' e => by have := hB o r' e; omega) (by omega) hc1 (fun w2 k2 e2 p2 => ?_)
        have ml := mp0_l pend
        have lc : (cs1 ++ mp0 pend).length = cs1.length + pend.length := by rw [List.length_append, ml]
        refine ho (opS (yT Z r) :: B) (cs1 ++ mp0 pend) (yN Z r) w2 p2 e2 (km_tr k1 k2) (fun x hx => ?_) (fun o r' e => ?_) (by rw [lc]; show _ + (B.length + 1) ≤ _; omega) (by show B.length + 1 ≤ _; omega) (fun C r1 pd C1 w3 e3 q3 hp3 hl3 k3 f3 p3 => ?_) (fun e w3 e3 k3 x3 => ?_)
        · rcases List.mem_cons.mp hx with q | q
          · omega
          · exact h4 x q
        · cases e
          omega
        · rw [e3] at hy1 hn1
          have b3 := ob _ tb.2.2.1 C r1 e3
          have p3 : pm w3 Z x0 b r1 (cs1 ++ mp0 pend ++ C1) (8 - f) (pd ++ (opS (yT Z r) :: B)) := p3
          rw [show pd ++ (opS (yT Z r) :: B) = (pd ++ [opS (yT Z r)]) ++ B by rw [List.append_assoc]; rfl] at p3
          have lC : C.length = C1.length + pd.length := by rw [q3, List.length_append, mp0_l]
          refine ih r1 (pd ++ [opS (yT Z r)]) (cs1 ++ mp0 pend ++ C1) w3 (fun x hx => ?_) (by rw [List.length_append]; show _ + 1 ≤ 2; omega) p3 f3 k3 (by rw [List.length_append, lc, List.length_append, List.length_append]; show _ + (_ + 1 + _) ≤ _; omega) (fun C2 r2 pend' C0 w4 e4 q4 hp4 hl4 k4 f4 p4 => ?_) (fun e w4 e4 k4 x4 => hn1 e w4 (by dsimp only; rw [e4]) k4 x4)
          · rcases List.mem_append.mp hx with q | q
            · have := hp3 x q; omega
            · rw [List.mem_singleton] at q; omega
          refine hy1 _ r2 pend' (mp0 pend ++ C1 ++ C0) w4 (by dsimp only; rw [e4]) ?_ hp4 hl4 k4 f4 ?_
          · rw [mp0_a] at q4
            have q4 : mp0 pd ++ [(opS (yT Z r), 0)] ++ C2 = C0 ++ mp0 pend' := q4
            rw [q3]
            simp only [List.append_assoc]
            rw [← q4]
            simp only [List.append_assoc]
            rfl
          · rw [show cs1 ++ (mp0 pend ++ C1 ++ C0) = cs1 ++ mp0 pend ++ C1 ++ C0 by simp only [List.append_assoc]]
            exact p4
        · rw [e3] at hn1
          exact hn1 e w3 rfl k3 x3
  refine ho B cs a w h h21 k0 h4 hB5 hcs (by omega) (fun C r1 pd C1 w3 e3 q3 hp3 hl3 k3 f3 p3 => ?_) (fun e w3 e3 k3 x3 => hn e w3 (xCn_ee e3) k3 x3)
  have b3 := ob _ h.cur.la C r1 e3
  have lC : C.length = C1.length + pd.length := by rw [q3, List.length_append, mp0_l]
  refine tail 300 r1 pd (cs ++ C1) w3 (fun o hh => by have := hp3 o hh; omega) (by omega) p3 f3 k3 (by rw [List.length_append, List.length_append]; omega) (fun C2 r2 pend' C0 w4 e4 q4 hp4 hl4 k4 f4 p4 => ?_) (fun e w4 e4 k4 x4 => hn e w4 (xCn_oe e3 e4) k4 x4)
  have es : xSm Z (xOne Z b f) a = .ok (C ++ C2, r2) := xCn_oo e3 e4
  have ee := xSm_e byt l3 ob1 h.cur.la es
  refine hy (C ++ C2) r2 pend' (C1 ++ C0) w4 es ?_ hp4 hl4 ee.1 ee.2 k4 f4 ?_
  · rw [q3, List.append_assoc, q4, List.append_assoc]
  · rw [← List.append_assoc]; exact p4
/-- the end of a sum in brackets, or of the whole -/
theorem m_end0 {pend B : List Nat} (hd : 6 ≤ d) (h : pm w Z x0 b a cs op (pend ++ B)) (h21 : w.1 72 21 = nI 1) (hB4 : ∀ o, o ∈ B → o ≤ 40) (hp : ∀ o, o ∈ pend → 3 ≤ o ∧ o ≤ 7) (hB : ∀ o r, B = o :: r → o = 40) (hlen : (pend ++ B).length ≤ 90) (hcs : cs.length + (pend ++ B).length ≤ a) (z1 : opS (yT Z a) = 0) (z2 : opP (yT Z a) = 0) (z3 : (yT Z a).1 = 41 → ¬ 40 ∈ B) (hQ0 : ∀ w', B = [] → km x0 w w' → w'.1 72 21 = nI 1 → pm w' Z x0 b a (cs ++ mp0 pend) op [] → Q 0 w') (hQ1 : ∀ w', ¬ B = [] → km x0 w w' → w'.1 72 10 = nI (yT Z a).2.2 → Q 1 w') : h10 s d Q w := by
  have u := h.cur
  have l3 := u.cc.l3
  have al : a ≤ Z.1 := u.la
  have h4 : ∀ x, x ∈ pend ++ B → x ≤ 40 := by
    intro x hx
    rcases List.mem_append.mp hx with q | q
    · have := (hp x q).2; omega
    · exact hB4 x q
  have la : (pend ++ B).length = pend.length + B.length := List.length_append
  refine m_h1 h21 (m_goesOn (by omega) h h4 (by omega) (fun z => ?_) (fun _ _ _ => b0 ?_))
  · exfalso
    rcases z with z | z | z
    · exact z z1
    · exact z z2
    · refine z3 z.1 ?_
      rcases List.mem_append.mp z.2 with q | q
      · have := (hp 40 q).2; omega
      · exact q
  · refine m_settle (lo := 3) (by omega) (by omega) (by omega) pend B cs w h (fun o hh => by have := hp o hh; omega) (fun o r e => by have := hB o r e; omega) hB4 (by omega) (by omega) (fun w2 k2 e2 p2 => ?_)
    cases eB : B with
    | nil =>
      rw [eB] at p2
      rw [p2.pil]
      exact ⟨fun _ => hQ0 w2 eB k2 (e2.trans h21) p2, fun g => absurd (Int32.le_refl _) g⟩
    | cons o r =>
      rw [eB] at p2
      rw [p2.pil]
      have lr : B.length = r.length + 1 := by rw [eB]; rfl
      refine ⟨fun g => ?_, fun _ => hQ1 w2 (fun z => by rw [eB] at z; cases z) k2 p2.cur.pl⟩
      have g : nI (r.length + 1) ≤ nI 0 := g
      rw [nI_leI (by omega) (by omega)] at g
      omega
theorem m_one (hd : 8 ≤ d) : ∀ f, f ≤ 8 → mOk s d Q Z x0 b w0 f := by
  intro f
  induction f with
  | zero =>
    intro _ St cs a w h h21 k0 h4 hcs hlen hm hy hn
    have u := h.cur
    unfold xOne at hy hn
    refine m_h0 h21 ?_
    by_cases t12 : (yT Z a).1 = 1 ∨ (yT Z a).1 = 2
    · exact m_leaf (by omega) h h4 (by omega) hcs hm (by omega) t12 (fun C r w' e k e21 p => hy C r w' e (km_tr k0 k) e21 p) (fun e w' ee k x => hn e w' ee (km_tr k0 k) x)
    · rw [xLf_o (by omega) (by omega)] at hn
      obtain ⟨d, rfl, hd1⟩ := dS hd
      have nm : yNm (yT Z a) = -1 := by unfold yNm; rw [if_neg (by omega)]
      refine A_Mo_beginOne ?_
      rw [show (1 : Int32) = nI 1 from rfl, u.is (by omega)]
      refine ⟨fun _ => m_nameOf (by omega) u ?_, fun g => by omega⟩
      rw [nm]
      refine ⟨fun _ => ?_, fun g => absurd (by decide) g⟩
      rw [show (40 : Int32) = nI 40 from rfl, show (45 : Int32) = nI 45 from rfl, u.is (by omega), u.is (by omega)]
      have deep : ∀ is0 : Int32, ¬ is0 = 0 → ((yT Z a).1 = 40 ∨ (yT Z a).1 = 45) → qAt s d c_Mo_beginOne (qQi fun x2 w1 => (x2 = 0 → h10 s (d + 1) Q w1) ∧ (¬ x2 = 0 → Q x2 w1)) 106 [some (.ref 72), none] [.int is0] w := by
        intro is0 i0 g
        rw [if_pos g] at hn
        refine A_Mo_beginOne_106 ⟨fun _ => ?_, fun z => absurd z i0⟩
        rw [h.ope]
        exact ⟨fun z => absurd rfl z, fun _ => ⟨fun z => absurd z (by decide), fun _ => hn _ w rfl k0 (erm_k u.pl (by decide) (by decide))⟩⟩
      refine ⟨fun g40 => ⟨fun g45 => A_Mo_beginOne_106 ⟨fun z => absurd rfl z, fun _ => ⟨fun z => absurd z (by decide), fun _ => ?_⟩⟩, fun g45 => deep _ (by decide) (Or.inr g45)⟩, fun g40 => deep _ (by decide) (Or.inl g40)⟩
      rw [if_neg (by omega)] at hn
      exact hn _ w rfl k0 (erm_k u.pl (by decide) (by decide))
  | succ f ih =>
    intro hf St cs a w h h21 k0 h4 hcs hlen hm hy hn
    have ih := ih (by omega)
    have u := h.cur
    have byt := u.cc.byt
    have l3 := u.cc.l3
    have al := u.la
    have tb := yT_b u.la byt
    unfold xOne at hy hn
    refine m_h0 h21 ?_
    by_cases t12 : (yT Z a).1 = 1 ∨ (yT Z a).1 = 2
    · exact m_leaf (by omega) h h4 (by omega) hcs hm (by omega) t12 (fun C r w' e k e21 p => hy C r w' e (km_tr k0 k) e21 p) (fun e w' ee k x => hn e w' ee (km_tr k0 k) x)
    · rw [xLf_o (by omega) (by omega)] at hy hn
      have sums := m_sums (by omega) (by omega) (m_prod (by omega) (by omega) ih)
      obtain ⟨d, rfl, hd1⟩ := dS hd
      have nm : yNm (yT Z a) = -1 := by unfold yNm; rw [if_neg (by omega)]
      refine A_Mo_beginOne ?_
      rw [show (1 : Int32) = nI 1 from rfl, u.is (by omega)]
      refine ⟨fun _ => m_nameOf (by omega) u ?_, fun g => by omega⟩
      rw [nm]
      refine ⟨fun _ => ?_, fun g => absurd (by decide) g⟩
      rw [show (40 : Int32) = nI 40 from rfl, show (45 : Int32) = nI 45 from rfl, u.is (by omega), u.is (by omega)]
      -- what is pushed
      have pu : ∀ (o : Nat) (is0 : Int32), is0 = nI o → (o = 2 ∨ o = 40) → ¬ (yT Z a).1 = 0 → (∀ w', km x0 w0 w' → w'.1 72 21 = nI 0 → pm w' Z x0 b (yN Z a) cs (8 - f) (o :: St) → h10 s (d + 1) Q w') → qAt s d c_Mo_beginOne (qQi fun x2 w1 => (x2 = 0 → h10 s (d + 1) Q w1) ∧ (¬ x2 = 0 → Q x2 w1)) 106 [some (.ref 72), none] [.int is0] w := by
        intro o is0 ei ho t0 hq
        refine A_Mo_beginOne_106 ⟨fun _ => ?_, fun z => absurd z (by rw [ei]; exact nI_pos0 (by omega) (by omega))⟩
        rw [h.ope, show (8 : Int32) = nI 8 from rfl, nI_eq (by omega) (by omega), nI_1]
        refine ⟨fun _ => ?_, fun z => by omega⟩
        refine m_push (o := o) (by omega) (h.opn (v := 8 - (f + 1) + 1)) (by omega) ei (fun w2 k2 e2 p2 => m_nxt (by omega) p2.cur (fun w3 k3 u3 => b0 (hq w3 (km_tr k0 (km_tr (km_p (by omega)) (km_tr k2 (km_ma k3)))) ?_ ?_)))
        · rw [k3.2.2 21 (by decide), e2, pI_f (by decide)]; exact h21
        · have := p2.ma k3 u3
          rw [show 8 - (f + 1) + 1 = 8 - f by omega] at this
          exact this
      refine ⟨fun g40 => ⟨fun g45 => A_Mo_beginOne_106 ⟨fun z => absurd rfl z, fun _ => ⟨fun z => absurd z (by decide), fun _ => ?_⟩⟩, fun g45 => pu 2 _ rfl (Or.inl rfl) (by omega) (fun w2 k2 e2 p2 => ?_)⟩, fun g40 => pu 40 _ rfl (Or.inr rfl) (by omega) (fun w2 k2 e2 p2 => ?_)⟩
      · rw [if_neg g45, if_neg g40] at hn
        exact hn _ w rfl k0 (erm_k u.pl (by decide) (by decide))
      · rw [if_pos g45] at hy hn
        have t0 := tb.2.2.2.1 (by omega)
        have s1 : stM (2 :: St) = stM St + 1 := if_pos rfl
        refine ih (2 :: St) cs (yN Z a) w2 p2 e2 k2 (fun x hx => ?_) (by show _ + (St.length + 1) ≤ _; omega) (by show St.length + 1 ≤ _; omega) (by rw [s1]; omega) (fun C r w3 e3 k3 f3 p3 => ?_) (fun e w3 e3 k3 x3 => ?_)
        · rcases List.mem_cons.mp hx with q | q
          · omega
          · exact h4 x q
        · rw [e3] at hy
          refine hy (C ++ [(2, 0)]) r w3 rfl k3 f3 ?_
          rw [s1] at p3
          have p3 : pm w3 Z x0 b r (cs ++ C ++ mn2 (stM St + 1)) (8 - f - (stM St + 1)) (St.drop (stM St)) := p3
          have e5 : cs ++ C ++ mn2 (stM St + 1) = cs ++ (C ++ [(2, 0)]) ++ mn2 (stM St) := by unfold mn2; rw [List.replicate_succ]; simp only [List.append_assoc]; rfl
          rw [e5, show 8 - f - (stM St + 1) = 8 - (f + 1) - stM St by omega] at p3
          exact p3
        · rw [e3] at hn
          exact hn e w3 rfl k3 x3
      · rw [if_neg (by omega), if_pos g40] at hy hn
        have t0 := tb.2.2.2.1 (by omega)
        refine sums (40 :: St) cs (yN Z a) w2 p2 e2 k2 (fun x hx => ?_) (fun o r e => by cases e; rfl) (by show _ + (St.length + 1) ≤ _; omega) (by show St.length + 1 ≤ _; omega) (fun C r pend C0 w3 e3 q3 hp3 hl3 z1 z2 k3 f3 p3 => ?_) (fun e w3 e3 k3 x3 => ?_)
        · rcases List.mem_cons.mp hx with q | q
          · omega
          · exact h4 x q
        · rw [e3] at hy hn
          have hy : ∀ C' r' w', (if (yT Z r).1 = 41 then (.ok (C, yN Z r) : xR) else xF Z 1 r) = .ok (C', r') → km x0 w0 w' → w'.1 72 21 = nI 1 → pm w' Z x0 b r' (cs ++ C' ++ mn2 (stM St)) (8 - (f + 1) - stM St) (St.drop (stM St)) → h10 s (d + 1) Q w' := hy
          have hn : ∀ e w', (if (yT Z r).1 = 41 then (.ok (C, yN Z r) : xR) else xF Z 1 r) = .error e → km x0 w0 w' → erm w' e → Q (nI e.1) w' := hn
          have b3 := xSm_b byt (xOne_b (b := b) byt f) _ tb.2.2.1 C r e3
          have lC : C.length = C0.length + pend.length := by rw [q3, List.length_append, mp0_l]
          have lp : (pend ++ 40 :: St).length = pend.length + (St.length + 1) := List.length_append
          have lcs : (cs ++ C0).length = cs.length + C0.length := List.length_append
          have B4 : ∀ x, x ∈ 40 :: St → x ≤ 40 := by
            intro x hx
            rcases List.mem_cons.mp hx with q | q
            · omega
            · exact h4 x q
          by_cases g41 : (yT Z r).1 = 41
          · rw [if_pos g41] at hy
            have u3 := p3.cur
            have tb3 := yT_b u3.la byt
            have t3 := tb3.2.2.2.1 (by omega)
            have h4' : ∀ x, x ∈ pend ++ 40 :: St → x ≤ 40 := by
              intro x hx
              rcases List.mem_append.mp hx with q | q
              · have := (hp3 x q).2; omega
              · exact B4 x q
            refine m_h1 f3 (m_goesOn (by omega) p3 h4' (by omega) (fun _ => ⟨fun z => absurd z (by decide), fun _ => ⟨f3, ?_⟩⟩) (fun _ _ z => absurd (List.mem_append.mpr (Or.inr List.mem_cons_self)) (z g41)))
            refine A_Mo_behindOne ?_
            rw [show (43 : Int32) = nI 43 from rfl, show (45 : Int32) = nI 45 from rfl, show (42 : Int32) = nI 42 from rfl, show (47 : Int32) = nI 47 from rfl, show (37 : Int32) = nI 37 from rfl, u3.is (by omega), u3.is (by omega), u3.is (by omega), u3.is (by omega), u3.is (by omega)]
            refine ⟨fun z => by omega, fun _ => ⟨fun _ => ⟨fun z => by omega, fun _ => ⟨fun z => by omega, fun _ => ⟨fun _ => ?_, fun z => by omega⟩⟩⟩, fun z => by omega⟩⟩
            refine m_settle (lo := 3) (by omega) (by omega) (by omega) pend (40 :: St) (cs ++ C0) w3 p3 (fun o hh => by have := hp3 o hh; omega) (fun o r e => by cases e; omega) B4 (by omega) (by omega) (fun w4 k4 e4 p4 => ?_)
            have q4 := p4.pop
            rw [p4.pil, p4.ope, show nI (40 :: St).length - (1 : Int32) = nI St.length from nI_sub' (a := St.length + 1) (b := 1) (by omega), show nI (8 - f) - (1 : Int32) = nI (8 - (f + 1)) from (nI_sub' (a := 8 - f) (b := 1) (by omega)).trans (by congr 1)]
            have q5 := q4.opn (v := 8 - (f + 1))
            have lm := mp0_l pend
            have sl := stM_le St
            refine m_whole (by omega) St _ (8 - (f + 1)) _ q5 h4 (by omega) hm (by omega) (by rw [List.length_append, lcs, lm]; omega) (fun w5 k5 e5 p5 => m_nxt (by omega) p5.cur (fun w6 k6 u6 => b0 (hy C (yN Z r) w6 rfl (km_tr k3 (km_tr k4 (km_tr (km_tr (km_p (by omega)) (km_p (by omega))) (km_tr k5 (km_ma k6))))) ?_ ?_)))
            · rw [k6.2.2 21 (by decide)]; exact e5
            · have := p5.ma k6 u6
              rw [show cs ++ C0 ++ mp0 pend = cs ++ C by rw [List.append_assoc, ← q3]] at this
              exact this
          · rw [if_neg g41] at hn
            refine m_end0 (by omega) p3 f3 B4 hp3 (fun o r e => by cases e; rfl) (by omega) (by omega) z1 z2 (fun z => absurd z g41) (fun w4 e4 => by cases e4) (fun w4 _ k4 e4 => hn _ w4 rfl (km_tr k3 k4) (erm_k e4 (by decide) (by decide)))
        · rw [e3] at hn
          exact hn e w3 rfl k3 x3
def pq (w : qW) (Z : vZ) (x0 : Nat) (b : Bool) (a : Nat) (cs : xSt) (op : Nat) : Prop := (cm w Z a) ∧ (x0 ≤ 2100) ∧ (w.1 72 14 = nI x0) ∧ (w.1 72 16 = nI cs.length) ∧ (∀ j, j < cs.length → w.1 77 (x0 + 80 + 2 * j) = nI (cs.getD j (0, 0)).1 ∧ w.1 77 (x0 + 80 + 2 * j + 1) = nI (cs.getD j (0, 0)).2) ∧ (w.1 72 20 = nI op) ∧ (w.1 72 22 = nI (if b then 1 else 2))
theorem pq.cur {w : qW} {Z : vZ} {x0 : Nat} {b : Bool} {a : Nat} {cs : xSt} {op : Nat} (h : pq w Z x0 b a cs op) : cm w Z a := h.1
theorem pq.x3 {w : qW} {Z : vZ} {x0 : Nat} {b : Bool} {a : Nat} {cs : xSt} {op : Nat} (h : pq w Z x0 b a cs op) : x0 ≤ 2100 := h.2.1
theorem pq.txt {w : qW} {Z : vZ} {x0 : Nat} {b : Bool} {a : Nat} {cs : xSt} {op : Nat} (h : pq w Z x0 b a cs op) : w.1 72 14 = nI x0 := h.2.2.1
theorem pq.wri {w : qW} {Z : vZ} {x0 : Nat} {b : Bool} {a : Nat} {cs : xSt} {op : Nat} (h : pq w Z x0 b a cs op) : w.1 72 16 = nI cs.length := h.2.2.2.1
theorem pq.cod {w : qW} {Z : vZ} {x0 : Nat} {b : Bool} {a : Nat} {cs : xSt} {op : Nat} (h : pq w Z x0 b a cs op) : ∀ j, j < cs.length → w.1 77 (x0 + 80 + 2 * j) = nI (cs.getD j (0, 0)).1 ∧ w.1 77 (x0 + 80 + 2 * j + 1) = nI (cs.getD j (0, 0)).2 := h.2.2.2.2.1
theorem pq.ope {w : qW} {Z : vZ} {x0 : Nat} {b : Bool} {a : Nat} {cs : xSt} {op : Nat} (h : pq w Z x0 b a cs op) : w.1 72 20 = nI op := h.2.2.2.2.2.1
theorem pq.srt {w : qW} {Z : vZ} {x0 : Nat} {b : Bool} {a : Nat} {cs : xSt} {op : Nat} (h : pq w Z x0 b a cs op) : w.1 72 22 = nI (if b then 1 else 2) := h.2.2.2.2.2.2
theorem pq.mk {w : qW} {Z : vZ} {x0 : Nat} {b : Bool} {a : Nat} {cs : xSt} {op : Nat} (f_cur : cm w Z a) (f_x3 : x0 ≤ 2100) (f_txt : w.1 72 14 = nI x0) (f_wri : w.1 72 16 = nI cs.length) (f_cod : ∀ j, j < cs.length → w.1 77 (x0 + 80 + 2 * j) = nI (cs.getD j (0, 0)).1 ∧ w.1 77 (x0 + 80 + 2 * j + 1) = nI (cs.getD j (0, 0)).2) (f_ope : w.1 72 20 = nI op) (f_srt : w.1 72 22 = nI (if b then 1 else 2)) : pq w Z x0 b a cs op := ⟨f_cur, f_x3, f_txt, f_wri, f_cod, f_ope, f_srt⟩
theorem pm.pq (h : pm w Z x0 b a cs op St) : pq w Z x0 b a cs op := pq.mk h.cur h.x3 h.txt h.wri h.cod h.ope h.srt
theorem pq.ma {w' : qW} {r : Nat} (h : pq w Z x0 b a cs op) (k : ma w w') (u : cm w' Z r) : pq w' Z x0 b r cs op := by
  refine pq.mk u h.x3 ?_ ?_ (fun j hj => ?_) ?_ ?_
  · rw [k.2.2 14 (by decide)]; exact h.txt
  · rw [k.2.2 16 (by decide)]; exact h.wri
  · rw [(k.2.1 77 (by decide)).1]; exact h.cod j hj
  · rw [k.2.2 20 (by decide)]; exact h.ope
  · rw [k.2.2 22 (by decide)]; exact h.srt
theorem pq.opn {v : Nat} (h : pq w Z x0 b a cs op) : pq (qPutI w 72 20 (nI v)) Z x0 b a cs v := by
  have e72 : ∀ f, ¬ f = 20 → (qPutI w 72 20 (nI v)).1 72 f = w.1 72 f := fun f hf => pI_f hf
  have kk : km x0 w (qPutI w 72 20 (nI v)) := km_p (by omega)
  refine pq.mk (h.cur.same kk (fun f h1 h2 => e72 f (by omega)) rfl) h.x3 ?_ ?_ (fun j hj => ?_) ?_ ?_
  · rw [e72 14 (by decide)]; exact h.txt
  · rw [e72 16 (by decide)]; exact h.wri
  · rw [pI_c (by decide), pI_c (by decide)]; exact h.cod j hj
  · rw [pI_e]
  · rw [e72 22 (by decide)]; exact h.srt
/-- a sum, read from its first token on -/
theorem m_summed {f : Nat} {cs : xSt} (hd : 9 ≤ d) (hf : f ≤ 8) (h : pq w Z x0 b a cs (8 - f)) (hcs : cs.length ≤ a) (hy : ∀ C r w', xSm Z (xOne Z b f) a = .ok (C, r) → km x0 w w' → pm w' Z x0 b r (cs ++ C) (8 - f) [] → Q 0 w') (hn : ∀ e w', xSm Z (xOne Z b f) a = .error e → km x0 w w' → erm w' e → Q (nI e.1) w') : qCall (some s) d 234 [.ref 72] w (qQi Q) := by
  obtain ⟨d, rfl, hd1⟩ := dS hd
  have byt := h.cur.cc.byt
  refine A_Mo_summed ?_
  have e72 : ∀ f, ¬ f = 19 → ¬ f = 21 → (qPutI (qPutI w 72 19 (0 : Int32)) 72 21 (0 : Int32)).1 72 f = w.1 72 f := fun f h1 h2 => by rw [pI_f h2, pI_f h1]
  have kk : km x0 w (qPutI (qPutI w 72 19 (0 : Int32)) 72 21 (0 : Int32)) := km_tr (km_p (by omega)) (km_p (by omega))
  have p1 : pm (qPutI (qPutI w 72 19 (0 : Int32)) 72 21 (0 : Int32)) Z x0 b a cs (8 - f) [] := by
    refine pm.mk (h.cur.same kk (fun f h1 h2 => e72 f (by omega) (by omega)) rfl) h.x3 ?_ ?_ (fun j hj => ?_) ?_ ?_ ?_ trivial
    · rw [e72 14 (by decide) (by decide)]; exact h.txt
    · rw [e72 16 (by decide) (by decide)]; exact h.wri
    · rw [pI_c (by decide), pI_c (by decide), pI_c (by decide), pI_c (by decide)]; exact h.cod j hj
    · rw [e72 20 (by decide) (by decide)]; exact h.ope
    · rw [e72 22 (by decide) (by decide)]; exact h.srt
    · rw [pI_f (by decide), pI_e]; rfl
  refine m_sums (w0 := w) (by omega) hf (m_prod (by omega) hf (m_one (by omega) f hf)) [] cs a _ p1 (by rw [pI_e]; rfl) kk (fun o hh => absurd hh List.not_mem_nil) (fun o r e => by cases e) (by show _ + 0 ≤ _; omega) (Nat.zero_le _) (fun C r pend C0 w3 e3 q3 hp3 hl3 z1 z2 k3 f3 p3 => ?_) (fun e w3 e3 k3 x3 => hn e w3 e3 k3 x3)
  have b3 := xSm_b byt (xOne_b (b := b) byt f) _ h.cur.la C r e3
  have lC : C.length = C0.length + pend.length := by rw [q3, List.length_append, mp0_l]
  refine m_end0 (B := []) (by omega) p3 f3 (fun o hh => absurd hh List.not_mem_nil) hp3 (fun o r e => by cases e) (by rw [List.append_nil]; omega) (by rw [List.append_nil, List.length_append]; omega) z1 z2 (fun _ hh => absurd hh List.not_mem_nil) (fun w4 _ k4 _ p4 => hy C r w4 e3 (km_tr k3 k4) ?_) (fun w4 e4 => absurd rfl e4)
  rw [show cs ++ C = cs ++ C0 ++ mp0 pend by rw [q3, List.append_assoc]]
  exact p4
end SumM3
