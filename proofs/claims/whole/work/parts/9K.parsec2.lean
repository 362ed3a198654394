/-! text: the class's sums, comparisons, and what is joined. -/
section ParseC2
variable {s : Nat × (Nat → Int32)} {d : Nat} {w : qW} {Q : Int32 → qW → Prop} {R : qW → Prop} {Z : vZ} {a c : Nat} {b : Bool} {cs : List (Nat × Nat)}
/-- what a reading method must do: m its number, x what it reads -/
def cRd (s : Nat × (Nat → Int32)) (c : Nat) (Z : vZ) (b : Bool) (m : Nat) (v : List Value) (k : Nat) (x : Nat → xR) : Prop := ∀ (d : Nat) (w : qW) (Q : Int32 → qW → Prop) (a : Nat) (cs : List (Nat × Nat)), k ≤ d → psx w c Z b a cs → cs.length ≤ a → (∀ C r w', x a = .ok (C, r) → kq c w w' → psx w' c Z b r (cs ++ C) → Q 1 w') → (∀ e w', x a = .error e → kq c w w' → erx w' e → Q 0 w') → qCall (some s) d m (.ref 25 :: v) w (qQi Q)
theorem nI_pos0 {v : Nat} (h : 1 ≤ v) (h2 : v < 2 ^ 31) : ¬ nI v = (0 : Int32) := by
  rw [eq0 h2]; omega
theorem xCh_S {o : Nat → xR} {op : yK → Nat} {k r : Nat} (h : ¬ op (yT Z r) = 0) : xCh Z o op (k + 1) r = match o (yN Z r) with
    | .error e => .error e
    | .ok (c, r1) => match xCh Z o op k r1 with
      | .error e => .error e
      | .ok (c2, r2) => .ok (c ++ (op (yT Z r), 0) :: c2, r2) := by
  conv => lhs; unfold xCh
  rw [if_neg h]
  rfl
theorem xCh_Z {o : Nat → xR} {op : yK → Nat} {k r : Nat} (h : op (yT Z r) = 0) : xCh Z o op (k + 1) r = .ok ([], r) := by
  unfold xCh
  rw [if_pos h]
theorem c_readProduct {f k : Nat} (hc : txc c) (hk : 4 ≤ k) (ho : cRd s c Z b 82 [.int (nI (8 - f))] k (xOne Z b f)) : cRd s c Z b 81 [.int (nI (8 - f))] (k + 1) (xCn Z (xOne Z b f) opP) := by
  intro d w Q a cs hd h hl hy hn
  obtain ⟨d, rfl, hd1⟩ := dS hd
  have byt := h.cur.cc.byt
  have l3 := h.cur.cc.l3
  have ob := fun a => xOne_b (Z := Z) (b := b) byt f a
  refine A_Reader_readProduct ?_
  have tail : ∀ n i r cs' w1, i + n = 300 → 2 * i ≤ r → cs'.length ≤ r → kq c w w1 → psx w1 c Z b r cs' → (∀ C r2 w', xCh Z (xOne Z b f) opP n r = .ok (C, r2) → kq c w w' → psx w' c Z b r2 (cs' ++ C) → Q 1 w') → (∀ e w', xCh Z (xOne Z b f) opP n r = .error e → kq c w w' → erx w' e → Q 0 w') → qAt s d c_Reader_readProduct (qQi Q) 33 [some (.ref 25), some (.int (nI (8 - f))), none, some (.int (nI i))] [] w1 := by
    intro n
    induction n with
    | zero =>
      intro i r cs' w1 hi hr hl1 k1 p1
      have := p1.cur.la
      omega
    | succ n ih =>
      intro i r cs' w1 hi hr hl1 k1 p1 hy1 hn1
      have u1 := p1.cur
      have tb := yT_b u1.la byt
      have more : ∀ v, v = opP (yT Z r) → ¬ v = 0 → v ≤ 7 → 3 ≤ v → ∀ i1 : Int32, i1 = nI (10007 + v) → qCall (some s) d 42 [.ref 25] w1 (qQv fun w4 => qAt s d c_Reader_readProduct (qQi Q) 4 [some (.ref 25), some (.int (nI (8 - f))), some (.int i1), some (.int (nI i + (1 : Int32)))] [] w4) := by
        intro v ev v0 v7 v3 i1 ei
        rw [ev] at v0
        rw [xCh_S v0] at hy1 hn1
        have t0 := tb.2.2.2.1 (fun z => v0 (opP_0 _ z))
        refine c_adv (by omega) u1 (fun w2 k2 u2 => A_Reader_readProduct_4 ?_)
        rw [nI_1, show (300 : Int32) = nI 300 from rfl, nI_leI (by omega) (by omega)]
        refine ⟨fun g => by omega, fun _ => ho d w2 _ (yN Z r) cs' (by omega) (p1.ka hc k2 u2) (by omega) (fun C r1 w3 e3 k3 p3 => ?_) (fun e w3 e3 k3 x3 => ?_)⟩
        · have kk := kq_tr k1 (kq_tr (kq_ka hc k2) k3)
          have b3 := ob _ tb.2.2.1 C r1 e3
          refine ⟨fun _ => ⟨fun g => absurd g (by rw [ei]; exact nI_pos0 (by omega) (by omega)), fun _ => ⟨c, p3.cur.ref, ?_⟩⟩, fun g => absurd g (by decide)⟩
          rw [al_c hc, qB_1]
          have l1 : (cs' ++ C).length = cs'.length + C.length := List.length_append
          refine c_step (x := (v, 0)) (by omega) hc p3 (by omega) (by rw [ei]; unfold enc; rw [if_neg (show ¬ v = 0 by omega), if_neg (show ¬ v = 1 by omega), if_neg (show ¬ v = 2 by omega), if_pos (show v ≤ 7 from v7)]) (fun w5 k5 p5 => ?_)
          rw [e3] at hy1 hn1
          refine ih (i + 1) r1 _ w5 (by omega) (by omega) (by rw [List.length_append, l1]; show _ + 1 ≤ _; omega) (kq_tr kk k5) p5 (fun C2 r2 w6 e6 k6 p6 => ?_) (fun e w6 e6 k6 x6 => ?_)
          · have hq := hy1 (C ++ (opP (yT Z r), 0) :: C2) r2 w6 (by first | rw [e6] | (dsimp only; rw [e6])) k6
            rw [← ev] at hq
            refine hq ?_
            rw [show cs' ++ (C ++ (v, 0) :: C2) = cs' ++ C ++ [(v, 0)] ++ C2 by simp]
            exact p6
          · exact hn1 e w6 (by first | rw [e6] | (dsimp only; rw [e6])) k6 x6
        · rw [e3] at hn1
          exact ⟨fun g => absurd rfl g, fun _ => hn1 e w3 rfl (kq_tr k1 (kq_tr (kq_ka hc k2) k3)) x3⟩
      refine A_Reader_readProduct_33 ?_
      rw [show (42 : Int32) = nI 42 from rfl, show (47 : Int32) = nI 47 from rfl, show (37 : Int32) = nI 37 from rfl, u1.is (by omega) (by omega), u1.is (by omega) (by omega), u1.is (by omega) (by omega)]
      refine ⟨fun g1 => ⟨fun g2 => ⟨fun g3 => ⟨fun z => absurd rfl z, fun _ => ?_⟩, fun g => ⟨fun _ => ?_, fun z => absurd z (by decide)⟩⟩, fun g => ⟨fun _ => ?_, fun z => absurd z (by decide)⟩⟩, fun g => ⟨fun _ => ?_, fun z => absurd z (by decide)⟩⟩
      · have e0 : opP (yT Z r) = 0 := by unfold opP; rw [if_neg g1, if_neg g2, if_neg g3]
        refine hy1 [] r w1 (xCh_Z e0) k1 ?_
        rw [List.append_nil]; exact p1
      · exact more 7 (by unfold opP; rw [g]; rfl) (by decide) (by decide) (by decide) _ rfl
      · exact more 6 (by unfold opP; rw [g]; rfl) (by decide) (by decide) (by decide) _ rfl
      · exact more 5 (by unfold opP; rw [g]; rfl) (by decide) (by decide) (by decide) _ rfl
  refine A_Reader_readProduct_4 ⟨fun g => absurd g (by decide), fun _ => ho d w _ a cs (by omega) h hl (fun C r1 w3 e3 k3 p3 => ?_) (fun e w3 e3 k3 x3 => ?_)⟩
  · unfold xCn at hy hn
    rw [e3] at hy hn
    have b3 := ob _ h.cur.la C r1 e3
    refine ⟨fun _ => ⟨fun _ => tail 300 0 r1 (cs ++ C) w3 rfl (Nat.zero_le _) (by rw [List.length_append]; omega) k3 p3 (fun C2 r2 w6 e6 k6 p6 => hy (C ++ C2) r2 w6 (by first | rw [e6] | (dsimp only; rw [e6])) k6 ?_) (fun e w6 e6 k6 x6 => hn e w6 (by first | rw [e6] | (dsimp only; rw [e6])) k6 x6), fun g => absurd rfl g⟩, fun g => absurd g (by decide)⟩
    rw [← List.append_assoc]; exact p6
  · unfold xCn at hn
    rw [e3] at hn
    exact ⟨fun g => absurd rfl g, fun _ => hn e w3 rfl k3 x3⟩
theorem c_readSum {f k : Nat} {o : Nat → xR} (hc : txc c) (hk : 4 ≤ k) (hob : (∀ j, j < Z.1 → Z.2.1 j < 256) → ∀ a, a ≤ Z.1 → xB Z a (o a)) (ho : cRd s c Z b 81 [.int (nI (8 - f))] k o) : cRd s c Z b 80 [.int (nI (8 - f))] (k + 1) (xCn Z o opS) := by
  intro d w Q a cs hd h hl hy hn
  obtain ⟨d, rfl, hd1⟩ := dS hd
  have byt := h.cur.cc.byt
  have l3 := h.cur.cc.l3
  have ob := hob byt
  refine A_Reader_readSum ?_
  have tail : ∀ n i r cs' w1, i + n = 300 → 2 * i ≤ r → cs'.length ≤ r → kq c w w1 → psx w1 c Z b r cs' → (∀ C r2 w', xCh Z o opS n r = .ok (C, r2) → kq c w w' → psx w' c Z b r2 (cs' ++ C) → Q 1 w') → (∀ e w', xCh Z o opS n r = .error e → kq c w w' → erx w' e → Q 0 w') → qAt s d c_Reader_readSum (qQi Q) 33 [some (.ref 25), some (.int (nI (8 - f))), none, some (.int (nI i))] [] w1 := by
    intro n
    induction n with
    | zero =>
      intro i r cs' w1 hi hr hl1 k1 p1
      have := p1.cur.la
      omega
    | succ n ih =>
      intro i r cs' w1 hi hr hl1 k1 p1 hy1 hn1
      have u1 := p1.cur
      have tb := yT_b u1.la byt
      have more : ∀ v, v = opS (yT Z r) → ¬ v = 0 → v ≤ 7 → 3 ≤ v → ∀ i1 : Int32, i1 = nI (10007 + v) → qCall (some s) d 42 [.ref 25] w1 (qQv fun w4 => qAt s d c_Reader_readSum (qQi Q) 4 [some (.ref 25), some (.int (nI (8 - f))), some (.int i1), some (.int (nI i + (1 : Int32)))] [] w4) := by
        intro v ev v0 v7 v3 i1 ei
        rw [ev] at v0
        rw [xCh_S v0] at hy1 hn1
        have t0 := tb.2.2.2.1 (fun z => v0 (opS_0 _ z))
        refine c_adv (by omega) u1 (fun w2 k2 u2 => A_Reader_readSum_4 ?_)
        rw [nI_1, show (300 : Int32) = nI 300 from rfl, nI_leI (by omega) (by omega)]
        refine ⟨fun g => by omega, fun _ => ho d w2 _ (yN Z r) cs' (by omega) (p1.ka hc k2 u2) (by omega) (fun C r1 w3 e3 k3 p3 => ?_) (fun e w3 e3 k3 x3 => ?_)⟩
        · have kk := kq_tr k1 (kq_tr (kq_ka hc k2) k3)
          have b3 := ob _ tb.2.2.1 C r1 e3
          refine ⟨fun _ => ⟨fun g => absurd g (by rw [ei]; exact nI_pos0 (by omega) (by omega)), fun _ => ⟨c, p3.cur.ref, ?_⟩⟩, fun g => absurd g (by decide)⟩
          rw [al_c hc, qB_1]
          have l1 : (cs' ++ C).length = cs'.length + C.length := List.length_append
          refine c_step (x := (v, 0)) (by omega) hc p3 (by omega) (by rw [ei]; unfold enc; rw [if_neg (show ¬ v = 0 by omega), if_neg (show ¬ v = 1 by omega), if_neg (show ¬ v = 2 by omega), if_pos (show v ≤ 7 from v7)]) (fun w5 k5 p5 => ?_)
          rw [e3] at hy1 hn1
          refine ih (i + 1) r1 _ w5 (by omega) (by omega) (by rw [List.length_append, l1]; show _ + 1 ≤ _; omega) (kq_tr kk k5) p5 (fun C2 r2 w6 e6 k6 p6 => ?_) (fun e w6 e6 k6 x6 => ?_)
          · have hq := hy1 (C ++ (opS (yT Z r), 0) :: C2) r2 w6 (by first | rw [e6] | (dsimp only; rw [e6])) k6
            rw [← ev] at hq
            refine hq ?_
            rw [show cs' ++ (C ++ (v, 0) :: C2) = cs' ++ C ++ [(v, 0)] ++ C2 by simp]
            exact p6
          · exact hn1 e w6 (by first | rw [e6] | (dsimp only; rw [e6])) k6 x6
        · rw [e3] at hn1
          exact ⟨fun g => absurd rfl g, fun _ => hn1 e w3 rfl (kq_tr k1 (kq_tr (kq_ka hc k2) k3)) x3⟩
      refine A_Reader_readSum_33 ?_
      rw [show (43 : Int32) = nI 43 from rfl, show (45 : Int32) = nI 45 from rfl, u1.is (by omega) (by omega), u1.is (by omega) (by omega)]
      refine ⟨fun g1 => ⟨fun g2 => ⟨fun z => absurd rfl z, fun _ => ?_⟩, fun g => ⟨fun _ => ?_, fun z => absurd z (by decide)⟩⟩, fun g => ⟨fun _ => ?_, fun z => absurd z (by decide)⟩⟩
      · have e0 : opS (yT Z r) = 0 := by unfold opS; rw [if_neg g1, if_neg g2]
        refine hy1 [] r w1 (xCh_Z e0) k1 ?_
        rw [List.append_nil]; exact p1
      · exact more 4 (by unfold opS; rw [g]; rfl) (by decide) (by decide) (by decide) _ rfl
      · exact more 3 (by unfold opS; rw [g]; rfl) (by decide) (by decide) (by decide) _ rfl
  refine A_Reader_readSum_4 ⟨fun g => absurd g (by decide), fun _ => ho d w _ a cs (by omega) h hl (fun C r1 w3 e3 k3 p3 => ?_) (fun e w3 e3 k3 x3 => ?_)⟩
  · unfold xCn at hy hn
    rw [e3] at hy hn
    have b3 := ob _ h.cur.la C r1 e3
    refine ⟨fun _ => ⟨fun _ => tail 300 0 r1 (cs ++ C) w3 rfl (Nat.zero_le _) (by rw [List.length_append]; omega) k3 p3 (fun C2 r2 w6 e6 k6 p6 => hy (C ++ C2) r2 w6 (by first | rw [e6] | (dsimp only; rw [e6])) k6 ?_) (fun e w6 e6 k6 x6 => hn e w6 (by first | rw [e6] | (dsimp only; rw [e6])) k6 x6), fun g => absurd rfl g⟩, fun g => absurd g (by decide)⟩
    rw [← List.append_assoc]; exact p6
  · unfold xCn at hn
    rw [e3] at hn
    exact ⟨fun g => absurd rfl g, fun _ => hn e w3 rfl k3 x3⟩
theorem c_sumOf {f k : Nat} (hc : txc c) (hk : 4 ≤ k) (ho : cRd s c Z b 82 [.int (nI (8 - f))] k (xOne Z b f)) : cRd s c Z b 80 [.int (nI (8 - f))] (k + 2) (xSm Z (xOne Z b f)) :=
  c_readSum (f := f) (k := k + 1) hc (by omega) (fun byt => xCn_b byt opP_0 (xOne_b byt f)) (c_readProduct hc hk ho)
theorem xLf_o {o : xR} (h1 : ¬ (yT Z a).1 = 1) (h2 : ¬ (yT Z a).1 = 2) : xLf Z b a o = o := by
  unfold xLf
  rw [if_neg h1, if_neg h2]
theorem c_readOne (hc : txc c) : ∀ f, f ≤ 8 → cRd s c Z b 82 [.int (nI (8 - f))] (3 * f + 5) (xOne Z b f)
  | 0, _ => by
    intro d w Q a cs hd h hl hy hn
    obtain ⟨d, rfl, hd1⟩ := dS hd
    have u := h.cur
    unfold xOne at hy hn
    refine A_Reader_readOne ?_
    rw [show (2 : Int32) = nI 2 from rfl, show (1 : Int32) = nI 1 from rfl, show (40 : Int32) = nI 40 from rfl, show (45 : Int32) = nI 45 from rfl, u.is2, u.is1, u.is (by omega) (by omega), u.is (by omega) (by omega)]
    have deep : ((yT Z a).1 = 40 ∨ (yT Z a).1 = 45) → qAt s d c_Reader_readOne (qQi Q) 94 [some (.ref 25), some (.int (nI (8 - 0))), none, none] [] w := by
      intro g
      rw [xLf_o (by omega) (by omega), if_pos g] at hn
      refine A_Reader_readOne_94 ⟨fun z => absurd z (by decide), fun _ => ?_⟩
      exact c_fail (f := 3) (by omega) hc u (by decide) (by decide) (fun w' k' e' => hn _ w' rfl k' e')
    refine ⟨fun g => c_leaf (by omega) hc h hl (Or.inl g) hy hn, fun g1 => ⟨fun g2 => ⟨fun g => deep (Or.inl g), fun g3 => ⟨fun g => deep (Or.inr g), fun g4 => ?_⟩⟩, fun g => c_leaf (by omega) hc h hl (Or.inr g) hy hn⟩⟩
    rw [xLf_o g1 g2, if_neg (by omega)] at hn
    exact c_fail (f := 1) (by omega) hc u (by decide) (by decide) (fun w' k' e' => hn _ w' rfl k' e')
  | f + 1, hf => by
    intro d w Q a cs hd h hl hy hn
    obtain ⟨d, rfl, hd1⟩ := dS hd
    have u := h.cur
    have byt := u.cc.byt
    have l3 := u.cc.l3
    have tb := yT_b u.la byt
    have ih := c_readOne hc f (by omega)
    have e8 : nI (8 - (f + 1)) + (1 : Int32) = nI (8 - f) := by rw [nI_1]; congr 1; omega
    unfold xOne at hy hn
    refine A_Reader_readOne ?_
    rw [show (2 : Int32) = nI 2 from rfl, show (1 : Int32) = nI 1 from rfl, show (40 : Int32) = nI 40 from rfl, show (45 : Int32) = nI 45 from rfl, u.is2, u.is1, u.is (by omega) (by omega), u.is (by omega) (by omega)]
    have lt8 : (nI (8 - (f + 1)) < (8 : Int32)) := by
      rw [show (8 : Int32) = nI 8 from rfl, nI_ltI (by omega) (by omega)]; omega
    have neg : (yT Z a).1 = 45 → qAt s d c_Reader_readOne (qQi Q) 94 [some (.ref 25), some (.int (nI (8 - (f + 1)))), none, none] [] w := by
      intro g
      rw [xLf_o (by omega) (by omega), if_pos g] at hy hn
      have t0 := tb.2.2.2.1 (by omega)
      refine A_Reader_readOne_94 ⟨fun _ => ⟨fun z => absurd ((u.is (j := 45) (by omega) (by omega)).mpr g) z, fun _ => A_Reader_readOne_120 ?_⟩, fun z => absurd lt8 z⟩
      refine c_adv (by omega) u (fun w2 k2 u2 => ⟨fun z => absurd z (by decide), fun _ => ?_⟩)
      rw [e8]
      refine ih d w2 _ (yN Z a) cs (by omega) (h.ka hc k2 u2) (by omega) (fun C r1 w3 e3 k3 p3 => ⟨c, p3.cur.ref, ?_⟩) (fun e w3 e3 k3 x3 => ?_)
      · have b3 := xOne_b (b := b) byt f _ tb.2.2.1 C r1 e3
        have l1 : (cs ++ C).length = cs.length + C.length := List.length_append
        rw [al_c hc, qB_1]
        refine c_step (x := (2, 0)) (by omega) hc p3 (by omega) rfl (fun w5 k5 p5 => ?_)
        rw [e3] at hy
        refine hy _ _ w5 rfl (kq_tr (kq_tr (kq_ka hc k2) k3) k5) ?_
        rw [← List.append_assoc]; exact p5
      · rw [e3] at hn
        have hq := fun w' => hn e w' rfl
        -- the step that is added behind a fault tells nothing
        have lenw : w3.2 = w2.2 := k3.1
        have ref3 : w3.2.2.1 25 4 = some c := by rw [lenw]; exact u2.ref
        refine ⟨c, ref3, ?_⟩
        rw [al_c hc, qB_1]
        obtain ⟨d', rfl, -⟩ := dS (k := 0) (d := d) (by omega)
        refine G_addStep hc ⟨fun _ => hq w3 (kq_tr (kq_ka hc k2) k3) x3, fun z1 => ⟨fun _ => hq w3 (kq_tr (kq_ka hc k2) k3) x3, fun z2 => ⟨?_, hq _ (kq_tr (kq_tr (kq_ka hc k2) k3) ?_) ?_⟩⟩⟩
        · intro z
          rcases z with z | z
          · exact z1 z
          · refine z2 ?_
            rw [Int32.le_iff_toInt_le]
            have q1 := Int32.le_iff_toInt_le.mp (Int32.not_lt.mp z1)
            have q2 : (w3.1 c 3).toNatClampNeg = (w3.1 c 3).toInt.toNat := rfl
            have q3 : (300 : Int32).toInt = 300 := rfl
            have q4 : (0 : Int32).toInt = 0 := rfl
            rw [q2] at z
            omega
        · have n : ¬ c = 25 := by unfold txc at hc; omega
          have n2 : ¬ c + 4 = 25 := by unfold txc at hc; omega
          refine ⟨rfl, fun x h1 h2 h3 => funext fun g => by rw [pI_c h2, pI_c h3], fun g hg => by rw [pI_f (by omega), pI_c (by omega)], ?_, ?_⟩
          · rw [pI_c (fun q => n q.symm), pI_c (fun q => n2 q.symm)]
          · rw [pI_c (fun q => n q.symm), pI_c (fun q => n2 q.symm)]
        · have n : ¬ c = 25 := by unfold txc at hc; omega
          have n2 : ¬ c + 4 = 25 := by unfold txc at hc; omega
          refine ⟨?_, ?_, x3.2.2⟩
          · rw [pI_c (fun q => n q.symm), pI_c (fun q => n2 q.symm)]; exact x3.1
          · rw [pI_c (fun q => n q.symm), pI_c (fun q => n2 q.symm)]; exact x3.2.1
    have par : (yT Z a).1 = 40 → qAt s d c_Reader_readOne (qQi Q) 94 [some (.ref 25), some (.int (nI (8 - (f + 1)))), none, none] [] w := by
      intro g
      rw [xLf_o (by omega) (by omega), if_neg (by omega), if_pos g] at hy hn
      have t0 := tb.2.2.2.1 (by omega)
      refine A_Reader_readOne_94 ⟨fun _ => ⟨fun _ => A_Reader_readOne_120 ?_, fun z => absurd ((u.is (j := 45) (by omega) (by omega)).mp z) (by omega)⟩, fun z => absurd lt8 z⟩
      refine c_adv (by omega) u (fun w2 k2 u2 => ⟨fun _ => ?_, fun z => absurd rfl z⟩)
      rw [e8]
      refine c_sumOf hc (by omega) ih d w2 _ (yN Z a) cs (by omega) (h.ka hc k2 u2) (by omega) (fun C r1 w3 e3 k3 p3 => ⟨fun _ => ?_, fun z => absurd z (by decide)⟩) (fun e w3 e3 k3 x3 => ?_)
      · rw [e3] at hy hn
        have hy : ∀ C' r w', (if (yT Z r1).1 = 41 then (.ok (C, yN Z r1) : xR) else xF Z 1 r1) = .ok (C', r) → kq c w w' → psx w' c Z b r (cs ++ C') → Q 1 w' := hy
        have hn : ∀ e w', (if (yT Z r1).1 = 41 then (.ok (C, yN Z r1) : xR) else xF Z 1 r1) = .error e → kq c w w' → erx w' e → Q 0 w' := hn
        rw [show (41 : Int32) = nI 41 from rfl, p3.cur.is (by omega) (by omega)]
        refine ⟨fun g2 => ?_, fun g2 => ?_⟩
        · rw [if_pos g2] at hy
          exact c_adv (by omega) p3.cur (fun w4 k4 u4 => hy _ _ w4 rfl (kq_tr (kq_tr (kq_ka hc k2) k3) (kq_ka hc k4)) (p3.ka hc k4 u4))
        · rw [if_neg g2] at hn
          exact c_fail (f := 1) (by omega) hc p3.cur (by decide) (by decide) (fun w' k' e' => hn _ w' rfl (kq_tr (kq_tr (kq_ka hc k2) k3) k') e')
      · rw [e3] at hn
        exact ⟨fun z => absurd rfl z, fun _ => hn e w3 rfl (kq_tr (kq_ka hc k2) k3) x3⟩
    refine ⟨fun g => c_leaf (by omega) hc h hl (Or.inl g) hy hn, fun g1 => ⟨fun g2 => ⟨fun g => par g, fun g3 => ⟨fun g => neg g, fun g4 => ?_⟩⟩, fun g => c_leaf (by omega) hc h hl (Or.inr g) hy hn⟩⟩
    rw [xLf_o g1 g2, if_neg g4, if_neg g3] at hn
    exact c_fail (f := 1) (by omega) hc u (by decide) (by decide) (fun w' k' e' => hn _ w' rfl k' e')
theorem c_sum (hc : txc c) {f : Nat} (hf : f ≤ 8) : cRd s c Z b 80 [.int (nI (8 - f))] (3 * f + 7) (xSm Z (xOne Z b f)) := c_sumOf hc (by omega) (c_readOne hc f hf)
/-- two sums and what holds between them -/
theorem c_cmp {f : Nat} (hc : txc c) (hf : f ≤ 8) (hd : 3 * f + 7 ≤ d) (h : psx w c Z b a cs) (hl : cs.length ≤ a) (hy : ∀ C r w', xCp Z b f a = .ok (C, r) → kq c w w' → psx w' c Z b r (cs ++ C) → Q 1 w') (hn : ∀ e w', xCp Z b f a = .error e → kq c w w' → erx w' e → Q 0 w') : qCall (some s) d 80 [.ref 25, .int (nI (8 - f))] w (qQi fun x4 w3 =>
        (¬ x4 = 0 →
          qCall (some s) d 88 [.ref 25] w3 (qQi fun x6 w5 =>
            (¬ x6 = 0 →
              qCall (some s) d 42 [.ref 25] w5 (qQv fun w7 =>
                qCall (some s) d 80 [.ref 25, .int (nI (8 - f))] w7 (qQi fun x9 w8 =>
                  (¬ x9 = 0 →
                    ∃ u10, w8.2.2.1 25 4 = some u10 ∧ (qB (qAl (some s) w8 u10 4) (qCall (some s) d 85 [.ref u10, .int x6] w8 (qQv fun w11 =>
                      Q (1 : Int32) w11)))) ∧
                  (x9 = 0 →
                    Q (0 : Int32) w8)))) ∧
            (x6 = 0 →
              qCall (some s) d 75 [.ref 25, .int (1 : Int32)] w5 (qQi fun x13 w12 =>
                qB (qZb x13) (Q x13 w12))))) ∧
        (x4 = 0 →
          Q (0 : Int32) w3)) := by
  have byt := h.cur.cc.byt
  have l3 := h.cur.cc.l3
  have sm := c_sum (s := s) (Z := Z) (b := b) hc hf
  have sb := xSm_b byt (xOne_b (b := b) byt f)
  unfold xCp at hy hn
  refine sm d w _ a cs hd h hl (fun C r1 w3 e3 k3 p3 => ⟨fun _ => ?_, fun z => absurd z (by decide)⟩) (fun e w3 e3 k3 x3 => ?_)
  · rw [e3] at hy hn
    have b3 := sb _ h.cur.la C r1 e3
    have l1 : (cs ++ C).length = cs.length + C.length := List.length_append
    have tb := yT_b p3.cur.la byt
    have hy : ∀ C' r w', (if opC (yT Z r1) = 0 then xF Z 1 r1 else match xSm Z (xOne Z b f) (yN Z r1) with
      | .error e => .error e
      | .ok (c2, r2) => .ok (C ++ (c2 ++ [(opC (yT Z r1), 0)]), r2)) = (.ok (C', r) : xR) → kq c w w' → psx w' c Z b r (cs ++ C') → Q 1 w' := hy
    have hn : ∀ e w', (if opC (yT Z r1) = 0 then xF Z 1 r1 else match xSm Z (xOne Z b f) (yN Z r1) with
      | .error e => .error e
      | .ok (c2, r2) => .ok (C ++ (c2 ++ [(opC (yT Z r1), 0)]), r2)) = (.error e : xR) → kq c w w' → erx w' e → Q 0 w' := hn
    refine c_comparing (by omega) p3.cur (fun g => ?_) (fun g => ?_)
    · rw [if_neg g] at hy hn
      have oc := opC_r _ g
      have t0 := tb.2.2.2.1 (fun z => g (opC_0 _ z))
      refine ⟨fun _ => c_adv (by omega) p3.cur (fun w4 k4 u4 => sm d w4 _ (yN Z r1) (cs ++ C) hd (p3.ka hc k4 u4) (by omega) (fun C2 r2 w5 e5 k5 p5 => ⟨fun _ => ⟨c, p5.cur.ref, ?_⟩, fun z => absurd z (by decide)⟩) (fun e w5 e5 k5 x5 => ?_)), fun z => absurd z (nI_pos0 (by omega) (by omega))⟩
      · rw [e5] at hy
        have b5 := sb _ tb.2.2.1 C2 r2 e5
        have l2 : (cs ++ C ++ C2).length = cs.length + C.length + C2.length := by rw [List.length_append, l1]
        rw [al_c hc, qB_1]
        refine c_step (x := (opC (yT Z r1), 0)) (by omega) hc p5 (by omega) ?_ (fun w6 k6 p6 => ?_)
        · unfold enc
          show _ = nI (if opC (yT Z r1) = 0 then _ else if opC (yT Z r1) = 1 then _ else if opC (yT Z r1) = 2 then _ else if opC (yT Z r1) ≤ 7 then _ else if opC (yT Z r1) ≤ 15 then _ else _)
          rw [if_neg g, if_neg (by omega), if_neg (by omega), if_neg (by omega), if_pos oc.2]
        · refine hy _ _ w6 rfl (kq_tr k3 (kq_tr (kq_ka hc k4) (kq_tr k5 k6))) ?_
          rw [show cs ++ (C ++ (C2 ++ [(opC (yT Z r1), 0)])) = cs ++ C ++ C2 ++ [(opC (yT Z r1), 0)] by simp]
          exact p6
      · rw [e5] at hn
        exact ⟨fun z => absurd rfl z, fun _ => hn e w5 rfl (kq_tr k3 (kq_tr (kq_ka hc k4) k5)) x5⟩
    · rw [if_pos g] at hn
      exact ⟨fun z => absurd rfl z, fun _ => c_fail (f := 1) (by omega) hc p3.cur (by decide) (by decide) (fun w' k' e' => hn _ w' rfl (kq_tr k3 k') e')⟩
  · rw [e3] at hn
    exact ⟨fun z => absurd rfl z, fun _ => hn e w3 rfl k3 x3⟩
theorem c_readAsk (hc : txc c) : ∀ f, f ≤ 8 → cRd s c Z b 87 [.int (nI (8 - f))] (3 * f + 8) (xAsk Z b f) := by
  intro f
  induction f with
  | zero =>
    intro hf d w Q a cs hd h hl hy hn
    obtain ⟨d, rfl, hd1⟩ := dS hd
    have u := h.cur
    unfold xAsk at hy hn
    refine A_Reader_readAsk (c_isWord (k := 13) (by omega) u (by omega) (by omega) (tI_b (fun g => ?_) (fun g => ?_)))
    · have g := of_decide_eq_true g
      rw [if_pos g] at hn
      exact ⟨fun z => absurd z (by decide), fun _ => c_fail (f := 3) (by omega) hc u (by decide) (by decide) (fun w' k' e' => hn _ w' rfl k' e')⟩
    · have g := of_decide_eq_false g
      rw [if_neg g] at hy hn
      exact c_cmp hc (by omega) (by omega) h hl hy hn
  | succ f ih =>
    intro hf d w Q a cs hd h hl hy hn
    obtain ⟨d, rfl, hd1⟩ := dS hd
    have u := h.cur
    have byt := u.cc.byt
    have l3 := u.cc.l3
    have tb := yT_b u.la byt
    unfold xAsk at hy hn
    refine A_Reader_readAsk (c_isWord (k := 13) (by omega) u (by omega) (by omega) (tI_b (fun g => ?_) (fun g => ?_)))
    · have g := of_decide_eq_true g
      rw [if_pos g] at hy hn
      have t0 := tb.2.2.2.1 (by omega)
      have e8 : nI (8 - (f + 1)) + (1 : Int32) = nI (8 - f) := by rw [nI_1]; congr 1; omega
      rw [show (8 : Int32) = nI 8 from rfl, nI_ltI (by omega) (by omega), e8]
      refine ⟨fun _ => c_adv (by omega) u (fun w2 k2 u2 => ih (by omega) d w2 _ (yN Z a) cs (by omega) (h.ka hc k2 u2) (by omega) (fun C r1 w3 e3 k3 p3 => ⟨fun _ => ⟨c, p3.cur.ref, ?_⟩, fun z => absurd z (by decide)⟩) (fun e w3 e3 k3 x3 => ?_)), fun z => absurd (by omega) z⟩
      · have b3 := xAsk_b (b := b) byt f _ tb.2.2.1 C r1 e3
        have l1 : (cs ++ C).length = cs.length + C.length := List.length_append
        rw [al_c hc, qB_1]
        refine c_step (x := (20, 0)) (by omega) hc p3 (by omega) rfl (fun w5 k5 p5 => ?_)
        rw [e3] at hy
        refine hy _ _ w5 rfl (kq_tr (kq_tr (kq_ka hc k2) k3) k5) ?_
        rw [← List.append_assoc]; exact p5
      · rw [e3] at hn
        exact ⟨fun z => absurd rfl z, fun _ => hn e w3 rfl (kq_tr (kq_ka hc k2) k3) x3⟩
    · have g := of_decide_eq_false g
      rw [if_neg g] at hy hn
      exact c_cmp hc (by omega) (by omega) h hl hy hn
end ParseC2
