/-! text: the class: clauses, and the call. -/
section TextC
variable {s : Nat × (Nat → Int32)} {d : Nat} {w : qW} {Q : Int32 → qW → Prop} {R : qW → Prop} {Z : vZ} {a c : Nat} {b : Bool} {cs : List (Nat × Nat)} {cl : List xC} {N K : vS} {T : Nat → vT}
theorem opA_1 {t : yK} (h : t.1 = 2 ∧ t.2.1 = 14) : opA t = 21 := if_pos h
theorem opA_n {t : yK} (h : ¬ (t.1 = 2 ∧ t.2.1 = 14)) : opA t = 0 := if_neg h
theorem opO_1 {t : yK} (h : t.1 = 2 ∧ t.2.1 = 15) : opO t = 22 := if_pos h
theorem opO_n {t : yK} (h : ¬ (t.1 = 2 ∧ t.2.1 = 15)) : opO t = 0 := if_neg h
theorem xCn_ee {o : Nat → xR} {op : yK → Nat} {e : Nat × Nat} (h : o a = .error e) : xCn Z o op a = .error e := by
  unfold xCn; rw [h]
theorem xCn_oe {o : Nat → xR} {op : yK → Nat} {C : xSt} {r : Nat} {e : Nat × Nat} (h : o a = .ok (C, r)) (h2 : xCh Z o op 300 r = .error e) : xCn Z o op a = .error e := by
  unfold xCn; rw [h]; dsimp only; rw [h2]
theorem xCn_oo {o : Nat → xR} {op : yK → Nat} {C C2 : xSt} {r r2 : Nat} (h : o a = .ok (C, r)) (h2 : xCh Z o op 300 r = .ok (C2, r2)) : xCn Z o op a = .ok (C ++ C2, r2) := by
  unfold xCn; rw [h]; dsimp only; rw [h2]
theorem xCh_ee {o : Nat → xR} {op : yK → Nat} {k r v : Nat} {e : Nat × Nat} (h0 : op (yT Z r) = v) (hv : ¬ v = 0) (h : o (yN Z r) = .error e) : xCh Z o op (k + 1) r = .error e := by
  rw [xCh_S (by rw [h0]; exact hv), h]
theorem xCh_oe {o : Nat → xR} {op : yK → Nat} {k r r1 v : Nat} {C : xSt} {e : Nat × Nat} (h0 : op (yT Z r) = v) (hv : ¬ v = 0) (h : o (yN Z r) = .ok (C, r1)) (h2 : xCh Z o op k r1 = .error e) : xCh Z o op (k + 1) r = .error e := by
  rw [xCh_S (by rw [h0]; exact hv), h]; dsimp only; rw [h2]
theorem xCh_oo {o : Nat → xR} {op : yK → Nat} {k r r1 r2 v : Nat} {C C2 : xSt} (h0 : op (yT Z r) = v) (hv : ¬ v = 0) (h : o (yN Z r) = .ok (C, r1)) (h2 : xCh Z o op k r1 = .ok (C2, r2)) : xCh Z o op (k + 1) r = .ok (C ++ (v, 0) :: C2, r2) := by
  rw [xCh_S (by rw [h0]; exact hv), h]; dsimp only; rw [h2, h0]
theorem c_readEither (hc : txc c) : cRd s c Z b 86 [] 33 (xEi Z b) := by
  intro d w Q a cs hd h hl hy hn
  obtain ⟨d, rfl, hd1⟩ := dS hd
  have byt := h.cur.cc.byt
  have l3 := h.cur.cc.l3
  have ask := c_readAsk (s := s) (Z := Z) (b := b) hc 8 (Nat.le_refl _)
  have ab := fun a => xAsk_b (Z := Z) (b := b) byt 8 a
  have andb := xCh_b (op := opA) byt opA_0 ab
  -- what is joined by and
  have tailA : ∀ (i1 : Int32) (i2 : Nat) n i r cs' w1, i + n = 300 → 2 * i ≤ r → cs'.length ≤ r → kq c w w1 → psx w1 c Z b r cs' → (∀ C r2 w', xCh Z (xAsk Z b 8) opA n r = .ok (C, r2) → kq c w w' → psx w' c Z b r2 (cs' ++ C) → (i1 = 0 → qAt s d c_Reader_readEither (qQi Q) 83 [some (.ref 25), none, some (.int (nI i2)), none] [] w') ∧ (¬ i1 = 0 → ∃ u5, w'.2.2.1 25 4 = some u5 ∧ (qB (qAl (some s) w' u5 4) (qCall (some s) d 85 [.ref u5, .int (10022 : Int32)] w' (qQv fun w6 => qAt s d c_Reader_readEither (qQi Q) 83 [some (.ref 25), none, some (.int (nI i2)), none] [] w6))))) → (∀ e w', xCh Z (xAsk Z b 8) opA n r = .error e → kq c w w' → erx w' e → Q 0 w') → qAt s d c_Reader_readEither (qQi Q) 23 [some (.ref 25), some (.int i1), some (.int (nI i2)), some (.int (nI i))] [] w1 := by
    intro i1 i2 n
    induction n with
    | zero =>
      intro i r cs' w1 hi hr hl1 k1 p1
      have := p1.cur.la
      omega
    | succ n ih =>
      intro i r cs' w1 hi hr hl1 k1 p1 hy1 hn1
      have u1 := p1.cur
      have ur := u1.la
      have tb := yT_b u1.la byt
      refine A_Reader_readEither_23 ⟨fun g => ?_, fun _ => c_isWord (k := 14) (by omega) u1 (by omega) (by omega) (tI_b (fun g => ?_) (fun g => ?_))⟩
      · rw [show (300 : Int32) = nI 300 from rfl, nI_leI (by omega) (by omega)] at g; omega
      · have g := of_decide_eq_true g
        have v1 := opA_1 g
        have t0 := tb.2.2.2.1 (by omega)
        refine c_adv (by omega) u1 (fun w2 k2 u2 => ask d w2 _ (yN Z r) cs' (by omega) (p1.ka hc k2 u2) (by omega) (fun C r1 w3 e3 k3 p3 => ⟨fun _ => ⟨c, p3.cur.ref, ?_⟩, fun z => absurd z (by decide)⟩) (fun e w3 e3 k3 x3 => ?_))
        · have kk := kq_tr k1 (kq_tr (kq_ka hc k2) k3)
          have b3 := ab _ tb.2.2.1 C r1 e3
          have l1 : (cs' ++ C).length = cs'.length + C.length := List.length_append
          rw [al_c hc, qB_1]
          refine c_step (x := (21, 0)) (by omega) hc p3 (by omega) rfl (fun w5 k5 p5 => ?_)
          rw [nI_1]
          refine ih (i + 1) r1 _ w5 (by omega) (by omega) (by rw [List.length_append, l1]; show _ + 1 ≤ _; omega) (kq_tr kk k5) p5 (fun C2 r2 w6 e6 k6 p6 => ?_) (fun e w6 e6 k6 x6 => ?_)
          · refine hy1 (C ++ (21, 0) :: C2) r2 w6 (xCh_oo v1 (by decide) e3 e6) k6 ?_
            rw [show cs' ++ (C ++ (21, 0) :: C2) = cs' ++ C ++ [(21, 0)] ++ C2 by simp]
            exact p6
          · exact hn1 e w6 (xCh_oe v1 (by decide) e3 e6) k6 x6
        · exact ⟨fun z => absurd rfl z, fun _ => hn1 e w3 (xCh_ee v1 (by decide) e3) (kq_tr k1 (kq_tr (kq_ka hc k2) k3)) x3⟩
      · have g := of_decide_eq_false g
        refine hy1 [] r w1 (xCh_Z (opA_n g)) k1 ?_
        rw [List.append_nil]; exact p1
  -- what is joined by or
  have tailO : ∀ m j r cs' w1, j + m = 300 → 2 * j ≤ r → cs'.length ≤ r → kq c w w1 → psx w1 c Z b r cs' → (∀ C r2 w', xCh Z (xCn Z (xAsk Z b 8) opA) opO m r = .ok (C, r2) → kq c w w' → psx w' c Z b r2 (cs' ++ C) → Q 1 w') → (∀ e w', xCh Z (xCn Z (xAsk Z b 8) opA) opO m r = .error e → kq c w w' → erx w' e → Q 0 w') → qAt s d c_Reader_readEither (qQi Q) 83 [some (.ref 25), none, some (.int (nI j)), none] [] w1 := by
    intro m
    induction m with
    | zero =>
      intro j r cs' w1 hi hr hl1 k1 p1
      have := p1.cur.la
      omega
    | succ m ih =>
      intro j r cs' w1 hi hr hl1 k1 p1 hy1 hn1
      have u1 := p1.cur
      have ur := u1.la
      have tb := yT_b u1.la byt
      refine A_Reader_readEither_83 (c_isWord (k := 15) (by omega) u1 (by omega) (by omega) (tI_n (fun g => ?_) (fun g => ?_)))
      · have g := of_decide_eq_true g
        have v1 := opO_1 g
        have t0 := tb.2.2.2.1 (by omega)
        refine c_adv (by omega) u1 (fun w2 k2 u2 => ?_)
        rw [nI_1]
        refine A_Reader_readEither_4 ⟨fun g => ?_, fun _ => ask d w2 _ (yN Z r) cs' (by omega) (p1.ka hc k2 u2) (by omega) (fun C r1 w3 e3 k3 p3 => ⟨fun _ => ?_, fun z => absurd z (by decide)⟩) (fun e w3 e3 k3 x3 => ?_)⟩
        · rw [show (300 : Int32) = nI 300 from rfl, nI_leI (by omega) (by omega)] at g; omega
        · have kk := kq_tr k1 (kq_tr (kq_ka hc k2) k3)
          have b3 := ab _ tb.2.2.1 C r1 e3
          have l1 : (cs' ++ C).length = cs'.length + C.length := List.length_append
          refine tailA (1 : Int32) (j + 1) 300 0 r1 (cs' ++ C) w3 rfl (Nat.zero_le _) (by omega) kk p3 (fun C2 r2 w5 e5 k5 p5 => ⟨fun z => absurd z (by decide), fun _ => ⟨c, p5.cur.ref, ?_⟩⟩) (fun e w5 e5 k5 x5 => hn1 e w5 (xCh_ee v1 (by decide) (xCn_oe e3 e5)) k5 x5)
          have b5 := andb 300 r1 b3.2.2 C2 r2 e5
          have l2 : (cs' ++ C ++ C2).length = cs'.length + C.length + C2.length := by rw [List.length_append, l1]
          rw [al_c hc, qB_1]
          refine c_step (x := (22, 0)) (by omega) hc p5 (by omega) rfl (fun w6 k6 p6 => ?_)
          refine ih (j + 1) r2 _ w6 (by omega) (by omega) (by rw [List.length_append, l2]; show _ + 1 ≤ _; omega) (kq_tr k5 k6) p6 (fun C3 r3 w7 e7 k7 p7 => ?_) (fun e w7 e7 k7 x7 => hn1 e w7 (xCh_oe v1 (by decide) (xCn_oo e3 e5) e7) k7 x7)
          refine hy1 (C ++ C2 ++ (22, 0) :: C3) r3 w7 (xCh_oo v1 (by decide) (xCn_oo e3 e5) e7) k7 ?_
          rw [show cs' ++ (C ++ C2 ++ (22, 0) :: C3) = cs' ++ C ++ C2 ++ [(22, 0)] ++ C3 by simp]
          exact p7
        · exact ⟨fun z => absurd rfl z, fun _ => hn1 e w3 (xCh_ee v1 (by decide) (xCn_ee e3)) (kq_tr k1 (kq_tr (kq_ka hc k2) k3)) x3⟩
      · have g := of_decide_eq_false g
        refine hy1 [] r w1 (xCh_Z (opO_n g)) k1 ?_
        rw [List.append_nil]; exact p1
  refine A_Reader_readEither (A_Reader_readEither_4 ⟨fun g => absurd g (by decide), fun _ => ask d w _ a cs (by omega) h hl (fun C r1 w3 e3 k3 p3 => ⟨fun _ => ?_, fun z => absurd z (by decide)⟩) (fun e w3 e3 k3 x3 => ⟨fun z => absurd rfl z, fun _ => hn e w3 (xCn_ee (xCn_ee e3)) k3 x3⟩)⟩)
  have b3 := ab _ h.cur.la C r1 e3
  have l1 : (cs ++ C).length = cs.length + C.length := List.length_append
  refine tailA (0 : Int32) 0 300 0 r1 (cs ++ C) w3 rfl (Nat.zero_le _) (by omega) k3 p3 (fun C2 r2 w5 e5 k5 p5 => ⟨fun _ => ?_, fun z => absurd rfl z⟩) (fun e w5 e5 k5 x5 => hn e w5 (xCn_ee (xCn_oe e3 e5)) k5 x5)
  have b5 := andb 300 r1 b3.2.2 C2 r2 e5
  have l2 : (cs ++ C ++ C2).length = cs.length + C.length + C2.length := by rw [List.length_append, l1]
  refine tailO 300 0 r2 _ w5 rfl (Nat.zero_le _) (by omega) k5 p5 (fun C3 r3 w7 e7 k7 p7 => hy (C ++ C2 ++ C3) r3 w7 (xCn_oo (xCn_oo e3 e5) e7) k7 ?_) (fun e w7 e7 k7 x7 => hn e w7 (xCn_oe (xCn_oo e3 e5) e7) k7 x7)
  rw [show cs ++ (C ++ C2 ++ C3) = cs ++ C ++ C2 ++ C3 by simp]
  exact p7
/-! clauses -/
def kz (c : Nat) (w w' : qW) : Prop := w'.2 = w.2 ∧ (∀ x, ¬ x = 25 → (x < c ∨ c + 4 < x) → w'.1 x = w.1 x) ∧ w'.1 25 1 = w.1 25 1
theorem kz_rf (c : Nat) (w : qW) : kz c w w := ⟨rfl, fun _ _ _ => rfl, rfl⟩
theorem kz_tr {w w' w'' : qW} (h : kz c w w') (h' : kz c w' w'') : kz c w w'' := ⟨h'.1.trans h.1, fun x h1 h2 => (h'.2.1 x h1 h2).trans (h.2.1 x h1 h2), h'.2.2.trans h.2.2⟩
theorem kz_kq {w w' : qW} (h : kq c w w') : kz c w w' := ⟨h.1, fun x h1 h2 => h.2.1 x h1 (by omega) (by omega), h.2.2.2.1⟩
def ptx (w : qW) (c : Nat) (Z : vZ) (a : Nat) (cs : xSt) : Prop := (cu w c Z a) ∧ (w.1 c 3 = nI cs.length) ∧ (cs.length ≤ 300) ∧ (∀ j, j < cs.length → w.1 (c + 4) j = nI (enc (cs.getD j (0, 0)))) ∧ (w.1 25 2 = nI 0 ∧ w.1 25 3 = -(nI 1))
theorem ptx.cur {w : qW} {c : Nat} {Z : vZ} {a : Nat} {cs : xSt} (h : ptx w c Z a cs) : cu w c Z a := h.1
theorem ptx.len {w : qW} {c : Nat} {Z : vZ} {a : Nat} {cs : xSt} (h : ptx w c Z a cs) : w.1 c 3 = nI cs.length := h.2.1
theorem ptx.l3 {w : qW} {c : Nat} {Z : vZ} {a : Nat} {cs : xSt} (h : ptx w c Z a cs) : cs.length ≤ 300 := h.2.2.1
theorem ptx.cod {w : qW} {c : Nat} {Z : vZ} {a : Nat} {cs : xSt} (h : ptx w c Z a cs) : ∀ j, j < cs.length → w.1 (c + 4) j = nI (enc (cs.getD j (0, 0))) := h.2.2.2.1
theorem ptx.flt {w : qW} {c : Nat} {Z : vZ} {a : Nat} {cs : xSt} (h : ptx w c Z a cs) : w.1 25 2 = nI 0 ∧ w.1 25 3 = -(nI 1) := h.2.2.2.2
theorem ptx.mk {w : qW} {c : Nat} {Z : vZ} {a : Nat} {cs : xSt} (f_cur : cu w c Z a) (f_len : w.1 c 3 = nI cs.length) (f_l3 : cs.length ≤ 300) (f_cod : ∀ j, j < cs.length → w.1 (c + 4) j = nI (enc (cs.getD j (0, 0)))) (f_flt : w.1 25 2 = nI 0 ∧ w.1 25 3 = -(nI 1)) : ptx w c Z a cs := ⟨f_cur, f_len, f_l3, f_cod, f_flt⟩
theorem psx.pt (h : psx w c Z b a cs) : ptx w c Z a cs := ptx.mk h.cur h.len h.l3 h.cod h.flt
theorem ptx.ka {w' : qW} {r : Nat} (hc : txc c) (h : ptx w c Z a cs) (k : ka w w') (u : cu w' c Z r) : ptx w' c Z r cs := by
  have n : ¬ c = 25 := by unfold txc at hc; omega
  have n2 : ¬ c + 4 = 25 := by unfold txc at hc; omega
  refine ptx.mk u ?_ h.l3 (fun j hj => ?_) ?_
  · rw [k.2.1 c n]; exact h.len
  · rw [k.2.1 _ n2]; exact h.cod j hj
  · rw [k.2.2 2 (by decide), k.2.2 3 (by decide)]; exact h.flt
theorem ptx.px {v : Int32} (hc : txc c) (h : ptx w c Z a cs) (hv : v = tI (!b)) : psx (qPutI w 25 5 v) c Z b a cs := by
  have n : ¬ c = 25 := by unfold txc at hc; omega
  have n2 : ¬ c + 4 = 25 := by unfold txc at hc; omega
  have u := h.cur
  refine psx.mk (cu.mk u.ref (ct.mk ?_ u.cc.l3 (fun j hj => ?_) u.cc.byt) u.la ?_ ?_ ?_ (fun q => ?_)) ?_ ?_ h.l3 (fun j hj => ?_) ?_
  · rw [pI_f (by decide)]; exact u.cc.len
  · rw [pI_c (by decide)]; exact u.cc.tape j hj
  · rw [pI_f (by decide)]; exact u.tok
  · rw [pI_f (by decide)]; exact u.pl
  · rw [pI_f (by decide)]; exact u.en
  · rw [pI_f (by decide)]; exact u.val q
  · rw [pI_e]; exact hv
  · rw [pI_c n]; exact h.len
  · rw [pI_c n2]; exact h.cod j hj
  · rw [pI_f (by decide), pI_f (by decide)]; exact h.flt
def tx (w : qW) (c : Nat) (cl : List xC) (cs : xSt) : Prop := (w.1 c 0 = nI cl.length) ∧ (∃ k, w.1 c 1 = nI k ∧ k ≤ cl.length ∧ (k = 0 ↔ ∀ j, j < cl.length → ¬ (cl.getD j xz).1 = 1)) ∧ ((w.1 c 2 = -(nI 1) ∧ ∀ k, k < cl.length → ¬ (cl.getD k xz).1 = 2) ∨ ∃ k, k < cl.length ∧ w.1 c 2 = nI k ∧ (cl.getD k xz).1 = 2) ∧ (∀ k, k < cl.length → w.1 (c + 1) k = nI (cl.getD k xz).1) ∧ (∀ k, k < cl.length → 3 ≤ (cl.getD k xz).1 → w.1 (c + 2) k = nI (cl.getD k xz).2.1 ∧ w.1 (c + 3) k = nI (cl.getD k xz).2.2.1) ∧ (∀ k, k < cl.length → (cl.getD k xz).1 ≤ 2 → ∃ f, w.1 (c + 2) k = nI f ∧ w.1 (c + 3) k = nI (f + (cl.getD k xz).2.2.2.length) ∧ f + (cl.getD k xz).2.2.2.length ≤ cs.length ∧ ∀ j, j < (cl.getD k xz).2.2.2.length → cs.getD (f + j) (0, 0) = (cl.getD k xz).2.2.2.getD j (0, 0))
theorem tx.nc {w : qW} {c : Nat} {cl : List xC} {cs : xSt} (h : tx w c cl cs) : w.1 c 0 = nI cl.length := h.1
theorem tx.bar {w : qW} {c : Nat} {cl : List xC} {cs : xSt} (h : tx w c cl cs) : ∃ k, w.1 c 1 = nI k ∧ k ≤ cl.length ∧ (k = 0 ↔ ∀ j, j < cl.length → ¬ (cl.getD j xz).1 = 1) := h.2.1
theorem tx.wor {w : qW} {c : Nat} {cl : List xC} {cs : xSt} (h : tx w c cl cs) : (w.1 c 2 = -(nI 1) ∧ ∀ k, k < cl.length → ¬ (cl.getD k xz).1 = 2) ∨ ∃ k, k < cl.length ∧ w.1 c 2 = nI k ∧ (cl.getD k xz).1 = 2 := h.2.2.1
theorem tx.kin {w : qW} {c : Nat} {cl : List xC} {cs : xSt} (h : tx w c cl cs) : ∀ k, k < cl.length → w.1 (c + 1) k = nI (cl.getD k xz).1 := h.2.2.2.1
theorem tx.lf {w : qW} {c : Nat} {cl : List xC} {cs : xSt} (h : tx w c cl cs) : ∀ k, k < cl.length → 3 ≤ (cl.getD k xz).1 → w.1 (c + 2) k = nI (cl.getD k xz).2.1 ∧ w.1 (c + 3) k = nI (cl.getD k xz).2.2.1 := h.2.2.2.2.1
theorem tx.cod {w : qW} {c : Nat} {cl : List xC} {cs : xSt} (h : tx w c cl cs) : ∀ k, k < cl.length → (cl.getD k xz).1 ≤ 2 → ∃ f, w.1 (c + 2) k = nI f ∧ w.1 (c + 3) k = nI (f + (cl.getD k xz).2.2.2.length) ∧ f + (cl.getD k xz).2.2.2.length ≤ cs.length ∧ ∀ j, j < (cl.getD k xz).2.2.2.length → cs.getD (f + j) (0, 0) = (cl.getD k xz).2.2.2.getD j (0, 0) := h.2.2.2.2.2
theorem tx.mk {w : qW} {c : Nat} {cl : List xC} {cs : xSt} (f_nc : w.1 c 0 = nI cl.length) (f_bar : ∃ k, w.1 c 1 = nI k ∧ k ≤ cl.length ∧ (k = 0 ↔ ∀ j, j < cl.length → ¬ (cl.getD j xz).1 = 1)) (f_wor : (w.1 c 2 = -(nI 1) ∧ ∀ k, k < cl.length → ¬ (cl.getD k xz).1 = 2) ∨ ∃ k, k < cl.length ∧ w.1 c 2 = nI k ∧ (cl.getD k xz).1 = 2) (f_kin : ∀ k, k < cl.length → w.1 (c + 1) k = nI (cl.getD k xz).1) (f_lf : ∀ k, k < cl.length → 3 ≤ (cl.getD k xz).1 → w.1 (c + 2) k = nI (cl.getD k xz).2.1 ∧ w.1 (c + 3) k = nI (cl.getD k xz).2.2.1) (f_cod : ∀ k, k < cl.length → (cl.getD k xz).1 ≤ 2 → ∃ f, w.1 (c + 2) k = nI f ∧ w.1 (c + 3) k = nI (f + (cl.getD k xz).2.2.2.length) ∧ f + (cl.getD k xz).2.2.2.length ≤ cs.length ∧ ∀ j, j < (cl.getD k xz).2.2.2.length → cs.getD (f + j) (0, 0) = (cl.getD k xz).2.2.2.getD j (0, 0)) : tx w c cl cs := ⟨f_nc, f_bar, f_wor, f_kin, f_lf, f_cod⟩
theorem tx.mv {w' : qW} {C : List (Nat × Nat)} (h : tx w c cl cs) (e0 : ∀ f, f < 3 → w'.1 c f = w.1 c f) (e1 : ∀ x, c < x → x < c + 4 → w'.1 x = w.1 x) : tx w' c cl (cs ++ C) := by
  refine tx.mk ?_ ?_ ?_ ?_ ?_ ?_
  · rw [e0 0 (by decide)]; exact h.nc
  · rw [e0 1 (by decide)]; exact h.bar
  · rw [e0 2 (by decide)]; exact h.wor
  · rw [e1 (c + 1) (by omega) (by omega)]; exact h.kin
  · rw [e1 (c + 2) (by omega) (by omega), e1 (c + 3) (by omega) (by omega)]; exact h.lf
  · rw [e1 (c + 2) (by omega) (by omega), e1 (c + 3) (by omega) (by omega)]
    intro k hk h2
    obtain ⟨f, f1, f2, f3, f4⟩ := h.cod k hk h2
    refine ⟨f, f1, f2, by rw [List.length_append]; omega, fun j hj => ?_⟩
    rw [List.getD_eq_getElem?_getD, List.getElem?_append_left (by omega), ← List.getD_eq_getElem?_getD]
    exact f4 j hj
theorem tx.kq {w' : qW} {C : List (Nat × Nat)} (hc : txc c) (h : tx w c cl cs) (k : kq c w w') : tx w' c cl (cs ++ C) :=
  h.mv k.2.2.1 (fun x h1 h2 => k.2.1 x (by unfold txc at hc; omega) (by omega) (by omega))
theorem tx.ka {w' : qW} (hc : txc c) (h : tx w c cl cs) (k : ka w w') : tx w' c cl cs := by
  have := h.kq (C := []) hc (kq_ka hc k)
  rw [List.append_nil] at this
  exact this
/-- a clause behind the others -/
def acx (c n : Nat) (i1 i2 i3 : Int32) (w w' : qW) : Prop := w'.2 = w.2 ∧ (∀ x, (x < c ∨ c + 3 < x) → w'.1 x = w.1 x) ∧ w'.1 c 3 = w.1 c 3 ∧ w'.1 c 0 = nI (n + 1) ∧ w'.1 c 1 = (if i1 = 1 then w.1 c 1 + 1 else w.1 c 1) ∧ w'.1 c 2 = (if i1 = 2 then nI n else w.1 c 2) ∧ (∀ j, w'.1 (c + 1) j = if j = n then i1 else w.1 (c + 1) j) ∧ (∀ j, w'.1 (c + 2) j = if j = n then i2 else w.1 (c + 2) j) ∧ ∀ j, w'.1 (c + 3) j = if j = n then i3 else w.1 (c + 3) j
theorem G_addClause {i1 i2 i3 : Int32} (hc : txc c) (h : ((w.1 c 0) < 0 → R w) ∧
  (¬ (w.1 c 0) < 0 →
    ((w.1 c 0) < (24 : Int32) →
      qIn (w.1 c 0) 24 ∧
      (qIn (w.1 c 0) 24 ∧
      (qIn (w.1 c 0) 24 ∧
      ((¬ i1 = (1 : Int32) →
        qAt s d c_Text_addClause (qQv R) 62 [some (.ref c), some (.int i1), none, none] [] (qPutI (qPutI (qPutI w (c + 1) (qIx (w.1 c 0)) i1) (c + 2) (qIx (w.1 c 0)) i2) (c + 3) (qIx (w.1 c 0)) i3)) ∧
      (i1 = (1 : Int32) →
        qAt s d c_Text_addClause (qQv R) 62 [some (.ref c), some (.int i1), none, none] [] (qPutI (qPutI (qPutI (qPutI w (c + 1) (qIx (w.1 c 0)) i1) (c + 2) (qIx (w.1 c 0)) i2) (c + 3) (qIx (w.1 c 0)) i3) c 1 ((w.1 c 1) + (1 : Int32)))))))) ∧
    (¬ (w.1 c 0) < (24 : Int32) →
      R w))) : qCall (some s) (d + 1) 78 [.ref c, .int i1, .int i2, .int i3] w (qQv R) := by
  rcases hc with rfl | rfl | rfl | rfl
  · exact A_Text_addClause_27 h
  · exact A_Text_addClause_32 h
  · exact A_Text_addClause_37 h
  · exact A_Text_addClause_42 h
theorem G_addClause_62 {i1 : Int32} (hc : txc c) (h :
  (¬ i1 = (2 : Int32) →
    R (qPutI w c 0 ((w.1 c 0) + (1 : Int32)))) ∧
  (i1 = (2 : Int32) →
    R (qPutI (qPutI w c 2 (w.1 c 0)) c 0 ((w.1 c 0) + (1 : Int32))))) : qAt s d c_Text_addClause (qQv R) 62 [some (.ref c), some (.int i1), none, none] [] w := by
  rcases hc with rfl | rfl | rfl | rfl
  · exact A_Text_addClause_27_62 h
  · exact A_Text_addClause_32_62 h
  · exact A_Text_addClause_37_62 h
  · exact A_Text_addClause_42_62 h
theorem c_addClause {n : Nat} {i1 i2 i3 : Int32} (hd : 1 ≤ d) (hc : txc c) (h0 : w.1 c 0 = nI n) (hn : n < 24) (hQ : ∀ w', acx c n i1 i2 i3 w w' → R w') : qCall (some s) d 78 [.ref c, .int i1, .int i2, .int i3] w (qQv R) := by
  obtain ⟨d, rfl, -⟩ := dS hd
  refine G_addClause hc ?_
  rw [h0, show (24 : Int32) = nI 24 from rfl, nI_ltI (by omega) (by omega), qIx_nI (by omega)]
  have c1 : ¬ c = c + 1 := by omega
  have c2 : ¬ c = c + 2 := by omega
  have c3 : ¬ c = c + 3 := by omega
  have fin : ∀ w2 : qW, w2.2 = w.2 → (∀ x, (x < c ∨ c + 3 < x) → w2.1 x = w.1 x) → w2.1 c 3 = w.1 c 3 → w2.1 c 0 = nI n → w2.1 c 1 = (if i1 = 1 then w.1 c 1 + 1 else w.1 c 1) → w2.1 c 2 = w.1 c 2 → (∀ j, w2.1 (c + 1) j = if j = n then i1 else w.1 (c + 1) j) → (∀ j, w2.1 (c + 2) j = if j = n then i2 else w.1 (c + 2) j) → (∀ j, w2.1 (c + 3) j = if j = n then i3 else w.1 (c + 3) j) → qAt s d c_Text_addClause (qQv R) 62 [some (.ref c), some (.int i1), none, none] [] w2 := by
    intro w2 h1 h2 h3 h4 h5 h6 h7 h8 h9
    refine G_addClause_62 hc ?_
    rw [h4, nI_1]
    refine ⟨fun g => hQ _ ⟨h1, fun x hx => ?_, ?_, ?_, ?_, ?_, fun j => ?_, fun j => ?_, fun j => ?_⟩, fun g => hQ _ ⟨h1, fun x hx => ?_, ?_, ?_, ?_, ?_, fun j => ?_, fun j => ?_, fun j => ?_⟩⟩
    · rw [← h2 x hx]; exact funext fun g => pI_c (by omega)
    · rw [pI_f (by decide)]; exact h3
    · rw [pI_e]
    · rw [pI_f (by decide)]; exact h5
    · rw [pI_f (by decide), if_neg g]; exact h6
    · rw [pI_c (by omega)]; exact h7 j
    · rw [pI_c (by omega)]; exact h8 j
    · rw [pI_c (by omega)]; exact h9 j
    · rw [← h2 x hx]; exact funext fun g => by rw [pI_c (by omega), pI_c (by omega)]
    · rw [pI_f (by decide), pI_f (by decide)]; exact h3
    · rw [pI_e]
    · rw [pI_f (by decide), pI_f (by decide)]; exact h5
    · rw [pI_f (by decide), pI_e, if_pos g]
    · rw [pI_c (by omega), pI_c (by omega)]; exact h7 j
    · rw [pI_c (by omega), pI_c (by omega)]; exact h8 j
    · rw [pI_c (by omega), pI_c (by omega)]; exact h9 j
  have pj : ∀ (w0 : qW) (x j : Nat) (v : Int32), (qPutI w0 x n v).1 x j = if j = n then v else w0.1 x j := by
    intro w0 x j v
    by_cases e : j = n
    · rw [if_pos e, e, pI_e]
    · rw [if_neg e, pI_f e]
  refine ⟨fun g => absurd g (nI_nn (by omega)), fun _ => ⟨fun _ => ⟨qIn_nI hn (by decide), qIn_nI hn (by decide), qIn_nI hn (by decide), fun g => ?_, fun g => ?_⟩, fun g => absurd hn g⟩⟩
  · refine fin _ rfl (fun x hx => funext fun f => by rw [pI_c (by omega), pI_c (by omega), pI_c (by omega)]) ?_ ?_ ?_ ?_ (fun j => ?_) (fun j => ?_) (fun j => ?_)
    · rw [pI_c c3, pI_c c2, pI_c c1]
    · rw [pI_c c3, pI_c c2, pI_c c1]; exact h0
    · rw [pI_c c3, pI_c c2, pI_c c1, if_neg g]
    · rw [pI_c c3, pI_c c2, pI_c c1]
    · rw [pI_c (by omega), pI_c (by omega), pj]
    · rw [pI_c (by omega), pj, pI_c (by omega)]
    · rw [pj, pI_c (by omega), pI_c (by omega)]
  · refine fin _ rfl (fun x hx => funext fun f => by rw [pI_c (by omega), pI_c (by omega), pI_c (by omega), pI_c (by omega)]) ?_ ?_ ?_ ?_ (fun j => ?_) (fun j => ?_) (fun j => ?_)
    · rw [pI_f (by decide), pI_c c3, pI_c c2, pI_c c1]
    · rw [pI_f (by decide), pI_c c3, pI_c c2, pI_c c1]; exact h0
    · rw [pI_e, if_pos g]
    · rw [pI_f (by decide), pI_c c3, pI_c c2, pI_c c1]
    · rw [pI_c (by omega), pI_c (by omega), pI_c (by omega), pj]
    · rw [pI_c (by omega), pI_c (by omega), pj, pI_c (by omega)]
    · rw [pI_c (by omega), pj, pI_c (by omega), pI_c (by omega)]
theorem acx.kz {n : Nat} {i1 i2 i3 : Int32} {w' : qW} (hc : txc c) (h : acx c n i1 i2 i3 w w') : kz c w w' := ⟨h.1, fun x _ h2 => h.2.1 x (by omega), by rw [h.2.1 25 (by unfold txc at hc; omega)]⟩
theorem acx.pt {n : Nat} {i1 i2 i3 : Int32} {w' : qW} (hc : txc c) (h : acx c n i1 i2 i3 w w') (p : ptx w c Z a cs) : ptx w' c Z a cs := by
  have e25 := h.2.1 25 (by unfold txc at hc; omega)
  have e26 := h.2.1 26 (by unfold txc at hc; omega)
  have e4 := h.2.1 (c + 4) (by omega)
  have u := p.cur
  refine ptx.mk (cu.mk (by rw [h.1]; exact u.ref) (ct.mk (by rw [e25]; exact u.cc.len) u.cc.l3 (by rw [e26]; exact u.cc.tape) u.cc.byt) u.la (by rw [e25]; exact u.tok) (by rw [e25]; exact u.pl) (by rw [e25]; exact u.en) (by rw [e25]; exact u.val)) (by rw [h.2.2.1]; exact p.len) p.l3 (by rw [e4]; exact p.cod) (by rw [e25]; exact p.flt)
theorem nI_12 {k : Nat} (h1 : 1 ≤ k) (h4 : k ≤ 4) : (nI k = (1 : Int32) ↔ k = 1) ∧ (nI k = (2 : Int32) ↔ k = 2) := ⟨nI_eq (by omega) (by decide), nI_eq (by omega) (by decide)⟩
theorem acx.tx {i2 i3 : Int32} {x : xC} {w' : qW} (h1 : 1 ≤ x.1) (h4 : x.1 ≤ 4) (hl : cl.length < 24) (h : acx c cl.length (nI x.1) i2 i3 w w') (t : tx w c cl cs) (hlf : 3 ≤ x.1 → i2 = nI x.2.1 ∧ i3 = nI x.2.2.1) (hcd : x.1 ≤ 2 → ∃ f, i2 = nI f ∧ i3 = nI (f + x.2.2.2.length) ∧ f + x.2.2.2.length ≤ cs.length ∧ ∀ j, j < x.2.2.2.length → cs.getD (f + j) (0, 0) = x.2.2.2.getD j (0, 0)) : tx w' c (cl ++ [x]) cs := by
  obtain ⟨_, _, _, a0, a1, a2, a3, a4, a5⟩ := h
  have l : (cl ++ [x]).length = cl.length + 1 := List.length_append
  have q := nI_12 h1 h4
  refine tx.mk (by rw [l]; exact a0) ?_ ?_ (fun k hk => ?_) (fun k hk => ?_) (fun k hk => ?_)
  · obtain ⟨k, k1, k2, k3⟩ := t.bar
    by_cases e : x.1 = 1
    · refine ⟨k + 1, by rw [a1, if_pos (q.1.mpr e), k1, nI_1], by omega, fun z => by omega, fun z => ?_⟩
      have := z cl.length (by omega)
      rw [gd_r] at this
      exact absurd e this
    · refine ⟨k, by rw [a1, if_neg (fun z => e (q.1.mp z)), k1], by omega, ?_⟩
      rw [k3]
      refine ⟨fun z j hj => ?_, fun z j hj => ?_⟩
      · by_cases ej : j = cl.length
        · rw [ej, gd_r]; exact e
        · rw [gd_l (by omega)]; exact z j (by omega)
      · have := z j (by omega)
        rw [gd_l hj] at this
        exact this
  · by_cases e : x.1 = 2
    · exact Or.inr ⟨cl.length, by omega, by rw [a2, if_pos (q.2.mpr e)], by rw [gd_r]; exact e⟩
    · rw [if_neg (fun z => e (q.2.mp z))] at a2
      rcases t.wor with ⟨z1, z2⟩ | ⟨k, z1, z2, z3⟩
      · refine Or.inl ⟨by rw [a2]; exact z1, fun k hk => ?_⟩
        by_cases ej : k = cl.length
        · rw [ej, gd_r]; exact e
        · rw [gd_l (by omega)]; exact z2 k (by omega)
      · exact Or.inr ⟨k, by omega, by rw [a2]; exact z2, by rw [gd_l z1]; exact z3⟩
  · rw [a3]
    by_cases e : k = cl.length
    · rw [if_pos e, e, gd_r]
    · rw [if_neg e, gd_l (by omega)]; exact t.kin k (by omega)
  · rw [a4, a5]
    by_cases e : k = cl.length
    · rw [if_pos e, if_pos e, e, gd_r]; exact hlf
    · rw [if_neg e, if_neg e, gd_l (by omega)]; exact t.lf k (by omega)
  · rw [a4, a5]
    by_cases e : k = cl.length
    · rw [if_pos e, if_pos e, e, gd_r]; exact hcd
    · rw [if_neg e, if_neg e, gd_l (by omega)]; exact t.cod k (by omega)
theorem c_isNumberOf {lo hi : Nat} (hd : 2 ≤ d) (hc : txc c) (h : cu w c Z a) (hlo : lo ≤ 1) (hhi : hi ≤ 9999) (hy : ∀ u r, xNu Z lo hi a = .ok (u, r) → Q 1 w) (hn : ∀ e w', xNu Z lo hi a = .error e → kq c w w' → erx w' e → Q 0 w') : qCall (some s) d 77 [.ref 25, .int (nI lo), .int (nI hi)] w (qQi Q) := by
  obtain ⟨d, rfl, hd1⟩ := dS hd
  have bb := h.b
  refine A_Reader_isNumberOf ?_
  rw [show (2 : Int32) = nI 2 from rfl, h.is2]
  refine ⟨fun g => ?_, fun g => ?_⟩
  · rw [h.val g, nI_ltI (by omega) (by omega), nI_leI (by omega) (by omega)]
    refine ⟨fun g2 => ?_, fun g2 => ⟨fun g3 => ?_, fun g3 => ?_⟩⟩
    · refine c_fail (f := 2) hd1 hc h (by decide) (by decide) (fun w' k' e' => ⟨fun _ => hn _ w' ?_ k' e', fun z => absurd rfl z⟩)
      unfold xNu; rw [if_pos g, if_neg (by omega)]
    · refine hy (yT Z a).2.1 (yN Z a) ?_
      unfold xNu; rw [if_pos g, if_pos ⟨by omega, g3⟩]
    · refine c_fail (f := 2) hd1 hc h (by decide) (by decide) (fun w' k' e' => ⟨fun _ => hn _ w' ?_ k' e', fun z => absurd rfl z⟩)
      unfold xNu; rw [if_pos g, if_neg (by omega)]
  · refine c_fail (f := 1) hd1 hc h (by decide) (by decide) (fun w' k' e' => hn _ w' ?_ k' e')
    unfold xNu; rw [if_neg g]
theorem c_readTwo {k : Nat} (hd : 3 ≤ d) (hc : txc c) (hk : k = 3 ∨ k = 4) (h : ptx w c Z a cs) (t : tx w c cl cs) (hl : cl.length < 24) (hy : ∀ x r w', xTwo Z k a = .ok (x, r) → kz c w w' → ptx w' c Z r cs → tx w' c (cl ++ [x]) cs → Q 1 w') (hn : ∀ e w', xTwo Z k a = .error e → kz c w w' → erx w' e → Q 0 w') : qCall (some s) d 76 [.ref 25, .int (nI k), .int (nI (xLo k)), .int (nI (xMx k))] w (qQi Q) := by
  obtain ⟨d, rfl, hd1⟩ := dS hd
  have lo : xLo k ≤ 1 := by unfold xLo; split <;> decide
  have hi : xMx k ≤ 9999 := by unfold xMx; split <;> decide
  have k3 : (nI k = (3 : Int32)) ↔ k = 3 := nI_eq (by omega) (by decide)
  refine A_Reader_readTwo (c_isNumberOf (by omega) hc h.cur lo hi (fun u r e1 => ⟨fun _ => ?_, fun z => absurd z (by decide)⟩) (fun e w' e1 k' x' => ⟨fun z => absurd rfl z, fun _ => hn e w' ?_ (kz_kq k') x'⟩))
  · have n1 := xNu_ok e1
    rw [k3, h.cur.val n1.1]
    have hub := h.cur.b
    unfold xTwo at hy hn
    rw [e1] at hy hn
    dsimp only at hy hn
    have er := n1.2.2.2.2
    subst er
    refine c_adv (by omega) h.cur (fun w2 k2 u2 => ?_)
    have p2 := h.ka hc k2 u2
    have t2 := t.ka hc k2
    have nxt : ∀ is0 : Int32, is0 = tI (xBt Z k (yN Z a)) → qAt s d c_Reader_readTwo (qQi Q) 49 [some (.ref 25), some (.int (nI k)), none, some (.int (nI (xMx k))), some (.int (nI (yT Z a).2.1)), none] [.int is0] w2 := by
      intro is0 ei
      subst ei
      refine A_Reader_readTwo_49 (tI_n (fun g => ?_) (fun g => ?_))
      · rw [if_pos g] at hy hn
        refine c_adv (by omega) u2 (fun w3 k3 u3 => c_isNumberOf (lo := 0) (by omega) hc u3 (by omega) hi (fun v r2 e3 => ⟨fun _ => ⟨c, u3.ref, ?_⟩, fun z => absurd z (by decide)⟩) (fun e w' e3 k' x' => ⟨fun z => absurd rfl z, fun _ => hn e w' (by first | rw [e3] | (dsimp only; rw [e3])) (kz_tr (kz_kq (kq_ka hc k2)) (kz_tr (kz_kq (kq_ka hc k3)) (kz_kq k'))) x'⟩))
        have n3 := xNu_ok e3
        rw [e3] at hy
        have p3 := p2.ka hc k3 u3
        have t3 := t2.ka hc k3
        rw [al_c hc, qB_1, u3.val n3.1]
        refine c_addClause (by omega) hc t3.nc hl (fun w4 a4 => ?_)
        refine c_adv (by omega) (a4.pt hc p3).cur (fun w5 k5 u5 => ?_)
        have e2 := n3.2.2.2.2
        rw [← e2] at u5
        have hh := hy (k, u, v, []) r2 w5 rfl (kz_tr (kz_kq (kq_ka hc k2)) (kz_tr (kz_kq (kq_ka hc k3)) (kz_tr (a4.kz hc) (kz_kq (kq_ka hc k5))))) ((a4.pt hc p3).ka hc k5 u5)
        refine hh (tx.ka hc ?_ k5)
        refine acx.tx (x := (k, u, v, [])) (by show 1 ≤ k; omega) (by show k ≤ 4; omega) hl a4 t3 (fun _ => ⟨by rw [n1.2.2.2.1], by rw [n3.2.2.2.1]⟩) (fun z => ?_)
        have z : k ≤ 2 := z
        omega
      · rw [if_neg (by rw [g]; exact fun q => Bool.noConfusion q)] at hn
        exact c_fail (f := 1) (by omega) hc u2 (by decide) (by decide) (fun w' k' e' => hn _ w' rfl (kz_tr (kz_kq (kq_ka hc k2)) (kz_kq k')) e')
    refine ⟨fun g => ?_, fun g => c_isWord (k := 5) (by omega) u2 (by omega) (by omega) (nxt _ ?_)⟩
    · rw [show (44 : Int32) = nI 44 from rfl, u2.is (by omega) (by omega)]
      refine ⟨fun g2 => nxt _ ?_, fun g2 => nxt _ ?_⟩
      · unfold xBt; rw [if_neg g, decide_eq_false g2]; rfl
      · unfold xBt; rw [if_neg g, decide_eq_true g2]; rfl
    · unfold xBt; rw [if_pos g]
  · unfold xTwo; rw [e1]
theorem c_takeSemi (hd : 3 ≤ d) (hc : txc c) (h : cu w c Z a) (hy : ∀ w', (yT Z a).1 = 59 → ka w w' → cu w' c Z (yN Z a) → Q 1 w') (hn : ∀ w', ¬ (yT Z a).1 = 59 → kq c w w' → erx w' (1, (yT Z a).2.2) → Q 0 w') : qCall (some s) d 79 [.ref 25, .int (59 : Int32)] w (qQi Q) := by
  obtain ⟨d, rfl, hd1⟩ := dS hd
  refine A_Reader_takeSign ?_
  rw [show (59 : Int32) = nI 59 from rfl, h.is (by omega) (by omega)]
  exact ⟨fun g => c_adv (by omega) h (fun w' k' u' => hy w' g k' u'), fun g => c_fail (f := 1) (by omega) hc h (by decide) (by decide) (fun w' k' e' => hn w' g k' e')⟩
theorem xTwo_b {k : Nat} (hb : ∀ j, j < Z.1 → Z.2.1 j < 256) (h : a ≤ Z.1) {x : xC} {r : Nat} (e : xTwo Z k a = .ok (x, r)) : a ≤ r ∧ r ≤ Z.1 := by
  unfold xTwo at e
  cases e1 : xNu Z (xLo k) (xMx k) a with
  | error q => rw [e1] at e; cases e
  | ok p =>
    obtain ⟨u, r1⟩ := p
    rw [e1] at e
    have n1 := xNu_ok e1
    have b1 := yT_b h hb
    dsimp only at e
    by_cases q : xBt Z k r1 = true
    · rw [if_pos q] at e
      have er := n1.2.2.2.2
      subst er
      have b2 := yT_b b1.2.2.1 hb
      have b3 := yT_b b2.2.2.1 hb
      cases e2 : xNu Z 0 (xMx k) (yN Z (yN Z a)) with
      | error q => rw [e2] at e; cases e
      | ok p =>
        obtain ⟨v, r2⟩ := p
        rw [e2] at e
        have n2 := xNu_ok e2
        dsimp only at e
        cases e
        rw [n2.2.2.2.2]
        omega
    · rw [if_neg q] at e; cases e
theorem c_readClause (hd : 34 ≤ d) (hc : txc c) (h : ptx w c Z a cs) (hca : cs.length ≤ a) (t : tx w c cl cs) (hl : cl.length ≤ 24) (hy : ∀ x r cs' w', xCl Z cl.length (xOn cl) a = .ok (x, r) → kz c w w' → ptx w' c Z r cs' → cs'.length ≤ r → tx w' c (cl ++ [x]) cs' → R w') (hn : ∀ e w', xCl Z cl.length (xOn cl) a = .error e → kz c w w' → erx w' e → R w') : qCall (some s) d 66 [.ref 25, .int (nI cl.length)] w (qQi fun _ w1 => R w1) := by
  obtain ⟨d, rfl, hd1⟩ := dS hd
  have u := h.cur
  have byt := u.cc.byt
  have tb := yT_b u.la byt
  have kb := yKd_b (yT Z a)
  refine A_Reader_readClause (c_clauseKind (by omega) u ?_)
  generalize ek : yKd (yT Z a) = k at kb
  rw [eq0 (by omega), show (2 : Int32) = nI 2 from rfl, nI_eq (by omega) (by omega)]
  unfold xCl at hy hn
  rw [ek] at hy hn
  refine ⟨fun g0 => ?_, fun g0 => ?_⟩
  · rw [if_neg g0] at hy hn
    have main : ¬ (k = 2 ∧ xOn cl = true) → qAt s d c_Reader_readClause (qQi fun _ w1 => R w1) 37 [some (.ref 25), some (.int (nI cl.length)), some (.int (nI k)), none, none] [] w := by
      intro g1
      rw [if_neg g1] at hy hn
      refine A_Reader_readClause_37 ?_
      rw [show (24 : Int32) = nI 24 from rfl, nI_ltI (by omega) (by omega)]
      refine ⟨fun g2 => ?_, fun g2 => ?_⟩
      · rw [if_neg (by omega)] at hy hn
        have t0 : a < yN Z a := tb.2.2.2.1 (fun z => g0 (by rw [← ek]; unfold yKd; rw [if_neg (by omega)]))
        refine c_adv (by omega) u (fun w1 k1 u1 => ?_)
        have p1 := h.ka hc k1 u1
        have t1 := t.ka hc k1
        have kk1 := kz_kq (kq_ka hc k1)
        rw [show (3 : Int32) = nI 3 from rfl, show (4 : Int32) = nI 4 from rfl, show (2 : Int32) = nI 2 from rfl, nI_eq (by omega) (by omega), nI_eq (by omega) (by omega), nI_eq (by omega) (by omega)]
        have two : (k = 3 ∨ k = 4) → qCall (some s) d 76 [.ref 25, .int (nI k), .int (nI (xLo k)), .int (nI (xMx k))] w1 (qQi fun x3 w2 => (x3 = 0 → R w2) ∧ (¬ x3 = 0 → qCall (some s) d 79 [.ref 25, .int (59 : Int32)] w2 (qQi fun x5 w4 => (x5 = 0 → R w4) ∧ (¬ x5 = 0 → R w4)))) := by
          intro gk
          have e3 : xBd Z k (yN Z a) = xTwo Z k (yN Z a) := by unfold xBd; rw [if_pos (by omega)]
          rw [e3] at hy hn
          refine c_readTwo (by omega) hc gk p1 t1 g2 (fun x r w2 e2 k2 p2 t2 => ⟨fun z => absurd z (by decide), fun _ => ?_⟩) (fun e w2 e2 k2 x2 => ⟨fun _ => hn e w2 (by first | rw [e2] | (dsimp only; rw [e2])) (kz_tr kk1 k2) x2, fun z => absurd rfl z⟩)
          rw [e2] at hy hn
          have bt := xTwo_b byt tb.2.2.1 e2
          refine c_takeSemi (by omega) hc p2.cur (fun w3 g3 k3 u3 => ⟨fun z => absurd z (by decide), fun _ => hy x (yN Z r) cs w3 ?_ (kz_tr kk1 (kz_tr k2 (kz_kq (kq_ka hc k3)))) (p2.ka hc k3 u3) ?_ (t2.ka hc k3)⟩) (fun w3 g3 k3 x3 => ⟨fun _ => hn _ w3 ?_ (kz_tr kk1 (kz_tr k2 (kz_kq k3))) x3, fun z => absurd rfl z⟩)
          · dsimp only; rw [if_pos g3]
          · have := (yT_b p2.cur.la byt).2.1
            omega
          · dsimp only; rw [if_neg g3]
        have sums : ∀ (b : Bool) (is0 : Int32), k ≤ 2 → 1 ≤ k → is0 = tI (!b) → b = decide (k = 1) → qAt s d c_Reader_readClause (qQi fun _ w1 => R w1) 128 [some (.ref 25), none, some (.int (nI k)), none, none] [.int is0, .ref 25] w1 := by
          intro b is0 gk gk1 ei eb
          have p1x := p1.px (b := b) hc ei
          have n25 : ¬ c = 25 := by unfold txc at hc; omega
          have e3 : xBd Z k (yN Z a) = match xSu Z k (yN Z a) with
            | .error e => .error e
            | .ok (c, r) => .ok ((k, 0, 0, c), r) := by unfold xBd; rw [if_neg (by omega)]; rfl
          rw [e3] at hy hn
          have kk2 : kz c w (qPutI w1 25 5 is0) := kz_tr kk1 ⟨rfl, fun x h1 _ => funext fun g => pI_c h1, by rw [pI_f (by decide)]⟩
          have t1x : tx (qPutI w1 25 5 is0) c cl cs := by
            have := t1.mv (w' := qPutI w1 25 5 is0) (C := []) (fun f _ => by rw [pI_c n25]) (fun x h1 h2 => funext fun g => pI_c (by unfold txc at hc; omega))
            rw [List.append_nil] at this
            exact this
          have zb : qZb is0 = true := by rw [ei]; exact tI_z _
          refine A_Reader_readClause_128 ?_
          rw [zb, qB_1]
          refine ⟨c, p1x.cur.ref, ?_⟩
          rw [al_c hc, qB_1, show (qPutI w1 25 5 is0).1 c 3 = nI cs.length from p1x.len]
          -- behind the sum
          have fin : ∀ C r w2, xSu Z k (yN Z a) = .ok (C, r) → kq c (qPutI w1 25 5 is0) w2 → psx w2 c Z b r (cs ++ C) → r ≤ Z.1 → yN Z a + C.length ≤ r → qAt s d c_Reader_readClause (qQi fun _ w1 => R w1) 158 [some (.ref 25), none, some (.int (nI k)), some (.int (nI cs.length)), none] [.int (1 : Int32)] w2 := by
            intro C r w2 e2 k2 p2 rb cb
            rw [e2] at hy hn
            have t2 : tx w2 c cl (cs ++ C) := t1x.kq hc k2
            refine A_Reader_readClause_158 ⟨c, p2.cur.ref, c, p2.cur.ref, ?_⟩
            rw [al_c hc, qB_1, qB_1, p2.len]
            refine c_addClause (by omega) hc t2.nc g2 (fun w3 a3 => ⟨fun z => absurd z (by decide), fun _ => ?_⟩)
            have p3 := a3.pt hc p2.pt
            have t3 : tx w3 c (cl ++ [(k, 0, 0, C)]) (cs ++ C) := by
              refine acx.tx (x := (k, 0, 0, C)) gk1 (by show k ≤ 4; omega) g2 a3 t2 (fun z => by have z : 3 ≤ k := z; omega) (fun _ => ⟨cs.length, rfl, by rw [List.length_append], by rw [List.length_append]; exact Nat.le_refl _, fun j hj => ?_⟩)
              rw [List.getD_eq_getElem?_getD, List.getElem?_append_right (by omega), Nat.add_sub_cancel_left, ← List.getD_eq_getElem?_getD]
            have kk3 := kz_tr kk2 (kz_tr (kz_kq k2) (a3.kz hc))
            refine c_takeSemi (by omega) hc p3.cur (fun w4 g4 k4 u4 => ⟨fun z => absurd z (by decide), fun _ => hy (k, 0, 0, C) (yN Z r) (cs ++ C) w4 ?_ (kz_tr kk3 (kz_kq (kq_ka hc k4))) (p3.ka hc k4 u4) ?_ (t3.ka hc k4)⟩) (fun w4 g4 k4 x4 => ⟨fun _ => hn _ w4 ?_ (kz_tr kk3 (kz_kq k4)) x4, fun z => absurd rfl z⟩)
            · dsimp only; rw [if_pos g4]
            · have := (yT_b rb byt).2.1
              rw [List.length_append]
              omega
            · dsimp only; rw [if_neg g4]
          have bad : ∀ e w2, xSu Z k (yN Z a) = .error e → kq c (qPutI w1 25 5 is0) w2 → erx w2 e → qAt s d c_Reader_readClause (qQi fun _ w1 => R w1) 158 [some (.ref 25), none, some (.int (nI k)), some (.int (nI cs.length)), none] [.int (0 : Int32)] w2 := by
            intro e w2 e2 k2 x2
            have r2 : w2.2.2.1 25 4 = some c := by rw [k2.1]; exact p1x.cur.ref
            refine A_Reader_readClause_158 ⟨c, r2, c, r2, ?_⟩
            rw [al_c hc, qB_1, qB_1]
            have n0 : w2.1 c 0 = nI cl.length := by rw [k2.2.2.1 0 (by decide)]; exact t1x.nc
            refine c_addClause (by omega) hc n0 g2 (fun w3 a3 => ⟨fun _ => hn e w3 (by first | rw [e2] | (dsimp only; rw [e2])) (kz_tr kk2 (kz_tr (kz_kq k2) (a3.kz hc))) ?_, fun z => absurd rfl z⟩)
            have e25 := a3.2.1 25 (by unfold txc at hc; omega)
            exact ⟨by rw [e25]; exact x2.1, by rw [e25]; exact x2.2.1, x2.2.2⟩
          refine ⟨fun g3 => ?_, fun g3 => ?_⟩
          · have bt : b = true := by
              cases q : b with
              | true => rfl
              | false => rw [ei, q] at g3; exact absurd g3 (by decide)
            have k1' : k = 1 := by rw [bt] at eb; exact of_decide_eq_true eb.symm
            have es : xSu Z k (yN Z a) = xEi Z b (yN Z a) := by unfold xSu; rw [if_neg (by omega), bt]
            refine c_readEither hc d _ _ (yN Z a) cs (by omega) p1x (by omega) (fun C r w2 e2 k2 p2 => ?_) (fun e w2 e2 k2 x2 => bad e w2 (es.trans e2) k2 x2)
            have bb := xEi_b byt _ tb.2.2.1 C r e2
            exact fin C r w2 (es.trans e2) k2 p2 bb.2.2 bb.1
          · have bt : b = false := by
              cases q : b with
              | false => rfl
              | true => rw [ei, q] at g3; exact absurd rfl g3
            have k1' : k = 2 := by rw [bt] at eb; have := of_decide_eq_false eb.symm; omega
            have es : xSu Z k (yN Z a) = xSm Z (xOne Z b 8) (yN Z a) := by unfold xSu; rw [if_pos k1', bt]
            refine c_sum hc (f := 8) (Nat.le_refl _) d _ _ (yN Z a) cs (by omega) p1x (by omega) (fun C r w2 e2 k2 p2 => ?_) (fun e w2 e2 k2 x2 => bad e w2 (es.trans e2) k2 x2)
            have bb := xSm_b byt (xOne_b byt 8) _ tb.2.2.1 C r e2
            exact fin C r w2 (es.trans e2) k2 p2 bb.2.2 bb.1
        refine ⟨fun g3 => ⟨fun g4 => ⟨fun g5 => sums true _ (by omega) (by omega) rfl (by rw [decide_eq_true (by omega)]), fun g5 => sums false _ (by omega) (by omega) rfl (by rw [decide_eq_false (by omega)])⟩, fun g4 => ?_⟩, fun g3 => ?_⟩
        · have q := two (Or.inr g4)
          have e1 : xLo k = 0 := by unfold xLo; rw [if_neg g3]
          have e2 : xMx k = 11 := by unfold xMx; rw [if_neg g3]
          rw [e1, e2] at q
          exact q
        · have q := two (Or.inl g3)
          have e1 : xLo k = 1 := by unfold xLo; rw [if_pos g3]
          have e2 : xMx k = 9999 := by unfold xMx; rw [if_pos g3]
          rw [e1, e2] at q
          exact q
      · rw [if_pos (by omega)] at hn
        exact c_fail (f := 6) (by omega) hc u (by decide) (by decide) (fun w' k' e' => hn _ w' rfl (kz_kq k') e')
    refine ⟨fun g => main (fun q => g q.1), fun g => ⟨c, u.ref, ?_⟩⟩
    rw [al_c hc, qB_1]
    have on : (w.1 c 2 = (-1 : Int32)) ↔ xOn cl = false := by
      rcases t.wor with ⟨z1, z2⟩ | ⟨j, z1, z2, z3⟩
      · exact ⟨fun _ => xOn_t z2, fun _ => z1⟩
      · refine ⟨fun q => ?_, fun q => absurd z3 (xOn_f q j z1)⟩
        rw [z2] at q
        have q : nI j = -(nI 1) := q
        rw [nI_eqn (by omega) (by omega) (by omega)] at q
        exact q.elim
    rw [on]
    refine ⟨fun g1 => main (fun q => by rw [g1] at q; exact Bool.noConfusion q.2), fun g1 => ?_⟩
    rw [Bool.not_eq_false] at g1
    rw [if_pos ⟨g, g1⟩] at hn
    exact c_fail (f := 4) (by omega) hc u (by decide) (by decide) (fun w' k' e' => hn _ w' rfl (kz_kq k') e')
  · rw [if_pos g0] at hn
    exact c_fail (f := 1) (by omega) hc u (by decide) (by decide) (fun w' k' e' => hn _ w' rfl (kz_kq k') e')
end TextC
