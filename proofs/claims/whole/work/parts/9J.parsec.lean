/-! text: the class's sums and what is asked of them. -/
section ParseC
variable {s : Nat × (Nat → Int32)} {d : Nat} {w : qW} {Q : Int32 → qW → Prop} {R : qW → Prop} {Z : vZ} {a c : Nat} {b : Bool} {cs : List (Nat × Nat)}
theorem G_addStep {i1 : Int32} (hc : txc c) (h : ((w.1 c 3) < 0 → R w) ∧ (¬ (w.1 c 3) < 0 → ((300 : Int32) ≤ (w.1 c 3) → R w) ∧ (¬ (300 : Int32) ≤ (w.1 c 3) → qIn (w.1 c 3) 300 ∧ (R (qPutI (qPutI w (c + 4) (qIx (w.1 c 3)) i1) c 3 ((w.1 c 3) + (1 : Int32))))))) : qCall (some s) (d + 1) 85 [.ref c, .int i1] w (qQv R) := by
  rcases hc with rfl | rfl | rfl | rfl
  · exact A_Text_addStep_27 h
  · exact A_Text_addStep_32 h
  · exact A_Text_addStep_37 h
  · exact A_Text_addStep_42 h
theorem bN {x : Int32} {A B : Prop} (hx : ¬ x = 0) (h : B) : (x = 0 → A) ∧ (¬ x = 0 → B) := ⟨fun e => absurd e hx, fun _ => h⟩
theorem al_c (hc : txc c) : qAl (some s) w c 4 = true := by
  rcases hc with rfl | rfl | rfl | rfl <;> rfl
/-- what is read into the text is all that has changed -/
def kq (c : Nat) (w w' : qW) : Prop := w'.2 = w.2 ∧ (∀ x, ¬ x = 25 → ¬ x = c → ¬ x = c + 4 → w'.1 x = w.1 x) ∧ (∀ f, f < 3 → w'.1 c f = w.1 c f) ∧ w'.1 25 1 = w.1 25 1 ∧ w'.1 25 5 = w.1 25 5
theorem kq_rf (c : Nat) (w : qW) : kq c w w := ⟨rfl, fun _ _ _ _ => rfl, fun _ _ => rfl, rfl, rfl⟩
theorem kq_tr {w w' w'' : qW} (h : kq c w w') (h' : kq c w' w'') : kq c w w'' := ⟨h'.1.trans h.1, fun x h1 h2 h3 => (h'.2.1 x h1 h2 h3).trans (h.2.1 x h1 h2 h3), fun f hf => (h'.2.2.1 f hf).trans (h.2.2.1 f hf), h'.2.2.2.1.trans h.2.2.2.1, h'.2.2.2.2.trans h.2.2.2.2⟩
theorem kq_ka {w w' : qW} (hc : txc c) (h : ka w w') : kq c w w' := by
  have n : ¬ c = 25 := by unfold txc at hc; omega
  exact ⟨h.1, fun x h1 _ _ => h.2.1 x h1, fun f _ => by rw [h.2.1 c n], h.2.2 1 (by decide), h.2.2 5 (by decide)⟩
abbrev xSt : Type := List (Nat × Nat)
def psx (w : qW) (c : Nat) (Z : vZ) (b : Bool) (a : Nat) (cs : xSt) : Prop := (cu w c Z a) ∧ (w.1 25 5 = tI (!b)) ∧ (w.1 c 3 = nI cs.length) ∧ (cs.length ≤ 300) ∧ (∀ j, j < cs.length → w.1 (c + 4) j = nI (enc (cs.getD j (0, 0)))) ∧ (w.1 25 2 = nI 0 ∧ w.1 25 3 = -(nI 1))
theorem psx.cur {w : qW} {c : Nat} {Z : vZ} {b : Bool} {a : Nat} {cs : xSt} (h : psx w c Z b a cs) : cu w c Z a := h.1
theorem psx.inw {w : qW} {c : Nat} {Z : vZ} {b : Bool} {a : Nat} {cs : xSt} (h : psx w c Z b a cs) : w.1 25 5 = tI (!b) := h.2.1
theorem psx.len {w : qW} {c : Nat} {Z : vZ} {b : Bool} {a : Nat} {cs : xSt} (h : psx w c Z b a cs) : w.1 c 3 = nI cs.length := h.2.2.1
theorem psx.l3 {w : qW} {c : Nat} {Z : vZ} {b : Bool} {a : Nat} {cs : xSt} (h : psx w c Z b a cs) : cs.length ≤ 300 := h.2.2.2.1
theorem psx.cod {w : qW} {c : Nat} {Z : vZ} {b : Bool} {a : Nat} {cs : xSt} (h : psx w c Z b a cs) : ∀ j, j < cs.length → w.1 (c + 4) j = nI (enc (cs.getD j (0, 0))) := h.2.2.2.2.1
theorem psx.flt {w : qW} {c : Nat} {Z : vZ} {b : Bool} {a : Nat} {cs : xSt} (h : psx w c Z b a cs) : w.1 25 2 = nI 0 ∧ w.1 25 3 = -(nI 1) := h.2.2.2.2.2
theorem psx.mk {w : qW} {c : Nat} {Z : vZ} {b : Bool} {a : Nat} {cs : xSt} (f_cur : cu w c Z a) (f_inw : w.1 25 5 = tI (!b)) (f_len : w.1 c 3 = nI cs.length) (f_l3 : cs.length ≤ 300) (f_cod : ∀ j, j < cs.length → w.1 (c + 4) j = nI (enc (cs.getD j (0, 0)))) (f_flt : w.1 25 2 = nI 0 ∧ w.1 25 3 = -(nI 1)) : psx w c Z b a cs := ⟨f_cur, f_inw, f_len, f_l3, f_cod, f_flt⟩
theorem psx.ka {w' : qW} {r : Nat} (hc : txc c) (h : psx w c Z b a cs) (k : ka w w') (u : cu w' c Z r) : psx w' c Z b r cs := by
  have n : ¬ c = 25 := by unfold txc at hc; omega
  have n2 : ¬ c + 4 = 25 := by unfold txc at hc; omega
  refine psx.mk u ?_ ?_ h.l3 (fun j hj => ?_) ?_
  · rw [k.2.2 5 (by decide)]; exact h.inw
  · rw [k.2.1 c n]; exact h.len
  · rw [k.2.1 _ n2]; exact h.cod j hj
  · rw [k.2.2 2 (by decide), k.2.2 3 (by decide)]; exact h.flt
def erx (w : qW) (e : Nat × Nat) : Prop := w.1 25 2 = nI e.1 ∧ w.1 25 3 = nI e.2 ∧ 1 ≤ e.1 ∧ e.1 ≤ 6
theorem c_step {x : Nat × Nat} {i1 : Int32} (hd : 1 ≤ d) (hc : txc c) (h : psx w c Z b a cs) (hl : cs.length < 300) (ei : i1 = nI (enc x)) (hQ : ∀ w', kq c w w' → psx w' c Z b a (cs ++ [x]) → R w') : qCall (some s) d 85 [.ref c, .int i1] w (qQv R) := by
  obtain ⟨d, rfl, -⟩ := dS hd
  have n : ¬ c = 25 := by unfold txc at hc; omega
  have n2 : ¬ c + 4 = 25 := by unfold txc at hc; omega
  refine G_addStep hc ?_
  rw [h.len, show (300 : Int32) = nI 300 from rfl, nI_leI (by omega) (by omega), nI_1, qIx_nI (by omega)]
  refine ⟨fun g => absurd g (nI_nn (by omega)), fun _ => ⟨fun g => by omega, fun _ => ⟨qIn_nI hl (by decide), ?_⟩⟩⟩
  have eq : ∀ x, ¬ x = c → ¬ x = c + 4 → (qPutI (qPutI w (c + 4) cs.length i1) c 3 (nI (cs.length + 1))).1 x = w.1 x := fun x h1 h2 => funext fun g => by rw [pI_c h1, pI_c h2]
  have kk : kq c w (qPutI (qPutI w (c + 4) cs.length i1) c 3 (nI (cs.length + 1))) := by
    refine ⟨rfl, fun x _ h2 h3 => eq x h2 h3, fun f hf => ?_, ?_, ?_⟩
    · rw [pI_f (by omega), pI_c (by omega)]
    · rw [eq 25 (fun q => n q.symm) (fun q => n2 q.symm)]
    · rw [eq 25 (fun q => n q.symm) (fun q => n2 q.symm)]
  have e25 := eq 25 (fun q => n q.symm) (fun q => n2 q.symm)
  have e26 := eq 26 (by unfold txc at hc; omega) (by unfold txc at hc; omega)
  have u := h.cur
  refine hQ _ kk (psx.mk (cu.mk u.ref (ct.mk (by rw [e25]; exact u.cc.len) u.cc.l3 (fun j hj => by rw [e26]; exact u.cc.tape j hj) u.cc.byt) u.la (by rw [e25]; exact u.tok) (by rw [e25]; exact u.pl) (by rw [e25]; exact u.en) (by rw [e25]; exact u.val)) ?_ ?_ ?_ (fun j hj => ?_) ?_)
  · rw [e25]; exact h.inw
  · rw [pI_e, List.length_append]; rfl
  · rw [List.length_append]; exact hl
  · rw [List.length_append] at hj
    have hj : j < cs.length + 1 := hj
    rw [pI_c (by omega)]
    by_cases e : j = cs.length
    · rw [e, pI_e, ei, List.getD_eq_getElem?_getD, List.getElem?_append_right (Nat.le_refl _), Nat.sub_self]; rfl
    · rw [pI_f e, List.getD_eq_getElem?_getD, List.getElem?_append_left (by omega), ← List.getD_eq_getElem?_getD]
      exact h.cod j (by omega)
  · rw [e25]; exact h.flt
theorem c_fail {f : Nat} (hd : 1 ≤ d) (hc : txc c) (h : cu w c Z a) (h1 : 1 ≤ f) (h2 : f ≤ 6) (hQ : ∀ w', kq c w w' → erx w' (f, (yT Z a).2.2) → Q 0 w') : qCall (some s) d 75 [.ref 25, .int (nI f)] w (qQi Q) := by
  obtain ⟨d, rfl, -⟩ := dS hd
  have n : ¬ c = 25 := by unfold txc at hc; omega
  have n2 : ¬ c + 4 = 25 := by unfold txc at hc; omega
  refine A_Reader_fail (hQ _ ⟨rfl, fun x hx _ _ => funext fun g => by rw [pI_c hx, pI_c hx], fun g hg => by rw [pI_c n, pI_c n], by rw [pI_f (by decide), pI_f (by decide)], by rw [pI_f (by decide), pI_f (by decide)]⟩ ⟨by rw [pI_f (by decide), pI_e], by rw [pI_e]; exact h.pl, h1, h2⟩)
theorem xF_e {f : Nat} {e : Nat × Nat} (h : xF Z f a = .error e) : e = (f, (yT Z a).2.2) := by
  unfold xF at h
  cases h
  rfl
/-- a leaf; o is what else it may be -/
theorem c_leaf {o : xR} (hd : 4 ≤ d) (hc : txc c) (h : psx w c Z b a cs) (hl : cs.length ≤ a) (ht : (yT Z a).1 = 1 ∨ (yT Z a).1 = 2) (hy : ∀ C r w', xLf Z b a o = .ok (C, r) → kq c w w' → psx w' c Z b r (cs ++ C) → Q 1 w') (hn : ∀ e w', xLf Z b a o = .error e → kq c w w' → erx w' e → Q 0 w') : qAt s d c_Reader_readOne (qQi Q) 16 [some (.ref 25), none, none, none] [] w := by
  have u := h.cur
  have tb := yT_b u.la u.cc.byt
  have l3 := u.cc.l3
  have t0 := tb.2.2.2.1 (by omega)
  have fl : ∀ f, xLf Z b a o = xF Z f a → 1 ≤ f → f ≤ 6 → qCall (some s) d 75 [.ref 25, .int (nI f)] w (qQi fun x11 w10 => qB (qZb x11) (Q x11 w10)) := by
    intro f ef h1 h2
    exact c_fail (by omega) hc u h1 h2 (fun w' k' e' => hn _ w' ef k' e')
  have go : ∀ x i1, xLf Z b a o = .ok ([x], yN Z a) → i1 = nI (enc x) → qCall (some s) d 85 [.ref c, .int i1] w (qQv fun w6 => qCall (some s) d 42 [.ref 25] w6 (qQv fun w7 => Q (1 : Int32) w7)) := by
    intro x i1 ex ei
    refine c_step (x := x) (by omega) hc h (by omega) ei (fun w2 k2 p2 => c_adv (by omega) p2.cur (fun w3 k3 u3 => hy _ _ w3 ex (kq_tr k2 (kq_ka hc k3)) (p2.ka hc k3 u3)))
  refine A_Reader_readOne_16 (c_nameOf (by omega) u ?_)
  obtain ⟨d, rfl, hd1⟩ := dS hd
  refine A_Reader_faultOfLeaf ?_
  rw [show (2 : Int32) = nI 2 from rfl, u.is2]
  by_cases t1 : (yT Z a).1 = 1
  · refine ⟨fun g => absurd t1 g, fun _ => ?_⟩
    rw [u.val t1, show (9999 : Int32) = nI 9999 from rfl, nI_leI (by omega) (by omega)]
    refine ⟨fun g => b0 ⟨c, u.ref, fun g2 => absurd t1 g2, fun _ => ?_⟩, fun g => bN (by decide) ?_⟩
    · rw [al_c hc, qB_1]
      refine go (0, (yT Z a).2.1) _ ?_ rfl
      unfold xLf; rw [if_pos t1, if_pos g]
    · refine fl 2 ?_ (by decide) (by decide)
      unfold xLf; rw [if_pos t1, if_neg g]
  · have t2 : (yT Z a).1 = 2 := by omega
    refine ⟨fun _ => ?_, fun g => absurd g t1⟩
    unfold yNm
    have iw := h.inw
    by_cases q : 6 ≤ (yT Z a).2.1 ∧ (yT Z a).2.1 ≤ 12
    · rw [if_pos ⟨t2, q⟩, show (4 : Int32) = nI 4 from rfl, nI_ltI (by omega) (by omega), iw]
      have ok : b = decide ((yT Z a).2.1 - 6 < 4) → (0 : Int32) = 0 → ∃ u5, w.2.2.1 25 4 = some u5 ∧ ((¬ (yT Z a).1 = 1 → qB (qAl (some s) w u5 4) (qCall (some s) (d + 1) 85 [.ref u5, .int ((10000 : Int32) + nI ((yT Z a).2.1 - 6))] w (qQv fun w6 => qCall (some s) (d + 1) 42 [.ref 25] w6 (qQv fun w7 => Q (1 : Int32) w7)))) ∧ ((yT Z a).1 = 1 → qB (qAl (some s) w u5 4) (qCall (some s) (d + 1) 85 [.ref u5, .int (w.1 25 9)] w (qQv fun w8 => qCall (some s) (d + 1) 42 [.ref 25] w8 (qQv fun w9 => Q (1 : Int32) w9))))) := by
        intro eb _
        refine ⟨c, u.ref, fun _ => ?_, fun g2 => absurd g2 t1⟩
        rw [al_c hc, qB_1, show (10000 : Int32) = nI 10000 from rfl, nI_add]
        refine go (1, (yT Z a).2.1 - 6) _ ?_ rfl
        unfold xLf; rw [if_neg t1, if_pos t2, if_pos q, if_pos eb]
      have no : ¬ b = decide ((yT Z a).2.1 - 6 < 4) → qCall (some s) (d + 1) 75 [.ref 25, .int (nI 5)] w (qQi fun x11 w10 => qB (qZb x11) (Q x11 w10)) := by
        intro eb
        refine fl 5 ?_ (by decide) (by decide)
        unfold xLf; rw [if_neg t1, if_pos t2, if_pos q, if_neg eb]
      refine ⟨fun _ => ⟨fun g => ?_, fun g => ?_⟩, fun g => absurd g (by rw [show (-1 : Int32) = -(nI 1) from rfl, nI_eqn (by omega) (by omega) (by omega)]; exact id)⟩
      · cases eb : b with
        | true => exact ⟨fun z => absurd rfl z, fun _ => ⟨ok (by rw [eb, decide_eq_true g]), fun z => absurd rfl z⟩⟩
        | false => exact ⟨fun _ => bN (by decide) (no (by rw [eb, decide_eq_true g]; exact fun q => Bool.noConfusion q)), fun z => absurd z (by decide)⟩
      · cases eb : b with
        | true => exact ⟨fun _ => bN (by decide) (no (by rw [eb, decide_eq_false g]; exact fun q => Bool.noConfusion q)), fun z => absurd z (by decide)⟩
        | false => exact ⟨fun z => absurd rfl z, fun _ => ⟨ok (by rw [eb, decide_eq_false g]), fun z => absurd rfl z⟩⟩
    · rw [if_neg (fun z => q z.2)]
      refine ⟨fun g => absurd rfl g, fun _ => bN (by decide) ?_⟩
      refine fl 1 ?_ (by decide) (by decide)
      unfold xLf; rw [if_neg t1, if_pos t2, if_neg q]
end ParseC
