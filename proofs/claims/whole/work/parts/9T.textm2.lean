/-! text: the reference: clauses and the call. -/
section TextM2
variable {s : Nat × (Nat → Int32)} {d : Nat} {w w0 : qW} {Q : Int32 → qW → Prop} {R : qW → Prop} {Z : vZ} {a x0 op : Nat} {b : Bool} {cs : xSt} {cl : List xC} {N K : vS} {T : Nat → vT}
def kn (x0 : Nat) (w w' : qW) : Prop := w'.2.2 = w.2.2 ∧ (∀ c, ¬ c = 72 → ¬ c = 77 → ¬ c = 79 → w'.1 c = w.1 c ∧ w'.2.1 c = w.2.1 c) ∧ (∀ f, (f < 9 ∨ f = 14) → w'.1 72 f = w.1 72 f) ∧ ∀ j, (j < x0 ∨ x0 + 700 ≤ j) → w'.1 77 j = w.1 77 j
theorem kn_rf (x0 : Nat) (w : qW) : kn x0 w w := ⟨rfl, fun _ _ _ _ => ⟨rfl, rfl⟩, fun _ _ => rfl, fun _ _ => rfl⟩
theorem kn_tr {w w' w'' : qW} (h : kn x0 w w') (h' : kn x0 w' w'') : kn x0 w w'' := ⟨h'.1.trans h.1, fun c h1 h2 h3 => ⟨(h'.2.1 c h1 h2 h3).1.trans (h.2.1 c h1 h2 h3).1, (h'.2.1 c h1 h2 h3).2.trans (h.2.1 c h1 h2 h3).2⟩, fun f hf => (h'.2.2.1 f hf).trans (h.2.2.1 f hf), fun j hj => (h'.2.2.2 j hj).trans (h.2.2.2 j hj)⟩
theorem kn_km {w w' : qW} (h : km x0 w w') : kn x0 w w' := ⟨h.1, h.2.1, fun f hf => h.2.2.1 f (by omega), fun j hj => h.2.2.2 j (by omega)⟩
theorem kn_ma {w w' : qW} (h : ma w w') : kn x0 w w' := kn_km (km_ma h)
theorem kn_t {w : qW} {j : Nat} {v : Int32} (h1 : x0 ≤ j) (h2 : j < x0 + 700) : kn x0 w (qPutI w 77 j v) := by
  refine ⟨rfl, fun c _ h2 _ => ⟨funext fun g => pI_c h2, rfl⟩, fun f _ => by rw [pI_c (by decide)], fun i hi => ?_⟩
  rw [pI_f (by omega)]
theorem kn_p {w : qW} {f : Nat} {v : Int32} (hf : 15 ≤ f) : kn x0 w (qPutI w 72 f v) := by
  refine ⟨rfl, fun c h1 _ _ => ⟨funext fun g => pI_c h1, rfl⟩, fun g hg => ?_, fun j _ => ?_⟩
  · rw [pI_f (by omega)]
  · rw [pI_c (by decide)]
theorem mc.kn {w' : qW} (h : mc w Z) (k : kn x0 w w') : mc w' Z := by
  refine mc.mk ?_ h.l3 (fun j hj => ?_) h.byt
  · rw [k.2.2.1 6 (by decide)]; exact h.len
  · rw [(k.2.1 78 (by decide) (by decide) (by decide)).1]; exact h.tape j hj
theorem cm.nsame {w' : qW} (h : cm w Z a) (k : kn x0 w w') (e : ∀ f, 9 ≤ f → f ≤ 12 → w'.1 72 f = w.1 72 f) (el : w'.2.1 72 13 = w.2.1 72 13) : cm w' Z a := by
  refine cm.mk (h.cc.kn k) h.la ?_ ?_ ?_ ?_ ?_
  · rw [e 11 (by decide) (by decide)]; exact h.tok
  · rw [e 10 (by decide) (by decide)]; exact h.pl
  · rw [e 9 (by decide) (by decide)]; exact h.en
  · rw [e 12 (by decide) (by decide)]; exact h.num
  · rw [el]; exact h.wrd
def pn (w : qW) (Z : vZ) (x0 : Nat) (a : Nat) (cs : xSt) : Prop := (cm w Z a) ∧ (x0 ≤ 2100) ∧ (w.1 72 14 = nI x0) ∧ (w.1 72 16 = nI cs.length) ∧ (∀ j, j < cs.length → w.1 77 (x0 + 80 + 2 * j) = nI (cs.getD j (0, 0)).1 ∧ w.1 77 (x0 + 80 + 2 * j + 1) = nI (cs.getD j (0, 0)).2) ∧ (w.1 72 20 = nI 0)
theorem pn.cur {w : qW} {Z : vZ} {x0 : Nat} {a : Nat} {cs : xSt} (h : pn w Z x0 a cs) : cm w Z a := h.1
theorem pn.x3 {w : qW} {Z : vZ} {x0 : Nat} {a : Nat} {cs : xSt} (h : pn w Z x0 a cs) : x0 ≤ 2100 := h.2.1
theorem pn.txt {w : qW} {Z : vZ} {x0 : Nat} {a : Nat} {cs : xSt} (h : pn w Z x0 a cs) : w.1 72 14 = nI x0 := h.2.2.1
theorem pn.wri {w : qW} {Z : vZ} {x0 : Nat} {a : Nat} {cs : xSt} (h : pn w Z x0 a cs) : w.1 72 16 = nI cs.length := h.2.2.2.1
theorem pn.cod {w : qW} {Z : vZ} {x0 : Nat} {a : Nat} {cs : xSt} (h : pn w Z x0 a cs) : ∀ j, j < cs.length → w.1 77 (x0 + 80 + 2 * j) = nI (cs.getD j (0, 0)).1 ∧ w.1 77 (x0 + 80 + 2 * j + 1) = nI (cs.getD j (0, 0)).2 := h.2.2.2.2.1
theorem pn.ope {w : qW} {Z : vZ} {x0 : Nat} {a : Nat} {cs : xSt} (h : pn w Z x0 a cs) : w.1 72 20 = nI 0 := h.2.2.2.2.2
theorem pn.mk {w : qW} {Z : vZ} {x0 : Nat} {a : Nat} {cs : xSt} (f_cur : cm w Z a) (f_x3 : x0 ≤ 2100) (f_txt : w.1 72 14 = nI x0) (f_wri : w.1 72 16 = nI cs.length) (f_cod : ∀ j, j < cs.length → w.1 77 (x0 + 80 + 2 * j) = nI (cs.getD j (0, 0)).1 ∧ w.1 77 (x0 + 80 + 2 * j + 1) = nI (cs.getD j (0, 0)).2) (f_ope : w.1 72 20 = nI 0) : pn w Z x0 a cs := ⟨f_cur, f_x3, f_txt, f_wri, f_cod, f_ope⟩
theorem pm.pn {St : List Nat} (h : pm w Z x0 b a cs 0 St) : pn w Z x0 a cs := pn.mk h.cur h.x3 h.txt h.wri h.cod h.ope
theorem pn.ma {w' : qW} {r : Nat} (h : pn w Z x0 a cs) (k : ma w w') (u : cm w' Z r) : pn w' Z x0 r cs := by
  refine pn.mk u h.x3 ?_ ?_ (fun j hj => ?_) ?_
  · rw [k.2.2 14 (by decide)]; exact h.txt
  · rw [k.2.2 16 (by decide)]; exact h.wri
  · rw [(k.2.1 77 (by decide)).1]; exact h.cod j hj
  · rw [k.2.2 20 (by decide)]; exact h.ope
/-- in another world, in which the text's head or the reader's notes are others -/
theorem pn.mv {w' : qW} (h : pn w Z x0 a cs) (k : kn x0 w w') (e : ∀ f, (9 ≤ f ∧ f ≤ 20) → w'.1 72 f = w.1 72 f) (el : w'.2.1 72 13 = w.2.1 72 13) (et : ∀ j, x0 + 80 ≤ j → w'.1 77 j = w.1 77 j) : pn w' Z x0 a cs := by
  refine pn.mk (h.cur.nsame k (fun f h1 h2 => e f (by omega)) el) h.x3 ?_ ?_ (fun j hj => ?_) ?_
  · rw [e 14 (by decide)]; exact h.txt
  · rw [e 16 (by decide)]; exact h.wri
  · rw [et _ (by omega), et _ (by omega)]; exact h.cod j hj
  · rw [e 20 (by decide)]; exact h.ope
theorem pn.t {j : Nat} {v : Int32} (h : pn w Z x0 a cs) (h1 : x0 ≤ j) (h2 : j < x0 + 80) : pn (qPutI w 77 j v) Z x0 a cs :=
  h.mv (kn_t h1 (by omega)) (fun f _ => by rw [pI_c (by decide)]) rfl (fun i hi => by rw [pI_f (by omega)])
theorem pn.p {f : Nat} {v : Int32} (h : pn w Z x0 a cs) (hf : 21 ≤ f) : pn (qPutI w 72 f v) Z x0 a cs :=
  h.mv (kn_p (by omega)) (fun g hg => by rw [pI_f (by omega)]) rfl (fun i hi => by rw [pI_c (by decide)])
def ux (w : qW) (x0 : Nat) (cl : List xC) (cs : xSt) : Prop := (w.1 77 x0 = nI cl.length) ∧ (w.1 72 23 = tI (xOn cl)) ∧ (∀ k, k < cl.length → w.1 77 (x0 + 1 + 3 * k) = nI (cl.getD k xz).1) ∧ (∀ k, k < cl.length → 3 ≤ (cl.getD k xz).1 → w.1 77 (x0 + 1 + 3 * k + 1) = nI (cl.getD k xz).2.1 ∧ w.1 77 (x0 + 1 + 3 * k + 2) = nI (cl.getD k xz).2.2.1) ∧ (∀ k, k < cl.length → (cl.getD k xz).1 ≤ 2 → ∃ f, w.1 77 (x0 + 1 + 3 * k + 1) = nI f ∧ w.1 77 (x0 + 1 + 3 * k + 2) = nI (f + (cl.getD k xz).2.2.2.length) ∧ f + (cl.getD k xz).2.2.2.length ≤ cs.length ∧ ∀ j, j < (cl.getD k xz).2.2.2.length → cs.getD (f + j) (0, 0) = (cl.getD k xz).2.2.2.getD j (0, 0))
theorem ux.nc {w : qW} {x0 : Nat} {cl : List xC} {cs : xSt} (h : ux w x0 cl cs) : w.1 77 x0 = nI cl.length := h.1
theorem ux.one {w : qW} {x0 : Nat} {cl : List xC} {cs : xSt} (h : ux w x0 cl cs) : w.1 72 23 = tI (xOn cl) := h.2.1
theorem ux.kin {w : qW} {x0 : Nat} {cl : List xC} {cs : xSt} (h : ux w x0 cl cs) : ∀ k, k < cl.length → w.1 77 (x0 + 1 + 3 * k) = nI (cl.getD k xz).1 := h.2.2.1
theorem ux.lf {w : qW} {x0 : Nat} {cl : List xC} {cs : xSt} (h : ux w x0 cl cs) : ∀ k, k < cl.length → 3 ≤ (cl.getD k xz).1 → w.1 77 (x0 + 1 + 3 * k + 1) = nI (cl.getD k xz).2.1 ∧ w.1 77 (x0 + 1 + 3 * k + 2) = nI (cl.getD k xz).2.2.1 := h.2.2.2.1
theorem ux.cod {w : qW} {x0 : Nat} {cl : List xC} {cs : xSt} (h : ux w x0 cl cs) : ∀ k, k < cl.length → (cl.getD k xz).1 ≤ 2 → ∃ f, w.1 77 (x0 + 1 + 3 * k + 1) = nI f ∧ w.1 77 (x0 + 1 + 3 * k + 2) = nI (f + (cl.getD k xz).2.2.2.length) ∧ f + (cl.getD k xz).2.2.2.length ≤ cs.length ∧ ∀ j, j < (cl.getD k xz).2.2.2.length → cs.getD (f + j) (0, 0) = (cl.getD k xz).2.2.2.getD j (0, 0) := h.2.2.2.2
theorem ux.mk {w : qW} {x0 : Nat} {cl : List xC} {cs : xSt} (f_nc : w.1 77 x0 = nI cl.length) (f_one : w.1 72 23 = tI (xOn cl)) (f_kin : ∀ k, k < cl.length → w.1 77 (x0 + 1 + 3 * k) = nI (cl.getD k xz).1) (f_lf : ∀ k, k < cl.length → 3 ≤ (cl.getD k xz).1 → w.1 77 (x0 + 1 + 3 * k + 1) = nI (cl.getD k xz).2.1 ∧ w.1 77 (x0 + 1 + 3 * k + 2) = nI (cl.getD k xz).2.2.1) (f_cod : ∀ k, k < cl.length → (cl.getD k xz).1 ≤ 2 → ∃ f, w.1 77 (x0 + 1 + 3 * k + 1) = nI f ∧ w.1 77 (x0 + 1 + 3 * k + 2) = nI (f + (cl.getD k xz).2.2.2.length) ∧ f + (cl.getD k xz).2.2.2.length ≤ cs.length ∧ ∀ j, j < (cl.getD k xz).2.2.2.length → cs.getD (f + j) (0, 0) = (cl.getD k xz).2.2.2.getD j (0, 0)) : ux w x0 cl cs := ⟨f_nc, f_one, f_kin, f_lf, f_cod⟩
theorem m_figure {lo hi x : Nat} (hd : 4 ≤ d) (h : pn w Z x0 a cs) (hlo : lo ≤ 1) (hhi : hi ≤ 9999) (h1 : x0 ≤ x) (h2 : x < x0 + 80) (hy : ∀ u r w', xNu Z lo hi a = .ok (u, r) → ma (qPutI w 77 x (nI u)) w' → pn w' Z x0 r cs → Q 0 w') (hn : ∀ e, xNu Z lo hi a = .error e → erm w e → Q (nI e.1) w) : qCall (some s) d 233 [.ref 72, .int (nI x), .int (nI lo), .int (nI hi)] w (qQi Q) := by
  obtain ⟨d, rfl, hd1⟩ := dS hd
  have u := h.cur
  have x3 := h.x3
  refine A_Mo_figure ?_
  rw [show (1 : Int32) = nI 1 from rfl, u.is (by omega)]
  refine ⟨fun g => ?_, fun g => ?_⟩
  · obtain ⟨m, em, m6, ev⟩ := u.num g
    rw [em]
    refine m_isInB (by omega) (fun q => n1 ?_) (fun q => n0 ?_)
    · rw [nI_leI (by omega) (by omega), nI_leI (by omega) (by omega)] at q
      have ok : xNu Z lo hi a = .ok ((yT Z a).2.1, yN Z a) := by unfold xNu; rw [if_pos g, if_pos (by omega)]
      have e2 : m = (yT Z a).2.1 := by omega
      rw [em, qIx_nI (by omega), e2]
      refine ⟨qIn_nI (by omega) (by decide), m_nxt (by omega) (h.t (v := nI (yT Z a).2.1) h1 h2).cur (fun w3 k3 u3 => hy _ _ w3 ok k3 ((h.t (v := nI (yT Z a).2.1) h1 h2).ma k3 u3))⟩
    · rw [nI_leI (by omega) (by omega), nI_leI (by omega) (by omega)] at q
      have er : xNu Z lo hi a = .error (2, (yT Z a).2.2) := by unfold xNu; rw [if_pos g, if_neg (by omega)]
      exact hn _ er (erm_k u.pl (by decide) (by decide))
  · have er : xNu Z lo hi a = .error (1, (yT Z a).2.2) := by unfold xNu; rw [if_neg g]
    exact hn _ er (erm_k u.pl (by decide) (by decide))
theorem m_rolled {k x : Nat} (hd : 5 ≤ d) (hk : k = 3 ∨ k = 4) (h : pn w Z x0 a cs) (h1 : x0 ≤ x) (h2 : x + 2 < x0 + 80) (hy : ∀ u v r w', xTwo Z k a = .ok ((k, u, v, []), r) → kn x0 w w' → (∀ f, (f = 22 ∨ f = 23) → w'.1 72 f = w.1 72 f) → (∀ j, j < x0 + 80 → ¬ j = x + 1 → ¬ j = x + 2 → w'.1 77 j = w.1 77 j) → w'.1 77 (x + 1) = nI u → w'.1 77 (x + 2) = nI v → pn w' Z x0 r cs → Q 0 w') (hn : ∀ e w', xTwo Z k a = .error e → kn x0 w w' → erm w' e → Q (nI e.1) w') : qCall (some s) d 232 [.ref 72, .int (nI x), .int (nI k)] w (qQi Q) := by
  obtain ⟨d, rfl, hd1⟩ := dS hd
  have x3 := h.x3
  have lo : xLo k ≤ 1 := by unfold xLo; split <;> decide
  have hi : xMx k ≤ 9999 := by unfold xMx; split <;> decide
  have k3 : (nI k = (3 : Int32)) ↔ k = 3 := nI_eq (by omega) (by decide)
  have ne : ∀ e : Nat × Nat, ∀ w' : qW, erm w' e → ¬ nI e.1 = (0 : Int32) := fun e w' x => nI_pos0 x.2.1 (by have := x.2.2; omega)
  have main : ∀ is0 is1 is2 : Int32, is0 = nI (xMx k) → is1 = nI (xLo k) → is2 = nI (x + 1) → qAt s d c_Mo_rolled (qQi Q) 27 [some (.ref 72), some (.int (nI x)), some (.int (nI k)), none] [.int is0, .int is1, .int is2, .ref 72] w := by
    intro is0 is1 is2 e0 e1 e2
    subst e0 e1 e2
    refine A_Mo_rolled_27 (m_figure (by omega) h lo hi (by omega) (by omega) (fun u r w2 eu k2 p2 => b0 ?_) (fun e ee x => ⟨fun z => absurd z (ne e w x), fun _ => hn e w (by unfold xTwo; rw [ee]) (kn_rf _ _) x⟩))
    have n1' := xNu_ok eu
    have kk2 : kn x0 w w2 := kn_tr (kn_t (by omega) (by omega)) (kn_ma k2)
    unfold xTwo at hy hn
    rw [eu] at hy hn
    dsimp only at hy hn
    have f2 : ∀ f, (f = 22 ∨ f = 23) → w2.1 72 f = w.1 72 f := fun f hf => by rw [k2.2.2 f (by omega), pI_c (by decide)]
    have t2 : ∀ j, w2.1 77 j = (qPutI w 77 (x + 1) (nI u)).1 77 j := fun j => by rw [(k2.2.1 77 (by decide)).1]
    have go : xBt Z k r = true → qAt s d c_Mo_rolled (qQi Q) 74 [some (.ref 72), some (.int (nI x)), some (.int (nI k)), none] [] w2 := by
      intro g
      rw [if_pos g] at hy hn
      refine A_Mo_rolled_74 (m_nxt (by omega) p2.cur (fun w3 k3' u3 => ?_))
      have p3 := p2.ma k3' u3
      have fig : ∀ i : Int32, i = nI (xMx k) → qCall (some s) d 233 [.ref 72, .int (nI x + (2 : Int32)), .int (0 : Int32), .int i] w3 (qQi fun x3 w2 => Q x3 w2) := by
        intro i ei
        rw [ei, show (2 : Int32) = nI 2 from rfl, nI_add]
        refine m_figure (lo := 0) (by omega) p3 (by omega) hi (by omega) (by omega) (fun v r2 w4 ev k4 p4 => ?_) (fun e ee x => hn e w3 (by rw [ee]) (kn_tr kk2 (kn_ma k3')) x)
        rw [ev] at hy
        have t4 : ∀ j, w4.1 77 j = (qPutI w3 77 (x + 2) (nI v)).1 77 j := fun j => by rw [(k4.2.1 77 (by decide)).1]
        refine hy u v r2 w4 rfl (kn_tr kk2 (kn_tr (kn_ma k3') (kn_tr (kn_t (by omega) (by omega)) (kn_ma k4)))) (fun f hf => ?_) (fun j hj h1 h2 => ?_) ?_ ?_ p4
        · rw [k4.2.2 f (by omega), pI_c (by decide), k3'.2.2 f (by omega)]; exact f2 f hf
        · rw [t4, pI_f h2, (k3'.2.1 77 (by decide)).1, t2, pI_f h1]
        · rw [t4, pI_f (by omega), (k3'.2.1 77 (by decide)).1, t2, pI_e]
        · rw [t4, pI_e]
      rw [k3]
      exact ⟨fun g3 => fig _ (by unfold xMx; rw [if_neg g3]; rfl), fun g3 => fig _ (by unfold xMx; rw [if_pos g3]; rfl)⟩
    have stop : xBt Z k r = false → Q 1 w2 := by
      intro g
      rw [if_neg (by rw [g]; exact fun q => Bool.noConfusion q)] at hn
      exact hn _ w2 rfl kk2 (erm_k p2.cur.pl (by decide) (by decide))
    rw [k3, show (44 : Int32) = nI 44 from rfl, p2.cur.is (by omega)]
    refine ⟨fun g3 => ⟨fun g => go (by unfold xBt; rw [if_neg g3, decide_eq_true g]), fun g => stop (by unfold xBt; rw [if_neg g3, decide_eq_false g])⟩, fun g3 => m_w4 (by omega) (m_isWord (k := 5) (by omega) p2.cur (by omega) (by omega) W_5 (tI_n (fun g => go ?_) (fun g => stop ?_)))⟩
    · unfold xBt; rw [if_pos g3]; exact g
    · unfold xBt; rw [if_pos g3]; exact g
  refine A_Mo_rolled ?_
  rw [k3, nI_1]
  refine ⟨fun g3 => ⟨fun _ => main _ _ _ ?_ ?_ rfl, fun z => absurd z g3⟩, fun g3 => ⟨fun z => absurd g3 z, fun _ => main _ _ _ ?_ ?_ rfl⟩⟩
  · unfold xMx; rw [if_neg g3]; rfl
  · unfold xLo; rw [if_neg g3]; rfl
  · unfold xMx; rw [if_pos g3]; rfl
  · unfold xLo; rw [if_pos g3]; rfl
theorem xTwo_f {k : Nat} {x : xC} {r : Nat} (e : xTwo Z k a = .ok (x, r)) : ∃ u v, x = (k, u, v, []) := by
  unfold xTwo at e
  cases e1 : xNu Z (xLo k) (xMx k) a with
  | error q => rw [e1] at e; cases e
  | ok p =>
    obtain ⟨u, r1⟩ := p
    rw [e1] at e
    dsimp only at e
    by_cases q : xBt Z k r1 = true
    · rw [if_pos q] at e
      cases e2 : xNu Z 0 (xMx k) (yN Z r1) with
      | error q => rw [e2] at e; cases e
      | ok p =>
        obtain ⟨v, r2⟩ := p
        rw [e2] at e
        dsimp only at e
        cases e
        exact ⟨u, v, rfl⟩
    · rw [if_neg q] at e; cases e
theorem xOn_a {x : xC} : xOn (cl ++ [x]) = (xOn cl || decide (x.1 = 2)) := by
  unfold xOn
  rw [List.any_append, List.any_cons, List.any_nil, Bool.or_false]
/-- a clause behind the others -/
theorem ux.add {w' : qW} {x : xC} {C : xSt} (t : ux w x0 cl cs) (hl : cl.length < 24) (e0 : w'.1 77 x0 = nI (cl.length + 1)) (e1 : w'.1 72 23 = tI (xOn cl || decide (x.1 = 2))) (et : ∀ j, x0 < j → j < x0 + 1 + 3 * cl.length → w'.1 77 j = w.1 77 j) (ek : w'.1 77 (x0 + 1 + 3 * cl.length) = nI x.1) (hlf : 3 ≤ x.1 → w'.1 77 (x0 + 1 + 3 * cl.length + 1) = nI x.2.1 ∧ w'.1 77 (x0 + 1 + 3 * cl.length + 2) = nI x.2.2.1) (hcd : x.1 ≤ 2 → ∃ f, w'.1 77 (x0 + 1 + 3 * cl.length + 1) = nI f ∧ w'.1 77 (x0 + 1 + 3 * cl.length + 2) = nI (f + x.2.2.2.length) ∧ f + x.2.2.2.length ≤ (cs ++ C).length ∧ ∀ j, j < x.2.2.2.length → (cs ++ C).getD (f + j) (0, 0) = x.2.2.2.getD j (0, 0)) : ux w' x0 (cl ++ [x]) (cs ++ C) := by
  have l : (cl ++ [x]).length = cl.length + 1 := List.length_append
  refine ux.mk (by rw [l]; exact e0) (by rw [xOn_a]; exact e1) (fun k hk => ?_) (fun k hk => ?_) (fun k hk => ?_)
  · by_cases e : k = cl.length
    · rw [e, gd_r]; exact ek
    · rw [gd_l (by omega), et _ (by omega) (by omega)]; exact t.kin k (by omega)
  · by_cases e : k = cl.length
    · rw [e, gd_r]; exact hlf
    · rw [gd_l (by omega), et _ (by omega) (by omega), et _ (by omega) (by omega)]; exact t.lf k (by omega)
  · by_cases e : k = cl.length
    · rw [e, gd_r]; exact hcd
    · rw [gd_l (by omega), et _ (by omega) (by omega), et _ (by omega) (by omega)]
      intro h2
      obtain ⟨f, f1, f2, f3, f4⟩ := t.cod k (by omega) h2
      refine ⟨f, f1, f2, by rw [List.length_append]; omega, fun j hj => ?_⟩
      rw [List.getD_eq_getElem?_getD, List.getElem?_append_left (by omega), ← List.getD_eq_getElem?_getD]
      exact f4 j hj
theorem m_clause (hd : 15 ≤ d) (h : pn w Z x0 a cs) (hca : cs.length ≤ a) (t : ux w x0 cl cs) (hl : cl.length ≤ 24) (hy : ∀ x r cs' w', xCl Z cl.length (xOn cl) a = .ok (x, r) → kn x0 w w' → pn w' Z x0 r cs' → cs'.length ≤ r → ux w' x0 (cl ++ [x]) cs' → Q 0 w') (hn : ∀ e w', xCl Z cl.length (xOn cl) a = .error e → kn x0 w w' → erm w' e → Q (nI e.1) w') : qCall (some s) d 225 [.ref 72] w (qQi Q) := by
  obtain ⟨d, rfl, hd1⟩ := dS hd
  have u := h.cur
  have x3 := h.x3
  have byt := u.cc.byt
  have l3 := u.cc.l3
  have tb := yT_b u.la byt
  have kb := yKd_b (yT Z a)
  have ne : ∀ e : Nat × Nat, ∀ w' : qW, erm w' e → ¬ nI e.1 = (0 : Int32) := fun e w' x => nI_pos0 x.2.1 (by have := x.2.2; omega)
  refine A_Mo_clause (m_sortOf (by omega) u ?_)
  generalize ek : yKd (yT Z a) = k at kb
  rw [eq0 (by omega), show (2 : Int32) = nI 2 from rfl, nI_eq (by omega) (by omega), t.one]
  unfold xCl at hy hn
  rw [ek] at hy hn
  refine ⟨fun g0 => ?_, fun g0 => ?_⟩
  · rw [if_neg g0] at hy hn
    have main : ¬ (k = 2 ∧ xOn cl = true) → qAt s d c_Mo_clause (qQi Q) 25 [some (.ref 72), some (.int (nI k)), none, none, none, none] [] w := by
      intro g1
      rw [if_neg g1] at hy hn
      refine A_Mo_clause_25 ?_
      rw [h.txt, qIx_nI (by omega), t.nc, show (24 : Int32) = nI 24 from rfl, nI_eq (by omega) (by omega), t.one, show (2 : Int32) = nI 2 from rfl, nI_eq (by omega) (by omega)]
      refine ⟨qIn_nI (by omega) (by decide), fun g2 => ?_, fun g2 => ?_⟩
      · rw [if_neg g2] at hy hn
        have t0 : a < yN Z a := tb.2.2.2.1 (fun z => g0 (by rw [← ek]; unfold yKd; rw [if_neg (by omega)]))
        have m62 : ∀ is0 : Int32, is0 = tI (xOn cl || decide (k = 2)) → qAt s d c_Mo_clause (qQi Q) 62 [some (.ref 72), some (.int (nI k)), some (.int (nI cl.length)), none, none, none] [.int is0, .ref 72] w := by
          intro is0 ei
          subst ei
          refine A_Mo_clause_62 ?_
          rw [tI_z, qB_1]
          have p1 := (h.p (f := 23) (v := tI (xOn cl || decide (k = 2))) (by decide)).p (f := 22) (v := nI k) (by decide)
          have kk1 : kn x0 w (qPutI (qPutI w 72 23 (tI (xOn cl || decide (k = 2)))) 72 22 (nI k)) := kn_tr (kn_p (by decide)) (kn_p (by decide))
          refine m_nxt (by omega) p1.cur (fun w2 k2 u2 => ?_)
          have p2 := p1.ma k2 u2
          have e23 : w2.1 72 23 = tI (xOn cl || decide (k = 2)) := by rw [k2.2.2 23 (by decide), pI_f (by decide), pI_e]
          have e22 : w2.1 72 22 = nI k := by rw [k2.2.2 22 (by decide), pI_e]
          have e77 : ∀ j, w2.1 77 j = w.1 77 j := fun j => by rw [(k2.2.1 77 (by decide)).1, pI_c (by decide), pI_c (by decide)]
          rw [p2.txt, nI_1, show (3 : Int32) = nI 3 from rfl, nI_mul', nI_add, qIx_nI (by omega), p2.wri, nI_ltI (by omega) (by omega), show (2 : Int32) = nI 2 from rfl, nI_eq (by omega) (by omega)]
          have p3 := p2.t (j := x0 + 1 + 3 * cl.length) (v := nI k) (by omega) (by omega)
          have kk3 : kn x0 w (qPutI w2 77 (x0 + 1 + 3 * cl.length) (nI k)) := kn_tr kk1 (kn_tr (kn_ma k2) (kn_t (by omega) (by omega)))
          have f23 : (qPutI w2 77 (x0 + 1 + 3 * cl.length) (nI k)).1 72 23 = tI (xOn cl || decide (k = 2)) := by rw [pI_c (by decide)]; exact e23
          have f22 : (qPutI w2 77 (x0 + 1 + 3 * cl.length) (nI k)).1 72 22 = nI k := by rw [pI_c (by decide)]; exact e22
          have f77 : ∀ j, ¬ j = x0 + 1 + 3 * cl.length → (qPutI w2 77 (x0 + 1 + 3 * cl.length) (nI k)).1 77 j = w.1 77 j := fun j hj => by rw [pI_f hj]; exact e77 j
          have fk : (qPutI w2 77 (x0 + 1 + 3 * cl.length) (nI k)).1 77 (x0 + 1 + 3 * cl.length) = nI k := by rw [pI_e]
          revert p3 kk3 f23 f22 f77 fk
          generalize qPutI w2 77 (x0 + 1 + 3 * cl.length) (nI k) = v3
          intro p3 kk3 f23 f22 f77 fk
          -- behind the clause's body
          have fin : ∀ (x : xC) r (C : xSt) w5, xBd Z k (yN Z a) = .ok (x, r) → x.1 = k → kn x0 w w5 → pn w5 Z x0 r (cs ++ C) → (cs ++ C).length ≤ r → w5.1 72 23 = tI (xOn cl || decide (k = 2)) → w5.1 77 x0 = nI cl.length → (∀ j, x0 < j → j < x0 + 1 + 3 * cl.length → w5.1 77 j = w.1 77 j) → w5.1 77 (x0 + 1 + 3 * cl.length) = nI k → (3 ≤ x.1 → w5.1 77 (x0 + 1 + 3 * cl.length + 1) = nI x.2.1 ∧ w5.1 77 (x0 + 1 + 3 * cl.length + 2) = nI x.2.2.1) → (x.1 ≤ 2 → ∃ f, w5.1 77 (x0 + 1 + 3 * cl.length + 1) = nI f ∧ w5.1 77 (x0 + 1 + 3 * cl.length + 2) = nI (f + x.2.2.2.length) ∧ f + x.2.2.2.length ≤ (cs ++ C).length ∧ ∀ j, j < x.2.2.2.length → (cs ++ C).getD (f + j) (0, 0) = x.2.2.2.getD j (0, 0)) → qAt s d c_Mo_clause (qQi Q) 165 [some (.ref 72), none, none, none, none, none] [] w5 := by
            intro x r C w5 eb ex k5 p5 c5 g23 g0' gj gk glf gcd
            rw [eb] at hy hn
            dsimp only at hy hn
            refine A_Mo_clause_165 ?_
            rw [p5.txt, qIx_nI (by omega), g0', nI_1, show (59 : Int32) = nI 59 from rfl, p5.cur.is (by omega)]
            have p6 := p5.t (j := x0) (v := nI (cl.length + 1)) (Nat.le_refl _) (by omega)
            have k6 : kn x0 w (qPutI w5 77 x0 (nI (cl.length + 1))) := kn_tr k5 (kn_t (Nat.le_refl _) (by omega))
            refine ⟨qIn_nI (by omega) (by decide), qIn_nI (by omega) (by decide), fun g => ?_, fun g => ?_⟩
            · rw [if_pos g] at hy
              refine m_nxt (by omega) p6.cur (fun w7 k7 u7 => hy x (yN Z r) (cs ++ C) w7 rfl (kn_tr k6 (kn_ma k7)) (p6.ma k7 u7) ?_ ?_)
              · have := (yT_b p5.cur.la byt).2.1
                omega
              · have q77 : ∀ j, ¬ j = x0 → w7.1 77 j = w5.1 77 j := fun j hj => by rw [(k7.2.1 77 (by decide)).1, pI_f hj]
                refine t.add (by omega) ?_ ?_ (fun j h1 h2 => ?_) ?_ ?_ ?_
                · rw [(k7.2.1 77 (by decide)).1, pI_e]
                · rw [k7.2.2 23 (by decide), pI_c (by decide), ex]; exact g23
                · rw [q77 j (by omega)]; exact gj j h1 h2
                · rw [q77 _ (by omega), ex]; exact gk
                · rw [q77 _ (by omega), q77 _ (by omega)]; exact glf
                · rw [q77 _ (by omega), q77 _ (by omega)]; exact gcd
            · rw [if_neg g] at hn
              exact hn _ _ rfl k6 (erm_k p6.cur.pl (by decide) (by decide))
          have bad : ∀ e w5, xBd Z k (yN Z a) = .error e → kn x0 w w5 → erm w5 e → ∀ i3 i4 : Int32, qAt s d c_Mo_clause (qQi Q) 128 [some (.ref 72), some (.int (nI k)), none, some (.int i3), some (.int i4), none] [.int (nI e.1)] w5 := by
            intro e w5 eb k5 x5 i3 i4
            rw [eb] at hn
            exact A_Mo_clause_128 ⟨fun z => absurd z (ne e w5 x5), fun _ => hn e w5 rfl k5 x5⟩
          have sums : ∀ C r w5, k ≤ 2 → xSu Z k (yN Z a) = .ok (C, r) → km x0 v3 w5 → pn w5 Z x0 r (cs ++ C) → yN Z a + C.length ≤ r → qAt s d c_Mo_clause (qQi Q) 128 [some (.ref 72), some (.int (nI k)), none, some (.int (nI (x0 + 1 + 3 * cl.length))), some (.int (nI cs.length)), none] [.int (0 : Int32)] w5 := by
            intro C r w5 gk es k5 p5 cb
            have eb : xBd Z k (yN Z a) = .ok ((k, 0, 0, C), r) := by unfold xBd; rw [if_neg (by omega), es]
            refine A_Mo_clause_128 ⟨fun _ => ?_, fun z => absurd rfl z⟩
            rw [show (3 : Int32) = nI 3 from rfl, nI_leI (by omega) (by omega), nI_1, show (2 : Int32) = nI 2 from rfl, nI_add, qIx_nI (by omega), qIx_nI (by omega), p5.wri]
            refine ⟨fun z => by omega, fun _ => ⟨qIn_nI (by omega) (by decide), qIn_nI (by omega) (by decide), ?_⟩⟩
            have lc : (cs ++ C).length = cs.length + C.length := List.length_append
            have p6 := (p5.t (j := x0 + 1 + 3 * cl.length + 1) (v := nI cs.length) (by omega) (by omega)).t (j := x0 + 1 + 3 * cl.length + 2) (v := nI (cs ++ C).length) (by omega) (by omega)
            have q77 : ∀ j, ¬ j = x0 + 1 + 3 * cl.length + 1 → ¬ j = x0 + 1 + 3 * cl.length + 2 → j < x0 + 80 → (qPutI (qPutI w5 77 (x0 + 1 + 3 * cl.length + 1) (nI cs.length)) 77 (x0 + 1 + 3 * cl.length + 2) (nI (cs ++ C).length)).1 77 j = v3.1 77 j := fun j h1 h2 h3 => by rw [pI_f h2, pI_f h1, k5.2.2.2 j (Or.inl h3)]
            refine fin (k, 0, 0, C) r C _ eb rfl (kn_tr kk3 (kn_tr (kn_km k5) (kn_tr (kn_t (by omega) (by omega)) (kn_t (by omega) (by omega))))) p6 (by omega) ?_ ?_ (fun j h1 h2 => ?_) ?_ (fun z => by have z : 3 ≤ k := z; omega) (fun _ => ⟨cs.length, ?_, ?_, by rw [lc]; exact Nat.le_refl _, fun j hj => ?_⟩)
            · rw [pI_c (by decide), pI_c (by decide), k5.2.2.1 23 (by decide)]; exact f23
            · rw [q77 _ (by omega) (by omega) (by omega), f77 _ (by omega)]; exact t.nc
            · rw [q77 _ (by omega) (by omega) (by omega), f77 _ (by omega)]
            · rw [q77 _ (by omega) (by omega) (by omega)]; exact fk
            · rw [pI_f (by omega), pI_e]
            · rw [pI_e, lc]
            · rw [List.getD_eq_getElem?_getD, List.getElem?_append_right (by omega), Nat.add_sub_cancel_left, ← List.getD_eq_getElem?_getD]
          have ebe : ∀ e, k ≤ 2 → xSu Z k (yN Z a) = .error e → xBd Z k (yN Z a) = .error e := fun e gk es => by unfold xBd; rw [if_neg (by omega), es]
          refine ⟨qIn_nI (by omega) (by decide), fun g3 => ⟨fun g4 => ?_, fun g4 => ?_⟩, fun g3 => ?_⟩
          · have k1' : k = 1 := by omega
            have q3 : pq v3 Z x0 true (yN Z a) cs 0 := pq.mk p3.cur p3.x3 p3.txt p3.wri p3.cod p3.ope (by rw [f22, k1']; rfl)
            have es : xSu Z k (yN Z a) = xEi Z true (yN Z a) := by unfold xSu; rw [if_neg (by omega)]
            refine m_either (by omega) q3 (by omega) (fun C r w5 e5 k5 p5 => ?_) (fun e w5 e5 k5 x5 => bad e w5 (ebe e (by omega) (es.trans e5)) (kn_tr kk3 (kn_km k5)) x5 _ _)
            have bb := xEi_b byt _ tb.2.2.1 C r e5
            exact sums C r w5 (by omega) (es.trans e5) k5 p5.pn bb.1
          · have k1' : k = 2 := by omega
            have q3 : pq v3 Z x0 false (yN Z a) cs (8 - 8) := pq.mk p3.cur p3.x3 p3.txt p3.wri p3.cod p3.ope (by rw [f22, k1']; rfl)
            have es : xSu Z k (yN Z a) = xSm Z (xOne Z false 8) (yN Z a) := by unfold xSu; rw [if_pos k1']
            refine m_summed (f := 8) (by omega) (Nat.le_refl _) q3 (by omega) (fun C r w5 e5 k5 p5 => ?_) (fun e w5 e5 k5 x5 => bad e w5 (ebe e (by omega) (es.trans e5)) (kn_tr kk3 (kn_km k5)) x5 _ _)
            have bb := xSm_b byt (xOne_b byt 8) _ tb.2.2.1 C r e5
            exact sums C r w5 (by omega) (es.trans e5) k5 (pm.pn p5) bb.1
          · have eb : xBd Z k (yN Z a) = xTwo Z k (yN Z a) := by unfold xBd; rw [if_pos (by omega)]
            refine m_rolled (by omega) (by omega) p3 (by omega) (by omega) (fun u' v' r w5 e5 k5 h5 j5 a5 b5 p5 => A_Mo_clause_128 ⟨fun _ => ?_, fun z => absurd rfl z⟩) (fun e w5 e5 k5 x5 => bad e w5 (eb.trans e5) (kn_tr kk3 k5) x5 _ _)
            rw [show (3 : Int32) = nI 3 from rfl, nI_leI (by omega) (by omega)]
            refine ⟨fun _ => ?_, fun z => by omega⟩
            have bt := xTwo_b byt tb.2.2.1 e5
            refine fin (k, u', v', []) r [] w5 (eb.trans e5) rfl (kn_tr kk3 k5) (by rw [List.append_nil]; exact p5) (by rw [List.append_nil]; omega) ?_ ?_ (fun j h1 h2 => ?_) ?_ (fun _ => ⟨a5, b5⟩) (fun z => by have z : k ≤ 2 := z; omega)
            · rw [h5 23 (by decide)]; exact f23
            · rw [j5 _ (by omega) (by omega) (by omega), f77 _ (by omega)]; exact t.nc
            · rw [j5 _ (by omega) (by omega) (by omega), f77 _ (by omega)]
            · rw [j5 _ (by omega) (by omega) (by omega)]; exact fk
        cases eo : xOn cl with
        | true =>
          rw [eo] at m62
          exact ⟨fun _ => m62 _ rfl, fun z => absurd z (by decide)⟩
        | false =>
          rw [eo] at m62
          exact ⟨fun z => absurd rfl z, fun _ => ⟨fun q => m62 _ (by rw [decide_eq_false q]; rfl), fun q => m62 _ (by rw [decide_eq_true q]; rfl)⟩⟩
      · rw [if_pos g2] at hn
        exact hn _ w rfl (kn_rf _ _) (erm_k u.pl (by decide) (by decide))
    refine ⟨fun g => main (fun q => g q.1), fun g => ?_⟩
    cases eo : xOn cl with
    | true =>
      refine ⟨fun z => absurd z (by decide), fun _ => ?_⟩
      rw [if_pos ⟨g, eo⟩] at hn
      exact hn _ w rfl (kn_rf _ _) (erm_k u.pl (by decide) (by decide))
    | false => exact ⟨fun _ => main (fun q => by rw [eo] at q; exact Bool.noConfusion q.2), fun z => absurd rfl z⟩
  · rw [if_pos g0] at hn
    exact hn _ w rfl (kn_rf _ _) (erm_k u.pl (by decide) (by decide))
end TextM2
