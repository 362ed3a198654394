/-! text: the reference's sums, with a pile. -/
section SumM
variable {s : Nat × (Nat → Int32)} {d : Nat} {w : qW} {Q : Int32 → qW → Prop} {R : qW → Prop} {Z : vZ} {a x0 op : Nat} {b : Bool} {cs : xSt} {St : List Nat}
/-- the pile, its top first -/
def pile (w : qW) : List Nat → Prop
  | [] => True
  | o :: r => w.1 79 r.length = nI o ∧ pile w r
theorem pile_cg {w w' : qW} : ∀ {St : List Nat}, pile w St → (∀ j, j < St.length → w'.1 79 j = w.1 79 j) → pile w' St
  | [], _, _ => trivial
  | o :: r, h, e => ⟨by rw [e r.length (Nat.lt_succ_self _)]; exact h.1, pile_cg h.2 (fun j hj => e j (Nat.lt_succ_of_lt hj))⟩
def pm (w : qW) (Z : vZ) (x0 : Nat) (b : Bool) (a : Nat) (cs : xSt) (op : Nat) (St : List Nat) : Prop := (cm w Z a) ∧ (x0 ≤ 2100) ∧ (w.1 72 14 = nI x0) ∧ (w.1 72 16 = nI cs.length) ∧ (∀ j, j < cs.length → w.1 77 (x0 + 80 + 2 * j) = nI (cs.getD j (0, 0)).1 ∧ w.1 77 (x0 + 80 + 2 * j + 1) = nI (cs.getD j (0, 0)).2) ∧ (w.1 72 20 = nI op) ∧ (w.1 72 22 = nI (if b then 1 else 2)) ∧ (w.1 72 19 = nI St.length) ∧ (pile w St)
theorem pm.cur {w : qW} {Z : vZ} {x0 : Nat} {b : Bool} {a : Nat} {cs : xSt} {op : Nat} {St : List Nat} (h : pm w Z x0 b a cs op St) : cm w Z a := h.1
theorem pm.x3 {w : qW} {Z : vZ} {x0 : Nat} {b : Bool} {a : Nat} {cs : xSt} {op : Nat} {St : List Nat} (h : pm w Z x0 b a cs op St) : x0 ≤ 2100 := h.2.1
theorem pm.txt {w : qW} {Z : vZ} {x0 : Nat} {b : Bool} {a : Nat} {cs : xSt} {op : Nat} {St : List Nat} (h : pm w Z x0 b a cs op St) : w.1 72 14 = nI x0 := h.2.2.1
theorem pm.wri {w : qW} {Z : vZ} {x0 : Nat} {b : Bool} {a : Nat} {cs : xSt} {op : Nat} {St : List Nat} (h : pm w Z x0 b a cs op St) : w.1 72 16 = nI cs.length := h.2.2.2.1
theorem pm.cod {w : qW} {Z : vZ} {x0 : Nat} {b : Bool} {a : Nat} {cs : xSt} {op : Nat} {St : List Nat} (h : pm w Z x0 b a cs op St) : ∀ j, j < cs.length → w.1 77 (x0 + 80 + 2 * j) = nI (cs.getD j (0, 0)).1 ∧ w.1 77 (x0 + 80 + 2 * j + 1) = nI (cs.getD j (0, 0)).2 := h.2.2.2.2.1
theorem pm.ope {w : qW} {Z : vZ} {x0 : Nat} {b : Bool} {a : Nat} {cs : xSt} {op : Nat} {St : List Nat} (h : pm w Z x0 b a cs op St) : w.1 72 20 = nI op := h.2.2.2.2.2.1
theorem pm.srt {w : qW} {Z : vZ} {x0 : Nat} {b : Bool} {a : Nat} {cs : xSt} {op : Nat} {St : List Nat} (h : pm w Z x0 b a cs op St) : w.1 72 22 = nI (if b then 1 else 2) := h.2.2.2.2.2.2.1
theorem pm.pil {w : qW} {Z : vZ} {x0 : Nat} {b : Bool} {a : Nat} {cs : xSt} {op : Nat} {St : List Nat} (h : pm w Z x0 b a cs op St) : w.1 72 19 = nI St.length := h.2.2.2.2.2.2.2.1
theorem pm.pel {w : qW} {Z : vZ} {x0 : Nat} {b : Bool} {a : Nat} {cs : xSt} {op : Nat} {St : List Nat} (h : pm w Z x0 b a cs op St) : pile w St := h.2.2.2.2.2.2.2.2
theorem pm.mk {w : qW} {Z : vZ} {x0 : Nat} {b : Bool} {a : Nat} {cs : xSt} {op : Nat} {St : List Nat} (f_cur : cm w Z a) (f_x3 : x0 ≤ 2100) (f_txt : w.1 72 14 = nI x0) (f_wri : w.1 72 16 = nI cs.length) (f_cod : ∀ j, j < cs.length → w.1 77 (x0 + 80 + 2 * j) = nI (cs.getD j (0, 0)).1 ∧ w.1 77 (x0 + 80 + 2 * j + 1) = nI (cs.getD j (0, 0)).2) (f_ope : w.1 72 20 = nI op) (f_srt : w.1 72 22 = nI (if b then 1 else 2)) (f_pil : w.1 72 19 = nI St.length) (f_pel : pile w St) : pm w Z x0 b a cs op St := ⟨f_cur, f_x3, f_txt, f_wri, f_cod, f_ope, f_srt, f_pil, f_pel⟩
/-- what reading doesn't touch -/
def km (x0 : Nat) (w w' : qW) : Prop := w'.2.2 = w.2.2 ∧ (∀ c, ¬ c = 72 → ¬ c = 77 → ¬ c = 79 → w'.1 c = w.1 c ∧ w'.2.1 c = w.2.1 c) ∧ (∀ f, (f < 9 ∨ f = 14 ∨ f = 22 ∨ f = 23) → w'.1 72 f = w.1 72 f) ∧ ∀ j, (j < x0 + 80 ∨ x0 + 680 ≤ j) → w'.1 77 j = w.1 77 j
theorem km_rf (x0 : Nat) (w : qW) : km x0 w w := ⟨rfl, fun _ _ _ _ => ⟨rfl, rfl⟩, fun _ _ => rfl, fun _ _ => rfl⟩
theorem km_tr {w w' w'' : qW} (h : km x0 w w') (h' : km x0 w' w'') : km x0 w w'' := ⟨h'.1.trans h.1, fun c h1 h2 h3 => ⟨(h'.2.1 c h1 h2 h3).1.trans (h.2.1 c h1 h2 h3).1, (h'.2.1 c h1 h2 h3).2.trans (h.2.1 c h1 h2 h3).2⟩, fun f hf => (h'.2.2.1 f hf).trans (h.2.2.1 f hf), fun j hj => (h'.2.2.2 j hj).trans (h.2.2.2 j hj)⟩
theorem km_ma {w w' : qW} (h : ma w w') : km x0 w w' := ⟨h.1, fun c h1 _ _ => h.2.1 c h1, fun f hf => h.2.2 f (by omega), fun j _ => by rw [(h.2.1 77 (by decide)).1]⟩
theorem km_p {w : qW} {f : Nat} {v : Int32} (hf : f = 16 ∨ f = 19 ∨ f = 20 ∨ f = 21) : km x0 w (qPutI w 72 f v) := by
  refine ⟨rfl, fun c h1 _ _ => ⟨funext fun g => pI_c h1, rfl⟩, fun g hg => ?_, fun j _ => ?_⟩
  · rw [pI_f (by omega)]
  · rw [pI_c (by decide)]
theorem mc.km {w' : qW} (h : mc w Z) (k : km x0 w w') : mc w' Z := by
  refine mc.mk ?_ h.l3 (fun j hj => ?_) h.byt
  · rw [k.2.2.1 6 (by decide)]; exact h.len
  · rw [(k.2.1 78 (by decide) (by decide) (by decide)).1]; exact h.tape j hj
/-- the same token in another world -/
theorem cm.same {w' : qW} (h : cm w Z a) (k : km x0 w w') (e : ∀ f, 9 ≤ f → f ≤ 12 → w'.1 72 f = w.1 72 f) (el : w'.2.1 72 13 = w.2.1 72 13) : cm w' Z a := by
  refine cm.mk (h.cc.km k) h.la ?_ ?_ ?_ ?_ ?_
  · rw [e 11 (by decide) (by decide)]; exact h.tok
  · rw [e 10 (by decide) (by decide)]; exact h.pl
  · rw [e 9 (by decide) (by decide)]; exact h.en
  · rw [e 12 (by decide) (by decide)]; exact h.num
  · rw [el]; exact h.wrd
theorem pm.ma {w' : qW} {r : Nat} (h : pm w Z x0 b a cs op St) (k : ma w w') (u : cm w' Z r) : pm w' Z x0 b r cs op St := by
  refine pm.mk u h.x3 ?_ ?_ (fun j hj => ?_) ?_ ?_ ?_ (pile_cg h.pel (fun j _ => by rw [(k.2.1 79 (by decide)).1]))
  · rw [k.2.2 14 (by decide)]; exact h.txt
  · rw [k.2.2 16 (by decide)]; exact h.wri
  · rw [(k.2.1 77 (by decide)).1]; exact h.cod j hj
  · rw [k.2.2 20 (by decide)]; exact h.ope
  · rw [k.2.2 22 (by decide)]; exact h.srt
  · rw [k.2.2 19 (by decide)]; exact h.pil
theorem m_emit {x : Nat × Nat} {i1 i2 : Int32} (hd : 1 ≤ d) (h : pm w Z x0 b a cs op St) (hl : cs.length < 300) (e1 : i1 = nI x.1) (e2 : i2 = nI x.2) (hQ : ∀ w', km x0 w w' → w'.1 72 21 = w.1 72 21 → pm w' Z x0 b a (cs ++ [x]) op St → R w') : qCall (some s) d 239 [.ref 72, .int i1, .int i2] w (qQv R) := by
  obtain ⟨d, rfl, -⟩ := dS hd
  have x3 := h.x3
  refine A_Mo_emit ?_
  rw [h.txt, h.wri, show (80 : Int32) = nI 80 from rfl, show (2 : Int32) = nI 2 from rfl, nI_mul', nI_add, nI_add, nI_1, nI_1, qIx_nI (by omega), qIx_nI (by omega)]
  refine ⟨qIn_nI (by omega) (by decide), qIn_nI (by omega) (by decide), ?_⟩
  have e72 : ∀ f, ¬ f = 16 → (qPutI (qPutI (qPutI w 77 (x0 + 80 + 2 * cs.length) i1) 77 (x0 + 80 + 2 * cs.length + 1) i2) 72 16 (nI (cs.length + 1))).1 72 f = w.1 72 f := fun f hf => by rw [pI_f hf, pI_c (by decide), pI_c (by decide)]
  have kk : km x0 w (qPutI (qPutI (qPutI w 77 (x0 + 80 + 2 * cs.length) i1) 77 (x0 + 80 + 2 * cs.length + 1) i2) 72 16 (nI (cs.length + 1))) := by
    refine ⟨rfl, fun c h1 h2 _ => ⟨funext fun g => by rw [pI_c h1, pI_c h2, pI_c h2], rfl⟩, fun f hf => e72 f (by omega), fun j hj => ?_⟩
    rw [pI_c (by decide), pI_f (by omega), pI_f (by omega)]
  refine hQ _ kk (e72 21 (by decide)) (pm.mk (h.cur.same kk (fun f h1 h2 => e72 f (by omega)) rfl) x3 ?_ ?_ (fun j hj => ?_) ?_ ?_ ?_ (pile_cg h.pel (fun j _ => ?_)))
  · rw [e72 14 (by decide)]; exact h.txt
  · rw [pI_e, List.length_append]; rfl
  · rw [List.length_append] at hj
    have hj : j < cs.length + 1 := hj
    have e77 : ∀ g, (qPutI (qPutI (qPutI w 77 (x0 + 80 + 2 * cs.length) i1) 77 (x0 + 80 + 2 * cs.length + 1) i2) 72 16 (nI (cs.length + 1))).1 77 g = (qPutI (qPutI w 77 (x0 + 80 + 2 * cs.length) i1) 77 (x0 + 80 + 2 * cs.length + 1) i2).1 77 g := fun g => pI_c (by decide)
    rw [e77, e77]
    by_cases e : j = cs.length
    · subst e
      have q : (cs ++ [x]).getD cs.length (0, 0) = x := by
        rw [List.getD_eq_getElem?_getD, List.getElem?_append_right (Nat.le_refl _), Nat.sub_self]; rfl
      rw [q]
      refine ⟨?_, ?_⟩
      · rw [pI_f (by omega), pI_e]; exact e1
      · rw [pI_e]; exact e2
    · have q : (cs ++ [x]).getD j (0, 0) = cs.getD j (0, 0) := by
        rw [List.getD_eq_getElem?_getD, List.getElem?_append_left (by omega), ← List.getD_eq_getElem?_getD]
      rw [q]
      have hc := h.cod j (by omega)
      refine ⟨?_, ?_⟩
      · rw [pI_f (by omega), pI_f (by omega)]; exact hc.1
      · rw [pI_f (by omega), pI_f (by omega)]; exact hc.2
  · rw [e72 20 (by decide)]; exact h.ope
  · rw [e72 22 (by decide)]; exact h.srt
  · rw [e72 19 (by decide)]; exact h.pil
  · rw [pI_c (by decide), pI_c (by decide), pI_c (by decide)]
theorem m_push {o : Nat} {i1 : Int32} (hd : 1 ≤ d) (h : pm w Z x0 b a cs op St) (hl : St.length < 160) (e1 : i1 = nI o) (hQ : ∀ w', km x0 w w' → w'.1 72 21 = w.1 72 21 → pm w' Z x0 b a cs op (o :: St) → R w') : qCall (some s) d 240 [.ref 72, .int i1] w (qQv R) := by
  obtain ⟨d, rfl, -⟩ := dS hd
  refine A_Mo_push ?_
  rw [h.pil, nI_1, qIx_nI (by omega)]
  refine ⟨qIn_nI hl (by decide), ?_⟩
  have e72 : ∀ f, ¬ f = 19 → (qPutI (qPutI w 79 St.length i1) 72 19 (nI (St.length + 1))).1 72 f = w.1 72 f := fun f hf => by rw [pI_f hf, pI_c (by decide)]
  have e77 : ∀ f, (qPutI (qPutI w 79 St.length i1) 72 19 (nI (St.length + 1))).1 77 f = w.1 77 f := fun f => by rw [pI_c (by decide), pI_c (by decide)]
  have kk : km x0 w (qPutI (qPutI w 79 St.length i1) 72 19 (nI (St.length + 1))) := by
    refine ⟨rfl, fun c h1 _ h3 => ⟨funext fun g => by rw [pI_c h1, pI_c h3], rfl⟩, fun f hf => e72 f (by omega), fun j hj => e77 j⟩
  refine hQ _ kk (e72 21 (by decide)) (pm.mk (h.cur.same kk (fun f h1 h2 => e72 f (by omega)) rfl) h.x3 ?_ ?_ (fun j hj => ?_) ?_ ?_ ?_ ⟨?_, pile_cg h.pel (fun j hj => ?_)⟩)
  · rw [e72 14 (by decide)]; exact h.txt
  · rw [e72 16 (by decide)]; exact h.wri
  · rw [e77, e77]; exact h.cod j hj
  · rw [e72 20 (by decide)]; exact h.ope
  · rw [e72 22 (by decide)]; exact h.srt
  · rw [pI_e]; rfl
  · rw [pI_c (by decide), pI_e]; exact e1
  · rw [pI_c (by decide), pI_f (by omega)]
/-- the top taken off -/
theorem pm.pop {o : Nat} (h : pm w Z x0 b a cs op (o :: St)) : pm (qPutI w 72 19 (nI St.length)) Z x0 b a cs op St := by
  have e72 : ∀ f, ¬ f = 19 → (qPutI w 72 19 (nI St.length)).1 72 f = w.1 72 f := fun f hf => pI_f hf
  have kk : km x0 w (qPutI w 72 19 (nI St.length)) := km_p (by omega)
  refine pm.mk (h.cur.same kk (fun f h1 h2 => e72 f (by omega)) rfl) h.x3 ?_ ?_ (fun j hj => ?_) ?_ ?_ ?_ (pile_cg h.pel.2 (fun j hj => ?_))
  · rw [e72 14 (by decide)]; exact h.txt
  · rw [e72 16 (by decide)]; exact h.wri
  · rw [pI_c (by decide), pI_c (by decide)]; exact h.cod j hj
  · rw [e72 20 (by decide)]; exact h.ope
  · rw [e72 22 (by decide)]; exact h.srt
  · rw [pI_e]
  · rw [pI_c (by decide)]
theorem pm.opn {v : Nat} (h : pm w Z x0 b a cs op St) : pm (qPutI w 72 20 (nI v)) Z x0 b a cs v St := by
  have e72 : ∀ f, ¬ f = 20 → (qPutI w 72 20 (nI v)).1 72 f = w.1 72 f := fun f hf => pI_f hf
  have kk : km x0 w (qPutI w 72 20 (nI v)) := km_p (by omega)
  refine pm.mk (h.cur.same kk (fun f h1 h2 => e72 f (by omega)) rfl) h.x3 ?_ ?_ (fun j hj => ?_) ?_ ?_ ?_ (pile_cg h.pel (fun j hj => ?_))
  · rw [e72 14 (by decide)]; exact h.txt
  · rw [e72 16 (by decide)]; exact h.wri
  · rw [pI_c (by decide), pI_c (by decide)]; exact h.cod j hj
  · rw [pI_e]
  · rw [e72 22 (by decide)]; exact h.srt
  · rw [e72 19 (by decide)]; exact h.pil
  · rw [pI_c (by decide)]
theorem pm.whl {v : Int32} (h : pm w Z x0 b a cs op St) : pm (qPutI w 72 21 v) Z x0 b a cs op St := by
  have e72 : ∀ f, ¬ f = 21 → (qPutI w 72 21 v).1 72 f = w.1 72 f := fun f hf => pI_f hf
  have kk : km x0 w (qPutI w 72 21 v) := km_p (by omega)
  refine pm.mk (h.cur.same kk (fun f h1 h2 => e72 f (by omega)) rfl) h.x3 ?_ ?_ (fun j hj => ?_) ?_ ?_ ?_ (pile_cg h.pel (fun j hj => ?_))
  · rw [e72 14 (by decide)]; exact h.txt
  · rw [e72 16 (by decide)]; exact h.wri
  · rw [pI_c (by decide), pI_c (by decide)]; exact h.cod j hj
  · rw [e72 20 (by decide)]; exact h.ope
  · rw [e72 22 (by decide)]; exact h.srt
  · rw [e72 19 (by decide)]; exact h.pil
  · rw [pI_c (by decide)]
def mp0 (l : List Nat) : xSt := l.map (fun o => (o, 0))
/-- what waits is written down to where it may not -/
theorem m_settle {lo : Nat} (hd : 2 ≤ d) (h1 : 1 ≤ lo) (h2 : lo ≤ 40) : ∀ (pend : List Nat) (B : List Nat) (cs : xSt) (w : qW), pm w Z x0 b a cs op (pend ++ B) → (∀ o, o ∈ pend → lo ≤ o ∧ o < 40) → (∀ o r, B = o :: r → o < lo ∨ 40 ≤ o) → (∀ o, o ∈ B → o ≤ 40) → (pend ++ B).length ≤ 100 → cs.length + pend.length ≤ 300 → (∀ w', km x0 w w' → w'.1 72 21 = w.1 72 21 → pm w' Z x0 b a (cs ++ mp0 pend) op B → R w') → qCall (some s) d 238 [.ref 72, .int (nI lo)] w (qQv R) := by
  intro pend B cs w h hp hB hB4 hlen hcs hQ
  obtain ⟨d, rfl, hd1⟩ := dS hd
  refine A_Mo_settle ?_
  have go : ∀ (pend : List Nat) (cs : xSt) (w1 : qW), pm w1 Z x0 b a cs op (pend ++ B) → (∀ o, o ∈ pend → lo ≤ o ∧ o < 40) → (pend ++ B).length ≤ 100 → cs.length + pend.length ≤ 300 → (∀ w', km x0 w1 w' → w'.1 72 21 = w1.1 72 21 → pm w' Z x0 b a (cs ++ mp0 pend) op B → R w') → qAt s d c_Mo_settle (qQv R) 0 [some (.ref 72), some (.int (nI lo))] [] w1 := by
    intro pend
    induction pend with
    | nil =>
      intro cs w1 h _ hlen _ hQ
      have fin : R w1 := hQ w1 (km_rf _ _) rfl (by show pm w1 Z x0 b a (cs ++ []) op B; rw [List.append_nil]; exact h)
      refine A_Mo_settle_0 ?_
      have hp : w1.1 72 19 = nI B.length := h.pil
      rw [hp]
      cases eB : B with
      | nil => exact ⟨fun _ => fin, fun g => absurd (Int32.le_refl _) g⟩
      | cons o r =>
        have hb := hB o r eB
        have h4 := hB4 o (by rw [eB]; exact List.mem_cons_self)
        have h : pm w1 Z x0 b a cs op B := h
        rw [eB] at h
        have top := h.pel.1
        have lr : B.length = r.length + 1 := by rw [eB]; rfl
        have hlen : B.length ≤ 100 := hlen
        have e1 : nI (o :: r).length - (1 : Int32) = nI r.length := nI_sub' (a := r.length + 1) (b := 1) (by omega)
        rw [e1, qIx_nI (by omega), top, show (40 : Int32) = nI 40 from rfl, nI_leI (by omega) (by omega), nI_ltI (by omega) (by omega)]
        refine ⟨fun _ => fin, fun _ => ⟨qIn_nI (by omega) (by decide), fun _ => fin, fun g => ⟨qIn_nI (by omega) (by decide), fun _ => fin, fun g2 => ?_⟩⟩⟩
        omega
    | cons o r ih =>
      intro cs w1 h hp hlen hcs hQ
      have ho := hp o List.mem_cons_self
      have h : pm w1 Z x0 b a cs op (o :: (r ++ B)) := h
      have top := h.pel.1
      have hlen : (r ++ B).length + 1 ≤ 100 := hlen
      have hcs : cs.length + (r.length + 1) ≤ 300 := hcs
      refine A_Mo_settle_0 ?_
      have e1 : nI (o :: (r ++ B)).length - (1 : Int32) = nI (r ++ B).length := nI_sub' (a := (r ++ B).length + 1) (b := 1) (by omega)
      rw [h.pil, e1, qIx_nI (by omega), top, show (40 : Int32) = nI 40 from rfl, nI_leI (by omega) (by omega), nI_ltI (by omega) (by omega)]
      refine ⟨fun g => ?_, fun _ => ⟨qIn_nI (by omega) (by decide), fun g => by omega, fun _ => ⟨qIn_nI (by omega) (by decide), fun g => by omega, fun _ => ⟨qIn_nI (by omega) (by decide), ?_⟩⟩⟩⟩
      · have g : nI ((r ++ B).length + 1) ≤ nI 0 := g
        rw [nI_leI (by omega) (by omega)] at g
        omega
      · refine m_emit (x := (o, 0)) (by omega) h.pop (by omega) rfl rfl (fun w3 k3 e3 p3 => ?_)
        refine ih (cs ++ [(o, 0)]) w3 p3 (fun x hx => hp x (List.mem_cons_of_mem _ hx)) (by omega) (by rw [List.length_append]; show cs.length + 1 + _ ≤ _; omega) (fun w4 k4 e4 p4 => hQ w4 (km_tr (km_tr (km_p (by omega)) k3) k4) (by rw [e4, e3, pI_f (by decide)]) ?_)
        rw [List.append_assoc] at p4
        exact p4
  exact go pend cs w h hp hlen hcs hQ
def stM : List Nat → Nat
  | [] => 0
  | o :: r => if o = 2 then stM r + 1 else 0
def mn2 (k : Nat) : xSt := List.replicate k (2, 0)
theorem stM_le : ∀ St : List Nat, stM St ≤ St.length
  | [] => Nat.le_refl _
  | o :: r => by
    unfold stM
    have := stM_le r
    split
    · exact Nat.succ_le_succ this
    · exact Nat.zero_le _
theorem m_whole (hd : 2 ≤ d) : ∀ (St : List Nat) (cs : xSt) (op : Nat) (w : qW), pm w Z x0 b a cs op St → (∀ o, o ∈ St → o ≤ 40) → St.length ≤ 100 → stM St ≤ op → op ≤ 8 → cs.length + stM St ≤ 300 → (∀ w', km x0 w w' → w'.1 72 21 = nI 1 → pm w' Z x0 b a (cs ++ mn2 (stM St)) (op - stM St) (St.drop (stM St)) → R w') → qCall (some s) d 241 [.ref 72] w (qQv R) := by
  intro St cs op w h h4 hlen hop hop8 hcs hQ
  obtain ⟨d, rfl, hd1⟩ := dS hd
  refine A_Mo_whole ?_
  have go : ∀ (St : List Nat) (cs : xSt) (op : Nat) (w1 : qW), pm w1 Z x0 b a cs op St → w1.1 72 21 = nI 1 → (∀ o, o ∈ St → o ≤ 40) → St.length ≤ 100 → stM St ≤ op → op ≤ 8 → cs.length + stM St ≤ 300 → (∀ w', km x0 w1 w' → w'.1 72 21 = nI 1 → pm w' Z x0 b a (cs ++ mn2 (stM St)) (op - stM St) (St.drop (stM St)) → R w') → qAt s d c_Mo_whole (qQv R) 5 [some (.ref 72)] [] w1 := by
    intro St
    induction St with
    | nil =>
      intro cs op w1 h e21 _ _ _ _ _ hQ
      refine A_Mo_whole_5 ?_
      rw [h.pil]
      refine ⟨fun _ => hQ w1 (km_rf _ _) e21 ?_, fun g => absurd (Int32.le_refl _) g⟩
      show pm w1 Z x0 b a (cs ++ []) (op - 0) []
      rw [List.append_nil]; exact h
    | cons o r ih =>
      intro cs op w1 h e21 h4 hlen hop hop8 hcs hQ
      have top := h.pel.1
      have hlen : r.length + 1 ≤ 100 := hlen
      have ho := h4 o List.mem_cons_self
      refine A_Mo_whole_5 ?_
      have e1 : nI (o :: r).length - (1 : Int32) = nI r.length := nI_sub' (a := r.length + 1) (b := 1) (by omega)
      rw [h.pil, e1, qIx_nI (by omega), top, show (2 : Int32) = nI 2 from rfl, nI_eq (by omega) (by omega)]
      refine ⟨fun g => ?_, fun _ => ⟨qIn_nI (by omega) (by decide), fun g => ?_, fun g => ?_⟩⟩
      · have g : nI (r.length + 1) ≤ nI 0 := g
        rw [nI_leI (by omega) (by omega)] at g
        omega
      · have s0 : stM (o :: r) = 0 := if_neg g
        rw [s0] at hQ
        refine hQ w1 (km_rf _ _) e21 ?_
        show pm w1 Z x0 b a (cs ++ []) (op - 0) (o :: r)
        rw [List.append_nil]; exact h
      · have s1 : stM (o :: r) = stM r + 1 := if_pos g
        rw [s1] at hQ hop hcs
        rw [h.ope, show nI op - (1 : Int32) = nI (op - 1) from nI_sub' (a := op) (b := 1) (by omega)]
        refine m_emit (x := (2, 0)) (by omega) (h.pop.opn (v := op - 1)) (by omega) rfl rfl (fun w3 k3 e3 p3 => ?_)
        refine ih (cs ++ [(2, 0)]) (op - 1) w3 p3 (by rw [e3, pI_f (by decide), pI_f (by decide)]; exact e21) (fun x hx => h4 x (List.mem_cons_of_mem _ hx)) (by omega) (by omega) (by omega) (by rw [List.length_append]; show cs.length + 1 + _ ≤ _; omega) (fun w4 k4 e4 p4 => hQ w4 (km_tr (km_tr (km_tr (km_p (by omega)) (km_p (by omega))) k3) k4) e4 ?_)
        have e5 : cs ++ mn2 (stM r + 1) = cs ++ [(2, 0)] ++ mn2 (stM r) := by unfold mn2; rw [List.replicate_succ, List.append_assoc]; rfl
        rw [e5, show op - (stM r + 1) = op - 1 - stM r by omega]
        exact p4
  refine go St cs op _ h.whl (by rw [pI_e]; rfl) h4 hlen hop hop8 hcs (fun w' k' e' p' => hQ w' (km_tr (km_p (by omega)) k') e' p')
theorem pile_at : ∀ {St : List Nat}, pile w St → ∀ j, j < St.length → w.1 79 j = nI (St.getD (St.length - 1 - j) 0)
  | [], _, j, hj => absurd hj (Nat.not_lt_zero _)
  | o :: r, h, j, hj => by
    have hj : j < r.length + 1 := hj
    by_cases e : j = r.length
    · rw [e]
      show w.1 79 r.length = nI ((o :: r).getD (r.length + 1 - 1 - r.length) 0)
      rw [show r.length + 1 - 1 - r.length = 0 by omega]
      exact h.1
    · have := pile_at h.2 j (by omega)
      show w.1 79 j = nI ((o :: r).getD (r.length + 1 - 1 - j) 0)
      rw [show r.length + 1 - 1 - j = (r.length - 1 - j) + 1 by omega]
      exact this
theorem m_hasParen (hd : 1 ≤ d) (h : pm w Z x0 b a cs op St) (h4 : ∀ o, o ∈ St → o ≤ 40) (hl : St.length ≤ 100) (hQ : Q (tI (decide (40 ∈ St))) w) : qCall (some s) d 236 [.ref 72] w (qQi Q) := by
  obtain ⟨d, rfl, -⟩ := dS hd
  refine A_Mo_hasParen ?_
  refine lpN (i := 0) (n := St.length) (P := fun i => (∀ j, j < i → ¬ St.getD (St.length - 1 - j) 0 = 40) → qAt s d c_Mo_hasParen (qQi Q) 2 [some (.ref 72), some (.int (nI i))] [] w) ?_ ?_ (Nat.zero_le _) (fun j hj => absurd hj (Nat.not_lt_zero _))
  · intro hn
    have no : ¬ 40 ∈ St := by
      intro hm
      obtain ⟨k, hk, e⟩ := List.getElem_of_mem hm
      refine hn (St.length - 1 - k) (by omega) ?_
      rw [show St.length - 1 - (St.length - 1 - k) = k by omega, gD_in hk]
      exact e
    rw [decide_eq_false no] at hQ
    refine A_Mo_hasParen_2 ?_
    rw [h.pil]
    exact ⟨fun _ => hQ, fun g => absurd (Int32.le_refl _) g⟩
  · intro i hi ih hn
    have e := pile_at h.pel i hi
    have lt : St.length - 1 - i < St.length := by omega
    have mem : St.getD (St.length - 1 - i) 0 ∈ St := by rw [gD_in lt]; exact List.getElem_mem lt
    have b4 := h4 _ mem
    refine A_Mo_hasParen_2 ?_
    rw [h.pil, nI_leI (by omega) (by omega), qIx_nI (by omega), e, show (40 : Int32) = nI 40 from rfl, nI_eq (by omega) (by omega), nI_1]
    refine ⟨fun g => by omega, fun _ => ⟨qIn_nI (by omega) (by decide), fun g => ih (fun j hj => ?_), fun g => ?_⟩⟩
    · by_cases ej : j = i
      · rw [ej]; exact g
      · exact hn j (by omega)
    · rw [g] at mem
      rw [decide_eq_true mem] at hQ
      exact hQ
end SumM
