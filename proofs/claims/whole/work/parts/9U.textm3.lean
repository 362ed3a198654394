/-! text: the reference's call. -/
section TextM3
variable {s : Nat × (Nat → Int32)} {d : Nat} {w w0 : qW} {Q : Int32 → qW → Prop} {R : qW → Prop} {Z : vZ} {a x0 n : Nat} {b : Bool} {cs : xSt} {cl : List xC} {N K : vS} {T : Nat → vT}
def krx (x0 : Nat) (w w' : qW) : Prop := (∀ c, ¬ c = 72 → ¬ c = 77 → ¬ c = 79 → w'.1 c = w.1 c ∧ w'.2.1 c = w.2.1 c) ∧ (∀ f, f < 9 → w'.1 72 f = w.1 72 f) ∧ ∀ j, (j < x0 ∨ x0 + 700 ≤ j) → w'.1 77 j = w.1 77 j
theorem krx_kn {w w' w'' : qW} (h : krx x0 w w') (h' : kn x0 w' w'') : krx x0 w w'' := ⟨fun c h1 h2 h3 => ⟨(h'.2.1 c h1 h2 h3).1.trans (h.1 c h1 h2 h3).1, (h'.2.1 c h1 h2 h3).2.trans (h.1 c h1 h2 h3).2⟩, fun f hf => (h'.2.2.1 f (by omega)).trans (h.2.1 f hf), fun j hj => (h'.2.2.2 j hj).trans (h.2.2 j hj)⟩
theorem m_readText (hd : 17 ≤ d) (h : mc w Z) (hn : w.1 73 3 = nI n) (n4 : n < 4) (hy : ∀ cl cs r w', xTx Z = .ok cl → krx (700 * n) w w' → pn w' Z (700 * n) r cs → cs.length ≤ r → ux w' (700 * n) cl cs → Q 0 w') (he : ∀ e w', xTx Z = .error e → krx (700 * n) w w' → erm w' e → Q (nI e.1) w') : qCall (some s) d 220 [.ref 72] w (qQi Q) := by
  obtain ⟨d, rfl, hd1⟩ := dS hd
  have l3 := h.l3
  have ne : ∀ e : Nat × Nat, ∀ w' : qW, erm w' e → ¬ nI e.1 = (0 : Int32) := fun e w' x => nI_pos0 x.2.1 (by have := x.2.2; omega)
  have loop : ∀ k cl a (cs : xSt) w1, cl.length + k = 25 → cl.length ≤ 24 → krx (700 * n) w w1 → pn w1 Z (700 * n) a cs → cs.length ≤ a → ux w1 (700 * n) cl cs → (∀ cl' cs' r w', xAl Z k cl a = .ok cl' → krx (700 * n) w w' → pn w' Z (700 * n) r cs' → cs'.length ≤ r → ux w' (700 * n) cl' cs' → Q 0 w') → (∀ e w', xAl Z k cl a = .error e → krx (700 * n) w w' → erm w' e → Q (nI e.1) w') → qAt s d c_Mo_readText (qQi Q) 48 [some (.ref 72), none] [] w1 := by
    intro k
    induction k with
    | zero => intro cl a cs w1 hk h24; omega
    | succ k ih =>
      intro cl a cs w1 hk h24 k1 p1 ca t1 hy1 hn1
      have u1 := p1.cur
      refine A_Mo_readText_48 ?_
      rw [show (w1.1 72 11 = 0) = (w1.1 72 11 = nI 0) from rfl, u1.is (by omega)]
      refine ⟨fun g => hy1 cl cs a w1 (xAl_Z g) k1 p1 ca t1, fun g => ?_⟩
      rw [xAl_S g] at hy1 hn1
      refine m_clause (by omega) p1 ca t1 h24 (fun x r cs' w2 e2 k2 p2 c2 t2 => b0 ?_) (fun e w2 e2 k2 x2 => ⟨fun z => absurd z (ne e w2 x2), fun _ => hn1 e w2 (by rw [e2]) (krx_kn k1 k2) x2⟩)
      have o := xCl_ok e2
      have l : (cl ++ [x]).length = cl.length + 1 := List.length_append
      rw [e2] at hy1 hn1
      exact ih (cl ++ [x]) r cs' w2 (by omega) (by omega) (krx_kn k1 k2) p2 c2 t2 hy1 hn1
  refine A_Mo_readText ⟨qIn_nI (j := 3) (by decide) (by decide), ?_⟩
  rw [show qIx (3 : Int32) = 3 from rfl, hn, show (700 : Int32) = nI 700 from rfl, nI_mul', qIx_nI (by omega)]
  refine ⟨qIn_nI (by omega) (by decide), A_Mo_readText_34 ?_⟩
  have e72 : ∀ f, f < 9 → (qPutI (qPutI (qPutI (qPutI (qPutI (qPutI w 72 14 (nI (700 * n))) 77 (700 * n) (0 : Int32)) 72 16 (0 : Int32)) 72 20 (0 : Int32)) 72 23 (0 : Int32)) 72 9 (0 : Int32)).1 72 f = w.1 72 f := fun f hf => by
    rw [pI_f (by omega), pI_f (by omega), pI_f (by omega), pI_f (by omega), pI_c (by decide), pI_f (by omega)]
  have e9 : (qPutI (qPutI (qPutI (qPutI (qPutI (qPutI w 72 14 (nI (700 * n))) 77 (700 * n) (0 : Int32)) 72 16 (0 : Int32)) 72 20 (0 : Int32)) 72 23 (0 : Int32)) 72 9 (0 : Int32)).1 72 9 = nI 0 := by rw [pI_e]; rfl
  have e23 : (qPutI (qPutI (qPutI (qPutI (qPutI (qPutI w 72 14 (nI (700 * n))) 77 (700 * n) (0 : Int32)) 72 16 (0 : Int32)) 72 20 (0 : Int32)) 72 23 (0 : Int32)) 72 9 (0 : Int32)).1 72 23 = nI 0 := by rw [pI_f (by decide), pI_e]; rfl
  have e20 : (qPutI (qPutI (qPutI (qPutI (qPutI (qPutI w 72 14 (nI (700 * n))) 77 (700 * n) (0 : Int32)) 72 16 (0 : Int32)) 72 20 (0 : Int32)) 72 23 (0 : Int32)) 72 9 (0 : Int32)).1 72 20 = nI 0 := by rw [pI_f (by decide), pI_f (by decide), pI_e]; rfl
  have e16 : (qPutI (qPutI (qPutI (qPutI (qPutI (qPutI w 72 14 (nI (700 * n))) 77 (700 * n) (0 : Int32)) 72 16 (0 : Int32)) 72 20 (0 : Int32)) 72 23 (0 : Int32)) 72 9 (0 : Int32)).1 72 16 = nI 0 := by rw [pI_f (by decide), pI_f (by decide), pI_f (by decide), pI_e]; rfl
  have e14 : (qPutI (qPutI (qPutI (qPutI (qPutI (qPutI w 72 14 (nI (700 * n))) 77 (700 * n) (0 : Int32)) 72 16 (0 : Int32)) 72 20 (0 : Int32)) 72 23 (0 : Int32)) 72 9 (0 : Int32)).1 72 14 = nI (700 * n) := by rw [pI_f (by decide), pI_f (by decide), pI_f (by decide), pI_f (by decide), pI_c (by decide), pI_e]
  have e77 : ∀ j, ¬ j = 700 * n → (qPutI (qPutI (qPutI (qPutI (qPutI (qPutI w 72 14 (nI (700 * n))) 77 (700 * n) (0 : Int32)) 72 16 (0 : Int32)) 72 20 (0 : Int32)) 72 23 (0 : Int32)) 72 9 (0 : Int32)).1 77 j = w.1 77 j := fun j hj => by
    rw [pI_c (by decide), pI_c (by decide), pI_c (by decide), pI_c (by decide), pI_f hj, pI_c (by decide)]
  have e70 : (qPutI (qPutI (qPutI (qPutI (qPutI (qPutI w 72 14 (nI (700 * n))) 77 (700 * n) (0 : Int32)) 72 16 (0 : Int32)) 72 20 (0 : Int32)) 72 23 (0 : Int32)) 72 9 (0 : Int32)).1 77 (700 * n) = nI 0 := by
    rw [pI_c (by decide), pI_c (by decide), pI_c (by decide), pI_c (by decide), pI_e]; rfl
  have ec : ∀ c, ¬ c = 72 → ¬ c = 77 → (qPutI (qPutI (qPutI (qPutI (qPutI (qPutI w 72 14 (nI (700 * n))) 77 (700 * n) (0 : Int32)) 72 16 (0 : Int32)) 72 20 (0 : Int32)) 72 23 (0 : Int32)) 72 9 (0 : Int32)).1 c = w.1 c := fun c h1 h2 => funext fun g => by
    rw [pI_c h1, pI_c h1, pI_c h1, pI_c h1, pI_c h2, pI_c h1]
  have el : (qPutI (qPutI (qPutI (qPutI (qPutI (qPutI w 72 14 (nI (700 * n))) 77 (700 * n) (0 : Int32)) 72 16 (0 : Int32)) 72 20 (0 : Int32)) 72 23 (0 : Int32)) 72 9 (0 : Int32)).2 = w.2 := rfl
  revert e72 e9 e23 e20 e16 e14 e77 e70 ec el
  generalize (qPutI (qPutI (qPutI (qPutI (qPutI (qPutI w 72 14 (nI (700 * n))) 77 (700 * n) (0 : Int32)) 72 16 (0 : Int32)) 72 20 (0 : Int32)) 72 23 (0 : Int32)) 72 9 (0 : Int32)) = v
  intro e72 e9 e23 e20 e16 e14 e77 e70 ec el
  have hv : mc v Z := mc.mk (by rw [e72 6 (by decide)]; exact h.len) l3 (fun j hj => by rw [ec 78 (by decide) (by decide)]; exact h.tape j hj) h.byt
  have kv : krx (700 * n) w v := ⟨fun c h1 h2 _ => ⟨ec c h1 h2, by rw [el]⟩, e72, fun j hj => e77 j (by omega)⟩
  refine m_nextToken (e := 0) (by omega) hv e9 (Nat.zero_le _) (fun w3 k3 u3 => ?_)
  have p3 : pn w3 Z (700 * n) 0 [] := by
    refine pn.mk u3 (by omega) ?_ ?_ (fun j hj => absurd hj (Nat.not_lt_zero _)) ?_
    · rw [k3.2.2 14 (by decide)]; exact e14
    · rw [k3.2.2 16 (by decide)]; exact e16
    · rw [k3.2.2 20 (by decide)]; exact e20
  have t3 : ux w3 (700 * n) [] [] := by
    refine ux.mk ?_ ?_ (fun k hk => absurd hk (Nat.not_lt_zero _)) (fun k hk => absurd hk (Nat.not_lt_zero _)) (fun k hk => absurd hk (Nat.not_lt_zero _))
    · rw [(k3.2.1 77 (by decide)).1]; exact e70
    · rw [k3.2.2 23 (by decide)]; exact e23
  exact loop 25 [] 0 [] w3 rfl (by decide) (krx_kn kv (kn_ma k3)) p3 (Nat.le_refl _) t3 hy he
theorem ux.rU {r : Nat} (t : ux w (700 * n) cl cs) (p : pn w Z (700 * n) r cs) (hc : cs.length ≤ r) : rU w n (xTv cl) := by
  refine rU.mk t.nc t.kin t.lf (fun k hk h2 => ?_)
  obtain ⟨f, f1, f2, f3, f4⟩ := t.cod k hk h2
  have l3 := p.cur.cc.l3
  have la := p.cur.la
  refine ⟨f, f1, f2, by show f + (cl.getD k xz).2.2.2.length ≤ 300; omega, fun j hj => ?_⟩
  have hj : j < (cl.getD k xz).2.2.2.length := hj
  have q := p.cod (f + j) (by omega)
  rw [f4 j hj] at q
  exact q
theorem m_text (hd : 18 ≤ d) (hX : rM w N K T Z) (hy : ∀ cl w', N 3 0 < 4 → xTx Z = .ok cl → rM w' (sPut N 3 0 (N 3 0 + 1)) K (tAdd T (N 3 0) (xTv cl)) (zTx Z (nI 0) (-(nI 1))) → fr (fun c => 72 ≤ c) w w' → Q (nI (N 3 0)) w') (he : ∀ e w', N 3 0 < 4 → xTx Z = .error e → rM w' N K T (zTx Z (nI e.1) (nI e.2)) → fr (fun c => 72 ≤ c) w w' → Q (-1) w') (hn : ¬ N 3 0 < 4 → Q (-1) w) : qCall (some s) d 219 [.ref 72] w (qQi Q) := by
  obtain ⟨d, rfl, hd1⟩ := dS hd
  have o := hX.okn
  have o4 := o.txs
  have l3 := hX.l300
  generalize en : N 3 0 = n at *
  have h3 : w.1 73 3 = nI n := by rw [hX.n.txs, en]
  refine A_Mo_text ⟨qIn_nI (j := 3) (by decide) (by decide), ?_⟩
  rw [show qIx (3 : Int32) = 3 from rfl, h3, show (4 : Int32) = nI 4 from rfl, nI_eq (by omega) (by omega)]
  refine ⟨fun g4 => ?_, fun g4 => hn (by omega)⟩
  have n4 : n < 4 := by omega
  have h : mc w Z := mc.mk hX.len hX.l300 hX.tape hX.byt
  refine m_readText (by omega) h h3 n4 (fun cl cs r w2 ex k2 p2 c2 t2 => ⟨fun z => absurd rfl z, fun _ => A_Mo_text_36 ?_⟩) (fun e w2 ex k2 x2 => ?_)
  · refine ⟨fun _ => ?_, fun z => absurd (by rw [pI_e]) z⟩
    have w23 : w2.1 73 3 = nI n := by rw [(k2.1 73 (by decide) (by decide) (by decide)).1]; exact h3
    rw [show qIx (3 : Int32) = 3 from rfl, show (qPutI w2 72 7 (0 : Int32)).1 73 3 = nI n from by rw [pI_c (by decide)]; exact w23, nI_1, pI_e, show nI (n + 1) - (1 : Int32) = nI n from nI_sub' (a := n + 1) (b := 1) (by omega)]
    refine ⟨qIn_nI (j := 3) (by decide) (by decide), qIn_nI (j := 3) (by decide) (by decide), qIn_nI (j := 3) (by decide) (by decide), ?_⟩
    have ok := xTx_ok ex
    have hN : ∀ a, ¬ a = 3 → sPut N 3 0 (n + 1) a = N a := fun a h => funext fun i => sP_c h
    have ec : ∀ c, ¬ c = 72 → ¬ c = 73 → (qPutI (qPutI (qPutI (qPutI w2 72 7 (0 : Int32)) 72 8 (-1 : Int32)) 72 6 (0 : Int32)) 73 3 (nI (n + 1))).1 c = w2.1 c := fun c h1 h2 => funext fun g => by rw [pI_c h2, pI_c h1, pI_c h1, pI_c h1]
    have e73 : ∀ f, ¬ f = 3 → (qPutI (qPutI (qPutI (qPutI w2 72 7 (0 : Int32)) 72 8 (-1 : Int32)) 72 6 (0 : Int32)) 73 3 (nI (n + 1))).1 73 f = w.1 73 f := fun f hf => by rw [pI_f hf, pI_c (by decide), pI_c (by decide), pI_c (by decide), (k2.1 73 (by decide) (by decide) (by decide)).1]
    have e33 : (qPutI (qPutI (qPutI (qPutI w2 72 7 (0 : Int32)) 72 8 (-1 : Int32)) 72 6 (0 : Int32)) 73 3 (nI (n + 1))).1 73 3 = nI (n + 1) := by rw [pI_e]
    have e6 : (qPutI (qPutI (qPutI (qPutI w2 72 7 (0 : Int32)) 72 8 (-1 : Int32)) 72 6 (0 : Int32)) 73 3 (nI (n + 1))).1 72 6 = nI 0 := by rw [pI_c (by decide), pI_e]; rfl
    have e7 : (qPutI (qPutI (qPutI (qPutI w2 72 7 (0 : Int32)) 72 8 (-1 : Int32)) 72 6 (0 : Int32)) 73 3 (nI (n + 1))).1 72 7 = nI 0 := by rw [pI_c (by decide), pI_f (by decide), pI_f (by decide), pI_e]; rfl
    have e8 : (qPutI (qPutI (qPutI (qPutI w2 72 7 (0 : Int32)) 72 8 (-1 : Int32)) 72 6 (0 : Int32)) 73 3 (nI (n + 1))).1 72 8 = -(nI 1) := by rw [pI_c (by decide), pI_f (by decide), pI_e]; rfl
    have el : (qPutI (qPutI (qPutI (qPutI w2 72 7 (0 : Int32)) 72 8 (-1 : Int32)) 72 6 (0 : Int32)) 73 3 (nI (n + 1))).2 = w2.2 := rfl
    refine hy cl _ n4 ex ?_ ?_
    · revert ec e73 e33 e6 e7 e8 el
      generalize (qPutI (qPutI (qPutI (qPutI w2 72 7 (0 : Int32)) 72 8 (-1 : Int32)) 72 6 (0 : Int32)) 73 3 (nI (n + 1))) = v
      intro ec e73 e33 e6 e7 e8 el
      have hS := hX.n
      have l75 : v.2.1 75 = w.2.1 75 := by rw [el]; exact (k2.1 75 (by decide) (by decide) (by decide)).2
      refine rM.mk ?_ ?_ (okS_tx o en n4) hX.okk ?_ ?_ ?_ e6 (Nat.zero_le _) (fun j hj => absurd hj (Nat.not_lt_zero _)) (fun j hj => absurd hj (Nat.not_lt_zero _)) e7 e8
      · refine rR.mk ?_ ?_ ?_ ?_ ?_ ?_ ?_ ?_ ?_ ?_ ?_ ?_ ?_ ?_ ?_ ?_ ?_ ?_ ?_ ?_ ?_ ?_ ?_
        · rw [e73 0 (by decide), hN 0 (by decide)]; exact hS.ppl
        · rw [e73 1 (by decide), hN 1 (by decide)]; exact hS.day
        · rw [e73 2 (by decide), hN 2 (by decide)]; exact hS.clk
        · rw [e33, sP_e]
        · rw [e73 4 (by decide), hN 4 (by decide)]; exact hS.rul
        · rw [e73 5 (by decide), hN 5 (by decide)]; exact hS.tks
        · rw [e73 6 (by decide), hN 6 (by decide)]; exact hS.gvs
        · rw [e73 7 (by decide), hN 7 (by decide)]; exact hS.nds
        · rw [e73 8 (by decide), hN 8 (by decide)]; exact hS.hds
        · rw [hN 0 (by decide), hN 10 (by decide)]; exact fun i hi => by rw [e73 _ (by omega)]; exact hS.num i hi
        · rw [hN 0 (by decide), hN 11 (by decide)]; exact fun i hi => by rw [e73 _ (by omega)]; exact hS.fst i hi
        · rw [hN 0 (by decide), hN 12 (by decide)]; exact fun i hi => by rw [e73 _ (by omega)]; exact hS.nr i hi
        · rw [hN 0 (by decide)]; exact fun i hi hj => by rw [e73 _ (by omega)]; exact hS.nr0 i hi hj
        · rw [hN 6 (by decide), hN 13 (by decide)]; exact fun i hi => by rw [e73 _ (by omega)]; exact hS.gv i hi
        · rw [hN 7 (by decide), hN 14 (by decide)]; exact fun i hi => by rw [e73 _ (by omega)]; exact hS.ndA i hi
        · rw [hN 7 (by decide), hN 15 (by decide)]; exact fun i hi => by rw [e73 _ (by omega)]; exact hS.ndB i hi
        · rw [hN 7 (by decide), hN 16 (by decide)]; exact fun i hi => by rw [e73 _ (by omega)]; exact hS.nda i hi
        · rw [hN 7 (by decide), hN 17 (by decide)]; exact fun i hi => by rw [e73 _ (by omega)]; exact hS.ndh i hi
        · rw [hN 8 (by decide), hN 18 (by decide)]; exact fun i hi => by rw [e73 _ (by omega)]; exact hS.hrd i hi
        · rw [hN 8 (by decide), hN 19 (by decide)]; exact fun i hi => by rw [e73 _ (by omega)]; exact hS.hri i hi
        · rw [l75, hN 5 (by decide), hN 20 (by decide)]; exact hS.tkh
        · rw [hN 5 (by decide), hN 21 (by decide)]; exact fun i hi => by rw [e73 _ (by omega)]; exact hS.tkA i hi
        · rw [hN 5 (by decide), hN 22 (by decide)]; exact fun i hi => by rw [e73 _ (by omega)]; exact hS.tkB i hi
      · exact rR_fr hX.k (by rw [ec 74 (by decide) (by decide)]; exact (k2.1 74 (by decide) (by decide) (by decide)).1) (by rw [el]; exact (k2.1 76 (by decide) (by decide) (by decide)).2)
      · rw [sP_e]; have := hX.kt; omega
      · intro i hi
        rw [sP_e] at hi
        unfold tAdd
        by_cases e : i = n
        · rw [if_pos e, e]
          exact rU_fr (t2.rU p2 c2) (ec 77 (by decide) (by decide))
        · rw [if_neg e]
          have q := hX.t i (by omega)
          have nb := (hX.okt i (by omega)).nc
          have q77 : ∀ j, j < 700 * n → v.1 77 j = w.1 77 j := fun j hj => by rw [ec 77 (by decide) (by decide)]; exact k2.2.2 j (Or.inl hj)
          refine rU.mk ?_ (fun k hk => ?_) (fun k hk => ?_) (fun k hk h2 => ?_)
          · rw [q77 _ (by omega)]; exact q.nc
          · rw [q77 _ (by omega)]; exact q.kind k hk
          · rw [q77 _ (by omega), q77 _ (by omega)]; exact q.lf k hk
          · rw [q77 _ (by omega), q77 _ (by omega)]
            obtain ⟨f, f1, f2, f3, f4⟩ := q.code k hk h2
            refine ⟨f, f1, f2, f3, fun j hj => ?_⟩
            rw [q77 _ (by omega), q77 _ (by omega)]
            exact f4 j hj
      · intro i hi
        rw [sP_e] at hi
        unfold tAdd
        by_cases e : i = n
        · rw [if_pos e]; exact ok
        · rw [if_neg e]; exact hX.okt i (by omega)
    · intro x hx
      have hx : ¬ 72 ≤ x := hx
      exact ⟨by rw [ec x (by omega) (by omega)]; exact (k2.1 x (by omega) (by omega) (by omega)).1, by rw [el]; exact (k2.1 x (by omega) (by omega) (by omega)).2⟩
  · have ne : ¬ nI e.1 = (0 : Int32) := nI_pos0 x2.2.1 (by have := x2.2.2; omega)
    refine ⟨fun _ => A_Mo_text_36 ⟨fun z => absurd z (by rw [pI_e]; exact ne), fun _ => ?_⟩, fun z => absurd z ne⟩
    rw [x2.1]
    have ec : ∀ c, ¬ c = 72 → (qPutI (qPutI (qPutI w2 72 7 (nI e.1)) 72 8 (nI e.2)) 72 6 (0 : Int32)).1 c = w2.1 c := fun c h1 => funext fun g => by rw [pI_c h1, pI_c h1, pI_c h1]
    have e6 : (qPutI (qPutI (qPutI w2 72 7 (nI e.1)) 72 8 (nI e.2)) 72 6 (0 : Int32)).1 72 6 = nI 0 := by rw [pI_e]; rfl
    have e7 : (qPutI (qPutI (qPutI w2 72 7 (nI e.1)) 72 8 (nI e.2)) 72 6 (0 : Int32)).1 72 7 = nI e.1 := by rw [pI_f (by decide), pI_f (by decide), pI_e]
    have e8 : (qPutI (qPutI (qPutI w2 72 7 (nI e.1)) 72 8 (nI e.2)) 72 6 (0 : Int32)).1 72 8 = nI e.2 := by rw [pI_f (by decide), pI_e]
    have el : (qPutI (qPutI (qPutI w2 72 7 (nI e.1)) 72 8 (nI e.2)) 72 6 (0 : Int32)).2 = w2.2 := rfl
    refine he e _ n4 ex ?_ ?_
    · revert ec e6 e7 e8 el
      generalize (qPutI (qPutI (qPutI w2 72 7 (nI e.1)) 72 8 (nI e.2)) 72 6 (0 : Int32)) = v
      intro ec e6 e7 e8 el
      refine rM.mk (rR_fr hX.n (by rw [ec 73 (by decide)]; exact (k2.1 73 (by decide) (by decide) (by decide)).1) (by rw [el]; exact (k2.1 75 (by decide) (by decide) (by decide)).2)) (rR_fr hX.k (by rw [ec 74 (by decide)]; exact (k2.1 74 (by decide) (by decide) (by decide)).1) (by rw [el]; exact (k2.1 76 (by decide) (by decide) (by decide)).2)) hX.okn hX.okk hX.kt ?_ hX.okt e6 (Nat.zero_le _) (fun j hj => absurd hj (Nat.not_lt_zero _)) (fun j hj => absurd hj (Nat.not_lt_zero _)) e7 e8
      intro i hi
      rw [en] at hi
      have q := hX.t i (by omega)
      have nb := (hX.okt i (by omega)).nc
      have q77 : ∀ j, j < 700 * n → v.1 77 j = w.1 77 j := fun j hj => by rw [ec 77 (by decide)]; exact k2.2.2 j (Or.inl hj)
      refine rU.mk ?_ (fun k hk => ?_) (fun k hk => ?_) (fun k hk h2 => ?_)
      · rw [q77 _ (by omega)]; exact q.nc
      · rw [q77 _ (by omega)]; exact q.kind k hk
      · rw [q77 _ (by omega), q77 _ (by omega)]; exact q.lf k hk
      · rw [q77 _ (by omega), q77 _ (by omega)]
        obtain ⟨f, f1, f2, f3, f4⟩ := q.code k hk h2
        refine ⟨f, f1, f2, f3, fun j hj => ?_⟩
        rw [q77 _ (by omega), q77 _ (by omega)]
        exact f4 j hj
    · intro x hx
      have hx : ¬ 72 ≤ x := hx
      exact ⟨by rw [ec x (by omega)]; exact (k2.1 x (by omega) (by omega) (by omega)).1, by rw [el]; exact (k2.1 x (by omega) (by omega) (by omega)).2⟩
end TextM3
