/-! text: the class's call. -/
section TextC2
variable {s : Nat × (Nat → Int32)} {d : Nat} {w : qW} {Q : Int32 → qW → Prop} {R : qW → Prop} {Z : vZ} {a c : Nat} {b : Bool} {cs : List (Nat × Nat)} {cl : List xC} {N K : vS} {T : Nat → vT}
theorem G_clear (hc : txc c) (h : R (qPutI (qPutI (qPutI (qPutI w c 0 (0 : Int32)) c 1 (0 : Int32)) c 2 (-1 : Int32)) c 3 (0 : Int32))) : qCall (some s) (d + 1) 41 [.ref c] w (qQv R) := by
  rcases hc with rfl | rfl | rfl | rfl
  · exact A_Text_clear_27 h
  · exact A_Text_clear_32 h
  · exact A_Text_clear_37 h
  · exact A_Text_clear_42 h
theorem xAl_Z {k : Nat} (h : (yT Z a).1 = 0) : xAl Z (k + 1) cl a = .ok cl := by
  unfold xAl
  rw [if_pos h]
theorem xAl_S {k : Nat} (h : ¬ (yT Z a).1 = 0) : xAl Z (k + 1) cl a = match xCl Z cl.length (xOn cl) a with
    | .error e => .error e
    | .ok (x, r) => xAl Z k (cl ++ [x]) r := by
  conv => lhs; unfold xAl
  rw [if_neg h]
  rfl
theorem c_readAll (hd : 36 ≤ d) (hc : txc c) (h : ct w Z) (hy : ∀ cl cs r w', xTx Z = .ok cl → kz c (qPutR w 25 4 (some c)) w' → ptx w' c Z r cs → tx w' c cl cs → Q 1 w') (hn : ∀ e w', xTx Z = .error e → kz c (qPutR w 25 4 (some c)) w' → erx w' e → Q 0 w') : qCall (some s) d 40 [.ref 25, .ref c] w (qQi Q) := by
  obtain ⟨d, rfl, hd1⟩ := dS hd
  have n : ¬ c = 25 := by unfold txc at hc; omega
  have n2 : ¬ 25 = c := fun q => n q.symm
  have n6 : ¬ 26 = c := by unfold txc at hc; omega
  have r0 : (qPutR w 25 4 (some c)).2.2.1 25 4 = some c := by unfold qPutR; simp
  have loop : ∀ k cl a cs w1, cl.length + k = 25 → cl.length ≤ 24 → kz c (qPutR w 25 4 (some c)) w1 → ptx w1 c Z a cs → cs.length ≤ a → tx w1 c cl cs → (∀ cl' cs' r w', xAl Z k cl a = .ok cl' → kz c (qPutR w 25 4 (some c)) w' → ptx w' c Z r cs' → tx w' c cl' cs' → Q 1 w') → (∀ e w', xAl Z k cl a = .error e → kz c (qPutR w 25 4 (some c)) w' → erx w' e → Q 0 w') → qAt s d c_Reader_readAll (qQi Q) 33 [some (.ref 25), none, some (.int (nI cl.length))] [] w1 := by
    intro k
    induction k with
    | zero => intro cl a cs w1 hk h24; omega
    | succ k ih =>
      intro cl a cs w1 hk h24 k1 p1 ca t1 hy1 hn1
      have u1 := p1.cur
      refine A_Reader_readAll_33 ?_
      rw [show (24 : Int32) = nI 24 from rfl, nI_ltI (by omega) (by omega), show (w1.1 25 6 = 0) = (w1.1 25 6 = nI 0) from rfl, u1.is0, p1.flt.1, nI_1]
      refine ⟨fun g => by omega, fun _ => ⟨fun g => ⟨fun z => absurd rfl z, fun _ => ?_⟩, fun g => ⟨fun z => absurd rfl z, fun _ => ?_⟩⟩⟩
      · exact hy1 cl cs a w1 (xAl_Z g) k1 p1 t1
      · rw [xAl_S g] at hy1 hn1
        refine c_readClause (by omega) hc p1 ca t1 h24 (fun x r cs' w2 e2 k2 p2 c2 t2 => ?_) (fun e w2 e2 k2 x2 => ?_)
        · have o := xCl_ok e2
          have l : (cl ++ [x]).length = cl.length + 1 := List.length_append
          rw [e2] at hy1 hn1
          rw [← l]
          exact ih (cl ++ [x]) r cs' w2 (by omega) (by omega) (kz_tr k1 k2) p2 c2 t2 hy1 hn1
        · rw [e2] at hn1
          have f0 : ¬ w2.1 25 2 = 0 := by
            have := x2.2.2
            rw [x2.1]; exact nI_pos0 (by omega) (by omega)
          have bad := hn1 e w2 rfl (kz_tr k1 k2) x2
          exact A_Reader_readAll_33 ⟨fun _ => ⟨fun _ => bad, fun z => absurd z f0⟩, fun _ => ⟨fun _ => ⟨fun _ => bad, fun z => absurd z f0⟩, fun _ => ⟨fun _ => ⟨fun _ => bad, fun z => absurd z f0⟩, fun z => absurd z f0⟩⟩⟩
  refine A_Reader_readAll ⟨c, r0, ?_⟩
  rw [al_c hc, qB_1]
  obtain ⟨d', rfl, -⟩ := dS (k := 0) (d := d) (by omega)
  refine G_clear hc ?_
  -- the world ahead of the first token
  have e25 : ∀ f, ¬ f = 2 → ¬ f = 3 → ¬ f = 8 → (qPutI (qPutI (qPutI (qPutI (qPutI (qPutI (qPutI (qPutR w 25 4 (some c)) c 0 (0 : Int32)) c 1 (0 : Int32)) c 2 (-1 : Int32)) c 3 (0 : Int32)) 25 2 (0 : Int32)) 25 3 (-1 : Int32)) 25 8 (0 : Int32)).1 25 f = w.1 25 f := by
    intro f h2 h3 h8
    rw [pI_f h8, pI_f h3, pI_f h2, pI_c n2, pI_c n2, pI_c n2, pI_c n2]
    rfl
  have ex : ∀ x, ¬ x = 25 → ¬ x = c → (qPutI (qPutI (qPutI (qPutI (qPutI (qPutI (qPutI (qPutR w 25 4 (some c)) c 0 (0 : Int32)) c 1 (0 : Int32)) c 2 (-1 : Int32)) c 3 (0 : Int32)) 25 2 (0 : Int32)) 25 3 (-1 : Int32)) 25 8 (0 : Int32)).1 x = w.1 x := by
    intro x h1 h2
    refine funext fun f => ?_
    rw [pI_c h1, pI_c h1, pI_c h1, pI_c h2, pI_c h2, pI_c h2, pI_c h2]
    rfl
  have ec : ∀ f, (qPutI (qPutI (qPutI (qPutI (qPutI (qPutI (qPutI (qPutR w 25 4 (some c)) c 0 (0 : Int32)) c 1 (0 : Int32)) c 2 (-1 : Int32)) c 3 (0 : Int32)) 25 2 (0 : Int32)) 25 3 (-1 : Int32)) 25 8 (0 : Int32)).1 c f = (qPutI (qPutI (qPutI (qPutI (qPutR w 25 4 (some c)) c 0 (0 : Int32)) c 1 (0 : Int32)) c 2 (-1 : Int32)) c 3 (0 : Int32)).1 c f := by
    intro f
    rw [pI_c n, pI_c n, pI_c n]
  have e2 : (qPutI (qPutI (qPutI (qPutI (qPutI (qPutI (qPutI (qPutR w 25 4 (some c)) c 0 (0 : Int32)) c 1 (0 : Int32)) c 2 (-1 : Int32)) c 3 (0 : Int32)) 25 2 (0 : Int32)) 25 3 (-1 : Int32)) 25 8 (0 : Int32)).1 25 2 = nI 0 ∧ (qPutI (qPutI (qPutI (qPutI (qPutI (qPutI (qPutI (qPutR w 25 4 (some c)) c 0 (0 : Int32)) c 1 (0 : Int32)) c 2 (-1 : Int32)) c 3 (0 : Int32)) 25 2 (0 : Int32)) 25 3 (-1 : Int32)) 25 8 (0 : Int32)).1 25 3 = -(nI 1) := by
    refine ⟨?_, ?_⟩
    · rw [pI_f (by decide), pI_f (by decide), pI_e]; rfl
    · rw [pI_f (by decide), pI_e]; rfl
  have e8 : (qPutI (qPutI (qPutI (qPutI (qPutI (qPutI (qPutI (qPutR w 25 4 (some c)) c 0 (0 : Int32)) c 1 (0 : Int32)) c 2 (-1 : Int32)) c 3 (0 : Int32)) 25 2 (0 : Int32)) 25 3 (-1 : Int32)) 25 8 (0 : Int32)).1 25 8 = nI 0 := by rw [pI_e]; rfl
  have c0 : (qPutI (qPutI (qPutI (qPutI (qPutR w 25 4 (some c)) c 0 (0 : Int32)) c 1 (0 : Int32)) c 2 (-1 : Int32)) c 3 (0 : Int32)).1 c 0 = nI 0 := by rw [pI_f (by decide), pI_f (by decide), pI_f (by decide), pI_e]; rfl
  have c1 : (qPutI (qPutI (qPutI (qPutI (qPutR w 25 4 (some c)) c 0 (0 : Int32)) c 1 (0 : Int32)) c 2 (-1 : Int32)) c 3 (0 : Int32)).1 c 1 = nI 0 := by rw [pI_f (by decide), pI_f (by decide), pI_e]; rfl
  have c2 : (qPutI (qPutI (qPutI (qPutI (qPutR w 25 4 (some c)) c 0 (0 : Int32)) c 1 (0 : Int32)) c 2 (-1 : Int32)) c 3 (0 : Int32)).1 c 2 = -(nI 1) := by rw [pI_f (by decide), pI_e]; rfl
  have c3 : (qPutI (qPutI (qPutI (qPutI (qPutR w 25 4 (some c)) c 0 (0 : Int32)) c 1 (0 : Int32)) c 2 (-1 : Int32)) c 3 (0 : Int32)).1 c 3 = nI 0 := by rw [pI_e]; rfl
  have ew : (qPutI (qPutI (qPutI (qPutI (qPutI (qPutI (qPutI (qPutR w 25 4 (some c)) c 0 (0 : Int32)) c 1 (0 : Int32)) c 2 (-1 : Int32)) c 3 (0 : Int32)) 25 2 (0 : Int32)) 25 3 (-1 : Int32)) 25 8 (0 : Int32)).2 = (qPutR w 25 4 (some c)).2 := rfl
  revert e25 ex ec e2 e8 ew
  generalize (qPutI (qPutI (qPutI (qPutI (qPutI (qPutI (qPutI (qPutR w 25 4 (some c)) c 0 (0 : Int32)) c 1 (0 : Int32)) c 2 (-1 : Int32)) c 3 (0 : Int32)) 25 2 (0 : Int32)) 25 3 (-1 : Int32)) 25 8 (0 : Int32)) = v
  intro e25 ex ec e2 e8 ew
  have hv : ct v Z := ct.mk (by rw [e25 1 (by decide) (by decide) (by decide)]; exact h.len) h.l3 (fun j hj => by rw [ex 26 (by decide) n6]; exact h.tape j hj) h.byt
  have kv : kz c (qPutR w 25 4 (some c)) v := ⟨ew, fun x h1 h2 => ex x h1 (by omega), e25 1 (by decide) (by decide) (by decide)⟩
  refine c_advance (e := 0) (by omega) (by rw [ew]; exact r0) hv e8 (Nat.zero_le _) (fun w3 k3 u3 => ?_)
  have p3 : ptx w3 c Z 0 [] := by
    refine ptx.mk u3 ?_ (Nat.zero_le _) (fun j hj => absurd hj (Nat.not_lt_zero _)) ?_
    · rw [k3.2.1 c n, ec 3, c3]; rfl
    · rw [k3.2.2 2 (by decide), k3.2.2 3 (by decide)]; exact e2
  have t3 : tx w3 c [] [] := by
    refine tx.mk ?_ ⟨0, ?_, Nat.le_refl _, fun _ j hj => absurd hj (Nat.not_lt_zero _), fun _ => rfl⟩ (Or.inl ⟨?_, fun k hk => absurd hk (Nat.not_lt_zero _)⟩) (fun k hk => absurd hk (Nat.not_lt_zero _)) (fun k hk => absurd hk (Nat.not_lt_zero _)) (fun k hk => absurd hk (Nat.not_lt_zero _))
    · rw [k3.2.1 c n, ec 0, c0]; rfl
    · rw [k3.2.1 c n, ec 1, c1]
    · rw [k3.2.1 c n, ec 2, c2]
  exact loop 25 [] 0 [] w3 rfl (by decide) (kz_tr kv (kz_kq (kq_ka hc k3))) p3 (Nat.le_refl _) t3 hy hn
theorem tx.rT {r : Nat} (t : tx w c cl cs) (p : ptx w c Z r cs) (hl : cl.length ≤ 24) : rT w c (xTv cl) := by
  refine rT.mk t.nc ?_ t.wor t.kin t.lf (fun k hk h2 => ?_)
  · obtain ⟨k, k1, k2, k3⟩ := t.bar
    exact ⟨k, k1, by omega, k3⟩
  · obtain ⟨f, f1, f2, f3, f4⟩ := t.cod k hk h2
    have l3 := p.l3
    refine ⟨f, f1, f2, Nat.le_trans f3 l3, fun j hj => ?_⟩
    have hj : j < (cl.getD k xz).2.2.2.length := hj
    rw [p.cod (f + j) (by omega), f4 j hj]
    rfl
/-- a text more -/
def tAdd (T : Nat → vT) (n : Nat) (t : vT) : Nat → vT := fun i => if i = n then t else T i
def zTx (Z : vZ) (f p : Int32) : vZ := (0, Z.2.1, f, p)
theorem brd_tx {n p k : Nat} {t : vT} (h : N 4 0 ≤ n) : brd (tAdd T n t) (sPut N 3 0 (n + 1)) p k = brd T N p k := by
  have hN : ∀ a, ¬ a = 3 → sPut N 3 0 (n + 1) a = N a := fun a h => funext fun i => sP_c h
  unfold brd
  rw [hN 4 (by decide)]
  by_cases q : 0 < N 4 0
  · have er : rul (tAdd T n t) (sPut N 3 0 (n + 1)) = rul T N := by
      unfold rul tAdd
      rw [hN 4 (by decide), if_neg (by omega)]
    have es : ∀ j, shut (rul T N) (sPut N 3 0 (n + 1)) p k j = shut (rul T N) N p k j := by
      intro j
      unfold shut
      have en : nmB (sPut N 3 0 (n + 1)) p k = nmB N p k := by
        funext i
        unfold nmB
        rw [hN 10 (by decide), hN 11 (by decide)]
      rw [en]
    simp only [er, es]
  · rw [decide_eq_false q, Bool.false_and, Bool.false_and]
theorem okS_tx {n : Nat} (o : okS N) (e : N 3 0 = n) (h : n < 4) : okS (sPut N 3 0 (n + 1)) := by
  have hN : ∀ a, ¬ a = 3 → sPut N 3 0 (n + 1) a = N a := fun a h => funext fun i => sP_c h
  have r := o.rul
  refine okS.mk ?_ ?_ ?_ ?_ ?_ ?_ ?_ ?_ ?_ ?_ ?_ ?_ ?_ ?_ ?_ ?_
  · rw [hN 0 (by decide)]; exact o.p12
  · rw [hN 1 (by decide)]; exact o.day
  · rw [hN 2 (by decide)]; exact o.clk
  · rw [sP_e]; omega
  · rw [hN 4 (by decide), sP_e]; omega
  · rw [hN 5 (by decide)]; exact o.tks
  · rw [hN 6 (by decide)]; exact o.gvs
  · rw [hN 7 (by decide)]; exact o.nds
  · rw [hN 8 (by decide)]; exact o.hds
  · rw [hN 0 (by decide), hN 10 (by decide)]; exact o.num
  · rw [hN 0 (by decide), hN 11 (by decide)]; exact o.fst
  · rw [hN 0 (by decide), hN 12 (by decide)]; exact o.nr
  · rw [hN 6 (by decide), hN 13 (by decide)]; exact o.gv
  · rw [hN 7 (by decide), hN 14 (by decide), hN 15 (by decide), hN 16 (by decide), hN 17 (by decide), hN 0 (by decide)]; exact o.need
  · rw [hN 8 (by decide), hN 18 (by decide), hN 19 (by decide)]; exact o.hrd
  · rw [hN 5 (by decide), hN 20 (by decide), hN 21 (by decide), hN 22 (by decide), hN 0 (by decide)]; exact o.tlk
theorem c_text (hd : 38 ≤ d) (hX : rX w N K T Z) (hy : ∀ cl w', N 3 0 < 4 → xTx Z = .ok cl → rX w' (sPut N 3 0 (N 3 0 + 1)) K (tAdd T (N 3 0) (xTv cl)) (zTx Z (nI 0) (-(nI 1))) → fr (fun c => c < 72) w w' → Q (nI (N 3 0)) w') (he : ∀ e w', N 3 0 < 4 → xTx Z = .error e → rX w' N K T (zTx Z (nI e.1) (nI e.2)) → fr (fun c => c < 72) w w' → Q (-1) w') (hn : ¬ N 3 0 < 4 → Q (-1) w) : qCall (some s) d 39 [.ref 1] w (qQi Q) := by
  obtain ⟨d, rfl, hd1⟩ := dS hd
  have o := hX.okn
  have o4 := o.txs
  generalize en : N 3 0 = n at *
  refine A_X_text ?_
  rw [hX.n.txs, en, show (4 : Int32) = nI 4 from rfl, nI_ltI (by omega) (by omega), qIx_nI (by omega)]
  refine ⟨fun g => absurd g (nI_nn (by omega)), fun _ => ⟨fun g4 => ?_, fun g => hn g⟩⟩
  have eu : qR0 24 n = some (27 + 5 * n) := by
    have : n = 0 ∨ n = 1 ∨ n = 2 ∨ n = 3 := by omega
    rcases this with rfl | rfl | rfl | rfl <;> rfl
  have hc : txc (27 + 5 * n) := by unfold txc; omega
  have h : ct w Z := ct.mk hX.len hX.l300 hX.tape hX.byt
  refine ⟨qIn_nI g4 (by decide), 27 + 5 * n, eu, c_readAll (by omega) hc h (fun cl cs r w2 ex k2 p2 t2 => ⟨fun _ => ?_, fun z => absurd z (by decide)⟩) (fun e w2 ex k2 x2 => ⟨fun z => absurd rfl z, fun _ => ?_⟩)⟩
  · have kx : ∀ x, ¬ x = 25 → (x < 27 + 5 * n ∨ 27 + 5 * n + 4 < x) → w2.1 x = w.1 x := k2.2.1
    have kl : w2.2.1 = w.2.1 := by rw [k2.1]; rfl
    have ok := xTx_ok ex
    have w26 : w2.1 2 6 = nI n := by rw [kx 2 (by decide) (by omega), hX.n.txs, en]
    rw [w26, nI_1]
    have e2 : ∀ f, ¬ f = 6 → (qPutI (qPutI w2 25 1 (0 : Int32)) 2 6 (nI (n + 1))).1 2 f = w.1 2 f := fun f hf => by rw [pI_f hf, pI_c (by decide), kx 2 (by decide) (by omega)]
    have ex2 : ∀ x, ¬ x = 2 → ¬ x = 25 → (qPutI (qPutI w2 25 1 (0 : Int32)) 2 6 (nI (n + 1))).1 x = w2.1 x := fun x h1 h2 => funext fun f => by rw [pI_c h1, pI_c h2]
    have hN : ∀ a, ¬ a = 3 → sPut N 3 0 (n + 1) a = N a := fun a h => funext fun i => sP_c h
    have cx : ∀ x, 3 ≤ x → x ≤ 24 → (qPutI (qPutI w2 25 1 (0 : Int32)) 2 6 (nI (n + 1))).1 x = w.1 x := fun x h1 h2 => by rw [ex2 x (by omega) (by omega), kx x (by omega) (by omega)]
    have ll : (qPutI (qPutI w2 25 1 (0 : Int32)) 2 6 (nI (n + 1))).2.1 = w.2.1 := kl
    have hS := hX.n
    refine hy cl _ g4 ex ?_ ?_
    · refine rX.mk ?_ ?_ (okS_tx o en g4) hX.okk ?_ ?_ ?_ ?_ (Nat.zero_le _) (fun j hj => absurd hj (Nat.not_lt_zero _)) (fun j hj => absurd hj (Nat.not_lt_zero _)) ?_ ?_ ?_ ?_
      · refine rS.mk ?_ ?_ ?_ ?_ ?_ ?_ ?_ ?_ ?_ ?_ ?_ ?_ ?_ ?_ ?_ ?_ ?_ ?_ ?_ ?_
        · rw [e2 0 (by decide), hN 0 (by decide)]; exact hS.ppl
        · rw [e2 4 (by decide), hN 1 (by decide)]; exact hS.day
        · rw [e2 5 (by decide), hN 2 (by decide)]; exact hS.clk
        · rw [pI_e, sP_e]
        · rw [e2 7 (by decide), hN 4 (by decide)]; exact hS.rul
        · rw [e2 8 (by decide), hN 5 (by decide)]; exact hS.tks
        · rw [e2 11 (by decide), hN 6 (by decide)]; exact hS.gvs
        · rw [e2 13 (by decide), hN 7 (by decide)]; exact hS.nds
        · rw [e2 17 (by decide), hN 8 (by decide)]; exact hS.hds
        · rw [e2 19 (by decide), hN 8 (by decide), hN 19 (by decide)]; exact hS.hIs
        · rw [cx (2 + 1) (by decide) (by decide), hN 0 (by decide), hN 10 (by decide)]; exact hS.num
        · rw [cx (2 + 2) (by decide) (by decide), hN 0 (by decide), hN 11 (by decide)]; exact hS.fst
        · rw [cx (2 + 3) (by decide) (by decide), hN 0 (by decide), hN 12 (by decide)]; exact hS.nr
        · rw [ll, hN 5 (by decide), hN 20 (by decide)]; exact hS.tkh
        · rw [cx (2 + 5) (by decide) (by decide), hN 5 (by decide), hN 21 (by decide), hN 22 (by decide)]; exact hS.tkp
        · rw [cx (2 + 6) (by decide) (by decide), hN 6 (by decide), hN 13 (by decide)]; exact hS.gv
        · rw [cx (2 + 7) (by decide) (by decide), hN 7 (by decide), hN 14 (by decide), hN 15 (by decide)]; exact hS.ndp
        · rw [cx (2 + 8) (by decide) (by decide), hN 7 (by decide), hN 16 (by decide)]; exact hS.nda
        · rw [cx (2 + 9) (by decide) (by decide), hN 7 (by decide), hN 17 (by decide)]; exact hS.ndh
        · rw [cx (2 + 10) (by decide) (by decide), hN 8 (by decide), hN 18 (by decide)]; exact hS.hrd
      · exact rS_fr hX.k fun k hk => ⟨cx (13 + k) (by omega) (by omega), by rw [ll]⟩
      · rw [sP_e]; have := hX.kt; omega
      · intro i hi
        rw [sP_e] at hi
        unfold tAdd
        by_cases e : i = n
        · rw [if_pos e, e]
          refine rT_fr (t2.rT p2 ok.nc) (fun k hk => ex2 _ (by omega) (by omega))
        · rw [if_neg e]
          refine rT_fr (hX.t i (by omega)) (fun k hk => ?_)
          rw [ex2 _ (by omega) (by omega), kx _ (by omega) (by omega)]
      · intro i hi
        rw [sP_e] at hi
        unfold tAdd
        by_cases e : i = n
        · rw [if_pos e]; exact ok
        · rw [if_neg e]; exact hX.okt i (by omega)
      · rw [pI_c (by decide), pI_e]; rfl
      · rw [pI_c (by decide), pI_f (by decide)]; exact p2.flt.1
      · rw [pI_c (by decide), pI_f (by decide)]; exact p2.flt.2
      · rw [hN 2 (by decide), hN 0 (by decide), ex2 51 (by decide) (by decide), kx 51 (by decide) (by omega)]
        intro j hj
        obtain ⟨m, m1, m2, m3⟩ := hX.opn j hj
        refine ⟨m, m1, m2, fun p hp => ?_⟩
        rw [brd_tx (by have := o.rul; omega)]
        exact m3 p hp
      · rw [ex2 51 (by decide) (by decide), kx 51 (by decide) (by omega)]
        exact hX.op2
    · intro x hx
      have hx : ¬ x < 72 := hx
      exact ⟨by rw [ex2 x (by omega) (by omega), kx x (by omega) (by omega)], by rw [ll]⟩
  · have kx : ∀ x, ¬ x = 25 → (x < 27 + 5 * n ∨ 27 + 5 * n + 4 < x) → w2.1 x = w.1 x := k2.2.1
    have kl : w2.2.1 = w.2.1 := by rw [k2.1]; rfl
    have ex2 : ∀ x, ¬ x = 25 → (qPutI w2 25 1 (0 : Int32)).1 x = w2.1 x := fun x h2 => funext fun f => by rw [pI_c h2]
    have cx : ∀ x, 2 ≤ x → x ≤ 24 → (qPutI w2 25 1 (0 : Int32)).1 x = w.1 x := fun x h1 h2 => by rw [ex2 x (by omega), kx x (by omega) (by omega)]
    refine he e _ g4 ex ?_ ?_
    · refine rX.mk (rS_fr hX.n fun k hk => ⟨cx (2 + k) (by omega) (by omega), by show w2.2.1 _ = _; rw [kl]⟩) (rS_fr hX.k fun k hk => ⟨cx (13 + k) (by omega) (by omega), by show w2.2.1 _ = _; rw [kl]⟩) hX.okn hX.okk hX.kt ?_ hX.okt ?_ (Nat.zero_le _) (fun j hj => absurd hj (Nat.not_lt_zero _)) (fun j hj => absurd hj (Nat.not_lt_zero _)) ?_ ?_ ?_ ?_
      · intro i hi
        rw [en] at hi
        refine rT_fr (hX.t i (by omega)) (fun k hk => ?_)
        rw [ex2 _ (by omega), kx _ (by omega) (by omega)]
      · rw [pI_e]; rfl
      · rw [pI_f (by decide)]; exact x2.1
      · rw [pI_f (by decide)]; exact x2.2.1
      · rw [ex2 51 (by decide), kx 51 (by decide) (by omega)]
        exact hX.opn
      · rw [ex2 51 (by decide), kx 51 (by decide) (by omega)]
        exact hX.op2
    · intro x hx
      have hx : ¬ x < 72 := hx
      exact ⟨by rw [ex2 x (by omega), kx x (by omega) (by omega)], by show w2.2.1 _ = _; rw [kl]⟩
end TextC2
