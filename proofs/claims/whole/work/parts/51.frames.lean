/-! What both sides hold is kept where their cells are. -/
theorem fr_I {A : Nat → Prop} {w w' : qW} {c f : Nat} {v : Int32} (h : fr A w w') (hc : A c) : fr A w (qPutI w' c f v) := fr_tr h (fr_pI hc)
theorem fr_L {A : Nat → Prop} {w w' : qW} {c f : Nat} {v : Int64} (h : fr A w w') (hc : A c) : fr A w (qPutL w' c f v) := fr_tr h (fr_pL hc)
theorem rS_fr {w w' : qW} {c : Nat} {S : vS} (h : rS w c S) (e : ∀ k, k ≤ 10 → w'.1 (c + k) = w.1 (c + k) ∧ w'.2.1 (c + k) = w.2.1 (c + k)) : rS w' c S := by
  have e0 : w'.1 c = w.1 c := (e 0 (by omega)).1
  refine rS.mk (by rw [e0]; exact h.ppl) (by rw [e0]; exact h.day) (by rw [e0]; exact h.clk) (by rw [e0]; exact h.txs) (by rw [e0]; exact h.rul) (by rw [e0]; exact h.tks) (by rw [e0]; exact h.gvs) (by rw [e0]; exact h.nds) (by rw [e0]; exact h.hds) (by rw [e0]; exact h.hIs) ?_ ?_ ?_ ?_ ?_ ?_ ?_ ?_ ?_ ?_
  · rw [(e 1 (by omega)).1]; exact h.num
  · rw [(e 2 (by omega)).1]; exact h.fst
  · rw [(e 3 (by omega)).1]; exact h.nr
  · rw [(e 4 (by omega)).2]; exact h.tkh
  · rw [(e 5 (by omega)).1]; exact h.tkp
  · rw [(e 6 (by omega)).1]; exact h.gv
  · rw [(e 7 (by omega)).1]; exact h.ndp
  · rw [(e 8 (by omega)).1]; exact h.nda
  · rw [(e 9 (by omega)).1]; exact h.ndh
  · rw [(e 10 (by omega)).1]; exact h.hrd
theorem rR_fr {w w' : qW} {a t : Nat} {S : vS} (h : rR w a t S) (ea : w'.1 a = w.1 a) (et : w'.2.1 t = w.2.1 t) : rR w' a t S := by
  unfold rR at *
  rw [ea, et]
  exact h
theorem rT_fr {w w' : qW} {c : Nat} {t : vT} (h : rT w c t) (e : ∀ k, k ≤ 4 → w'.1 (c + k) = w.1 (c + k)) : rT w' c t := by
  have e0 : w'.1 c = w.1 c := e 0 (by omega)
  unfold rT at *
  rw [e0, e 1 (by omega), e 2 (by omega), e 3 (by omega), e 4 (by omega)]
  exact h
theorem rU_fr {w w' : qW} {i : Nat} {t : vT} (h : rU w i t) (e : w'.1 77 = w.1 77) : rU w' i t := by
  unfold rU at *
  rw [e]
  exact h
/-- the class's side behind a change of now (and of what isn't held at all) -/
theorem rX.upd {w w' : qW} {N N' K : vS} {T : Nat → vT} {Z : vZ} {A : Nat → Prop} (h : rX w N K T Z) (hf : fr A w w') (hA : ∀ c, 13 ≤ c → c ≤ 46 → ¬ A c) (hn : rS w' 2 N') (ok : okS N') (ht : N' 3 0 = N 3 0) (ho : ∀ c, c < N' 2 0 → ∃ n, w'.1 51 c = nI n ∧ n < 4096 ∧ ∀ p, p < N' 0 0 → n.testBit p = !brd T N' p c) (ho2 : ∀ c, c < 60 → ∃ n, w'.1 51 c = nI n ∧ n < 4096) : rX w' N' K T Z := by
  have e : ∀ c, 13 ≤ c → c ≤ 46 → w'.1 c = w.1 c ∧ w'.2.1 c = w.2.1 c := fun c h1 h2 => hf c (hA c h1 h2)
  refine rX.mk hn (rS_fr h.k fun k hk => e _ (by omega) (by omega)) ok h.okk (by rw [ht]; exact h.kt) ?_ ?_ ?_ h.l300 ?_ h.byt ?_ ?_ ho ho2
  · intro i hi
    rw [ht] at hi
    have := h.okn.txs
    exact rT_fr (h.t i hi) fun k hk => (e _ (by omega) (by omega)).1
  · intro i hi; rw [ht] at hi; exact h.okt i hi
  · rw [(e 25 (by omega) (by omega)).1]; exact h.len
  · intro j hj; rw [(e 26 (by omega) (by omega)).1]; exact h.tape j hj
  · rw [(e 25 (by omega) (by omega)).1]; exact h.flt
  · rw [(e 25 (by omega) (by omega)).1]; exact h.plc
/-- nothing that is held was touched -/
theorem rX.keep {w w' : qW} {N K : vS} {T : Nat → vT} {Z : vZ} {A : Nat → Prop} (h : rX w N K T Z) (hf : fr A w w') (hA : ∀ c, (2 ≤ c → c ≤ 46 → ¬ A c) ∧ ¬ A 51) : rX w' N K T Z := by
  have e : w'.1 51 = w.1 51 := (hf 51 (hA 51).2).1
  refine h.upd hf (fun c h1 h2 => (hA c).1 (by omega) h2) (rS_fr h.n fun k hk => hf _ ((hA _).1 (by omega) (by omega))) h.okn rfl ?_ ?_
  · rw [e]; exact h.opn
  · rw [e]; exact h.op2
/-- the class's side doesn't see the reference's cells -/
theorem rX.hi {w w' : qW} {N K : vS} {T : Nat → vT} {Z : vZ} (h : rX w N K T Z) (hf : fr (fun c => 72 ≤ c) w w') : rX w' N K T Z :=
  h.keep hf fun c => ⟨fun _ _ => by omega, by omega⟩
/-- the reference's side behind a change of a -/
theorem rM.upd {w w' : qW} {N N' K : vS} {T : Nat → vT} {Z : vZ} {A : Nat → Prop} (h : rM w N K T Z) (hf : fr A w w') (hA : ∀ c, c = 72 ∨ c = 74 ∨ c = 76 ∨ c = 77 ∨ c = 78 → ¬ A c) (hn : rR w' 73 75 N') (ok : okS N') (ht : N' 3 0 = N 3 0) : rM w' N' K T Z := by
  have e72 := (hf 72 (hA 72 (by omega))).1
  have e74 := (hf 74 (hA 74 (by omega))).1
  have e76 := (hf 76 (hA 76 (by omega))).2
  have e77 := (hf 77 (hA 77 (by omega))).1
  have e78 := (hf 78 (hA 78 (by omega))).1
  refine rM.mk hn (rR_fr h.k e74 e76) ok h.okk (by rw [ht]; exact h.kt) ?_ ?_ ?_ h.l300 ?_ h.byt ?_ ?_
  · intro i hi; rw [ht] at hi; exact rU_fr (h.t i hi) e77
  · intro i hi; rw [ht] at hi; exact h.okt i hi
  · rw [e72]; exact h.len
  · intro j hj; rw [e78]; exact h.tape j hj
  · rw [e72]; exact h.flt
  · rw [e72]; exact h.plc
theorem rM.keep {w w' : qW} {N K : vS} {T : Nat → vT} {Z : vZ} {A : Nat → Prop} (h : rM w N K T Z) (hf : fr A w w') (hA : ∀ c, 72 ≤ c → c ≤ 78 → ¬ A c) : rM w' N K T Z :=
  h.upd hf (fun c hc => hA c (by omega) (by omega)) (rR_fr h.n (hf 73 (hA 73 (by omega) (by omega))).1 (hf 75 (hA 75 (by omega) (by omega))).2) h.okn rfl
theorem rM.lo {w w' : qW} {N K : vS} {T : Nat → vT} {Z : vZ} (h : rM w N K T Z) (hf : fr (fun c => c < 72) w w') : rM w' N K T Z :=
  h.keep hf fun c h1 _ => by omega
