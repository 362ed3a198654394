/-! What both sides hold, as numbers: a state S (a row for each kind of thing), texts, the tape. -/
abbrev vS : Type := Nat → Nat → Nat
/-- clauses; of each its kind and two numbers; its code -/
abbrev vT : Type := Nat × (Nat → Nat × Nat × Nat) × (Nat → List (Nat × Nat))
/-- the tape's length and bytes; fault and place -/
abbrev vZ : Type := Nat × (Nat → Nat) × Int32 × Int32
def sPut (S : vS) (a i v : Nat) : vS := fun b j => if b = a ∧ j = i then v else S b j
theorem sP_e (S : vS) (a i v : Nat) : sPut S a i v a i = v := by unfold sPut; simp
theorem sP_f {S : vS} {a i j v : Nat} (h : ¬ j = i) : sPut S a i v a j = S a j := by unfold sPut; simp [h]
theorem sP_c {S : vS} {a b i j v : Nat} (h : ¬ b = a) : sPut S a i v b j = S b j := by unfold sPut; simp [h]
def fr (A : Nat → Prop) (w w' : qW) : Prop := ∀ c, ¬ A c → w'.1 c = w.1 c ∧ w'.2.1 c = w.2.1 c
theorem fr_rf (A : Nat → Prop) (w : qW) : fr A w w := fun _ _ => ⟨rfl, rfl⟩
theorem fr_tr {A : Nat → Prop} {w w' w'' : qW} (h : fr A w w') (h' : fr A w' w'') : fr A w w'' := fun c hc => ⟨(h' c hc).1.trans (h c hc).1, (h' c hc).2.trans (h c hc).2⟩
theorem fr_wk {A B : Nat → Prop} {w w' : qW} (h : fr A w w') (hs : ∀ c, A c → B c) : fr B w w' := fun c hc => h c (fun g => hc (hs c g))
theorem fr_pI {A : Nat → Prop} {w : qW} {c f : Nat} {v : Int32} (h : A c) : fr A w (qPutI w c f v) := fun b hb => by
  have e : ¬ b = c := fun e => hb (e ▸ h)
  exact ⟨funext fun g => pI_c e, rfl⟩
theorem fr_pL {A : Nat → Prop} {w : qW} {c f : Nat} {v : Int64} (h : A c) : fr A w (qPutL w c f v) := fun b hb => by
  have e : ¬ b = c := fun e => hb (e ▸ h)
  exact ⟨rfl, funext fun g => pL_c e⟩
def okS (S : vS) : Prop := (S 0 0 ≤ 12) ∧ (S 1 0 = 0 ∨ 2 ≤ S 1 0 ∧ S 1 0 ≤ 999) ∧ (1 ≤ S 2 0 ∧ S 2 0 ≤ 60) ∧ (S 3 0 ≤ 4) ∧ (S 4 0 ≤ S 3 0) ∧ (S 5 0 ≤ 30) ∧ (S 6 0 ≤ 6) ∧ (S 7 0 ≤ 12) ∧ (S 8 0 ≤ 20) ∧ (∀ i, i < S 0 0 → 1 ≤ S 10 i ∧ S 10 i ≤ 9999) ∧ (∀ i, i < S 0 0 → S 11 i ≤ 9999) ∧ (∀ i, i < S 0 0 → S 12 i < 4096) ∧ (∀ i, i < S 6 0 → 1 ≤ S 13 i ∧ S 13 i ≤ 9999) ∧ (∀ i, i < S 7 0 → S 14 i < S 0 0 ∧ S 15 i < S 0 0 ∧ ¬ S 14 i = S 15 i ∧ 1 ≤ S 16 i ∧ S 16 i ≤ 999 ∧ 1 ≤ S 17 i ∧ S 17 i ≤ 100000) ∧ (∀ i, i < S 8 0 → S 18 i ≤ 999999 ∧ S 19 i < 2) ∧ (∀ i, i < S 5 0 → S 20 i ≤ 1000000000000000 ∧ S 21 i < S 0 0 ∧ S 22 i < S 0 0 ∧ ¬ S 21 i = S 22 i)
theorem okS.p12 {S : vS} (h : okS S) : S 0 0 ≤ 12 := h.1
theorem okS.day {S : vS} (h : okS S) : S 1 0 = 0 ∨ 2 ≤ S 1 0 ∧ S 1 0 ≤ 999 := h.2.1
theorem okS.clk {S : vS} (h : okS S) : 1 ≤ S 2 0 ∧ S 2 0 ≤ 60 := h.2.2.1
theorem okS.txs {S : vS} (h : okS S) : S 3 0 ≤ 4 := h.2.2.2.1
theorem okS.rul {S : vS} (h : okS S) : S 4 0 ≤ S 3 0 := h.2.2.2.2.1
theorem okS.tks {S : vS} (h : okS S) : S 5 0 ≤ 30 := h.2.2.2.2.2.1
theorem okS.gvs {S : vS} (h : okS S) : S 6 0 ≤ 6 := h.2.2.2.2.2.2.1
theorem okS.nds {S : vS} (h : okS S) : S 7 0 ≤ 12 := h.2.2.2.2.2.2.2.1
theorem okS.hds {S : vS} (h : okS S) : S 8 0 ≤ 20 := h.2.2.2.2.2.2.2.2.1
theorem okS.num {S : vS} (h : okS S) : ∀ i, i < S 0 0 → 1 ≤ S 10 i ∧ S 10 i ≤ 9999 := h.2.2.2.2.2.2.2.2.2.1
theorem okS.fst {S : vS} (h : okS S) : ∀ i, i < S 0 0 → S 11 i ≤ 9999 := h.2.2.2.2.2.2.2.2.2.2.1
theorem okS.nr {S : vS} (h : okS S) : ∀ i, i < S 0 0 → S 12 i < 4096 := h.2.2.2.2.2.2.2.2.2.2.2.1
theorem okS.gv {S : vS} (h : okS S) : ∀ i, i < S 6 0 → 1 ≤ S 13 i ∧ S 13 i ≤ 9999 := h.2.2.2.2.2.2.2.2.2.2.2.2.1
theorem okS.need {S : vS} (h : okS S) : ∀ i, i < S 7 0 → S 14 i < S 0 0 ∧ S 15 i < S 0 0 ∧ ¬ S 14 i = S 15 i ∧ 1 ≤ S 16 i ∧ S 16 i ≤ 999 ∧ 1 ≤ S 17 i ∧ S 17 i ≤ 100000 := h.2.2.2.2.2.2.2.2.2.2.2.2.2.1
theorem okS.hrd {S : vS} (h : okS S) : ∀ i, i < S 8 0 → S 18 i ≤ 999999 ∧ S 19 i < 2 := h.2.2.2.2.2.2.2.2.2.2.2.2.2.2.1
theorem okS.tlk {S : vS} (h : okS S) : ∀ i, i < S 5 0 → S 20 i ≤ 1000000000000000 ∧ S 21 i < S 0 0 ∧ S 22 i < S 0 0 ∧ ¬ S 21 i = S 22 i := h.2.2.2.2.2.2.2.2.2.2.2.2.2.2.2
theorem okS.mk {S : vS} (f_p12 : S 0 0 ≤ 12) (f_day : S 1 0 = 0 ∨ 2 ≤ S 1 0 ∧ S 1 0 ≤ 999) (f_clk : 1 ≤ S 2 0 ∧ S 2 0 ≤ 60) (f_txs : S 3 0 ≤ 4) (f_rul : S 4 0 ≤ S 3 0) (f_tks : S 5 0 ≤ 30) (f_gvs : S 6 0 ≤ 6) (f_nds : S 7 0 ≤ 12) (f_hds : S 8 0 ≤ 20) (f_num : ∀ i, i < S 0 0 → 1 ≤ S 10 i ∧ S 10 i ≤ 9999) (f_fst : ∀ i, i < S 0 0 → S 11 i ≤ 9999) (f_nr : ∀ i, i < S 0 0 → S 12 i < 4096) (f_gv : ∀ i, i < S 6 0 → 1 ≤ S 13 i ∧ S 13 i ≤ 9999) (f_need : ∀ i, i < S 7 0 → S 14 i < S 0 0 ∧ S 15 i < S 0 0 ∧ ¬ S 14 i = S 15 i ∧ 1 ≤ S 16 i ∧ S 16 i ≤ 999 ∧ 1 ≤ S 17 i ∧ S 17 i ≤ 100000) (f_hrd : ∀ i, i < S 8 0 → S 18 i ≤ 999999 ∧ S 19 i < 2) (f_tlk : ∀ i, i < S 5 0 → S 20 i ≤ 1000000000000000 ∧ S 21 i < S 0 0 ∧ S 22 i < S 0 0 ∧ ¬ S 21 i = S 22 i) : okS S := ⟨f_p12, f_day, f_clk, f_txs, f_rul, f_tks, f_gvs, f_nds, f_hds, f_num, f_fst, f_nr, f_gv, f_need, f_hrd, f_tlk⟩
def rS (w : qW) (c : Nat) (S : vS) : Prop := (w.1 c 0 = nI (S 0 0)) ∧ (w.1 c 4 = nI (S 1 0)) ∧ (w.1 c 5 = nI (S 2 0)) ∧ (w.1 c 6 = nI (S 3 0)) ∧ (w.1 c 7 = nI (S 4 0) + -(nI 1)) ∧ (w.1 c 8 = nI (S 5 0)) ∧ (w.1 c 11 = nI (S 6 0)) ∧ (w.1 c 13 = nI (S 7 0)) ∧ (w.1 c 17 = nI (S 8 0)) ∧ (∃ n, w.1 c 19 = nI n ∧ n < 2 ^ S 8 0 ∧ ∀ k, k < S 8 0 → n.testBit k = decide (S 19 k = 1)) ∧ (∀ i, i < S 0 0 → w.1 (c + 1) i = nI (S 10 i)) ∧ (∀ i, i < S 0 0 → w.1 (c + 2) i = nI (S 11 i)) ∧ (∀ i, i < S 0 0 → w.1 (c + 3) i = nI (S 12 i)) ∧ (∀ i, i < S 5 0 → w.2.1 (c + 4) i = lN (S 20 i)) ∧ (∀ i, i < S 5 0 → w.1 (c + 5) i = nI (2 ^ S 21 i ||| 2 ^ S 22 i)) ∧ (∀ i, i < S 6 0 → w.1 (c + 6) i = nI (S 13 i)) ∧ (∀ i, i < S 7 0 → w.1 (c + 7) i = nI (2 ^ S 14 i ||| 2 ^ S 15 i)) ∧ (∀ i, i < S 7 0 → w.1 (c + 8) i = nI (S 16 i)) ∧ (∀ i, i < S 7 0 → w.1 (c + 9) i = nI (S 17 i)) ∧ (∀ i, i < S 8 0 → w.1 (c + 10) i = nI (S 18 i))
theorem rS.ppl {w : qW} {c : Nat} {S : vS} (h : rS w c S) : w.1 c 0 = nI (S 0 0) := h.1
theorem rS.day {w : qW} {c : Nat} {S : vS} (h : rS w c S) : w.1 c 4 = nI (S 1 0) := h.2.1
theorem rS.clk {w : qW} {c : Nat} {S : vS} (h : rS w c S) : w.1 c 5 = nI (S 2 0) := h.2.2.1
theorem rS.txs {w : qW} {c : Nat} {S : vS} (h : rS w c S) : w.1 c 6 = nI (S 3 0) := h.2.2.2.1
theorem rS.rul {w : qW} {c : Nat} {S : vS} (h : rS w c S) : w.1 c 7 = nI (S 4 0) + -(nI 1) := h.2.2.2.2.1
theorem rS.tks {w : qW} {c : Nat} {S : vS} (h : rS w c S) : w.1 c 8 = nI (S 5 0) := h.2.2.2.2.2.1
theorem rS.gvs {w : qW} {c : Nat} {S : vS} (h : rS w c S) : w.1 c 11 = nI (S 6 0) := h.2.2.2.2.2.2.1
theorem rS.nds {w : qW} {c : Nat} {S : vS} (h : rS w c S) : w.1 c 13 = nI (S 7 0) := h.2.2.2.2.2.2.2.1
theorem rS.hds {w : qW} {c : Nat} {S : vS} (h : rS w c S) : w.1 c 17 = nI (S 8 0) := h.2.2.2.2.2.2.2.2.1
theorem rS.hIs {w : qW} {c : Nat} {S : vS} (h : rS w c S) : ∃ n, w.1 c 19 = nI n ∧ n < 2 ^ S 8 0 ∧ ∀ k, k < S 8 0 → n.testBit k = decide (S 19 k = 1) := h.2.2.2.2.2.2.2.2.2.1
theorem rS.num {w : qW} {c : Nat} {S : vS} (h : rS w c S) : ∀ i, i < S 0 0 → w.1 (c + 1) i = nI (S 10 i) := h.2.2.2.2.2.2.2.2.2.2.1
theorem rS.fst {w : qW} {c : Nat} {S : vS} (h : rS w c S) : ∀ i, i < S 0 0 → w.1 (c + 2) i = nI (S 11 i) := h.2.2.2.2.2.2.2.2.2.2.2.1
theorem rS.nr {w : qW} {c : Nat} {S : vS} (h : rS w c S) : ∀ i, i < S 0 0 → w.1 (c + 3) i = nI (S 12 i) := h.2.2.2.2.2.2.2.2.2.2.2.2.1
theorem rS.tkh {w : qW} {c : Nat} {S : vS} (h : rS w c S) : ∀ i, i < S 5 0 → w.2.1 (c + 4) i = lN (S 20 i) := h.2.2.2.2.2.2.2.2.2.2.2.2.2.1
theorem rS.tkp {w : qW} {c : Nat} {S : vS} (h : rS w c S) : ∀ i, i < S 5 0 → w.1 (c + 5) i = nI (2 ^ S 21 i ||| 2 ^ S 22 i) := h.2.2.2.2.2.2.2.2.2.2.2.2.2.2.1
theorem rS.gv {w : qW} {c : Nat} {S : vS} (h : rS w c S) : ∀ i, i < S 6 0 → w.1 (c + 6) i = nI (S 13 i) := h.2.2.2.2.2.2.2.2.2.2.2.2.2.2.2.1
theorem rS.ndp {w : qW} {c : Nat} {S : vS} (h : rS w c S) : ∀ i, i < S 7 0 → w.1 (c + 7) i = nI (2 ^ S 14 i ||| 2 ^ S 15 i) := h.2.2.2.2.2.2.2.2.2.2.2.2.2.2.2.2.1
theorem rS.nda {w : qW} {c : Nat} {S : vS} (h : rS w c S) : ∀ i, i < S 7 0 → w.1 (c + 8) i = nI (S 16 i) := h.2.2.2.2.2.2.2.2.2.2.2.2.2.2.2.2.2.1
theorem rS.ndh {w : qW} {c : Nat} {S : vS} (h : rS w c S) : ∀ i, i < S 7 0 → w.1 (c + 9) i = nI (S 17 i) := h.2.2.2.2.2.2.2.2.2.2.2.2.2.2.2.2.2.2.1
theorem rS.hrd {w : qW} {c : Nat} {S : vS} (h : rS w c S) : ∀ i, i < S 8 0 → w.1 (c + 10) i = nI (S 18 i) := h.2.2.2.2.2.2.2.2.2.2.2.2.2.2.2.2.2.2.2
theorem rS.mk {w : qW} {c : Nat} {S : vS} (f_ppl : w.1 c 0 = nI (S 0 0)) (f_day : w.1 c 4 = nI (S 1 0)) (f_clk : w.1 c 5 = nI (S 2 0)) (f_txs : w.1 c 6 = nI (S 3 0)) (f_rul : w.1 c 7 = nI (S 4 0) + -(nI 1)) (f_tks : w.1 c 8 = nI (S 5 0)) (f_gvs : w.1 c 11 = nI (S 6 0)) (f_nds : w.1 c 13 = nI (S 7 0)) (f_hds : w.1 c 17 = nI (S 8 0)) (f_hIs : ∃ n, w.1 c 19 = nI n ∧ n < 2 ^ S 8 0 ∧ ∀ k, k < S 8 0 → n.testBit k = decide (S 19 k = 1)) (f_num : ∀ i, i < S 0 0 → w.1 (c + 1) i = nI (S 10 i)) (f_fst : ∀ i, i < S 0 0 → w.1 (c + 2) i = nI (S 11 i)) (f_nr : ∀ i, i < S 0 0 → w.1 (c + 3) i = nI (S 12 i)) (f_tkh : ∀ i, i < S 5 0 → w.2.1 (c + 4) i = lN (S 20 i)) (f_tkp : ∀ i, i < S 5 0 → w.1 (c + 5) i = nI (2 ^ S 21 i ||| 2 ^ S 22 i)) (f_gv : ∀ i, i < S 6 0 → w.1 (c + 6) i = nI (S 13 i)) (f_ndp : ∀ i, i < S 7 0 → w.1 (c + 7) i = nI (2 ^ S 14 i ||| 2 ^ S 15 i)) (f_nda : ∀ i, i < S 7 0 → w.1 (c + 8) i = nI (S 16 i)) (f_ndh : ∀ i, i < S 7 0 → w.1 (c + 9) i = nI (S 17 i)) (f_hrd : ∀ i, i < S 8 0 → w.1 (c + 10) i = nI (S 18 i)) : rS w c S := ⟨f_ppl, f_day, f_clk, f_txs, f_rul, f_tks, f_gvs, f_nds, f_hds, f_hIs, f_num, f_fst, f_nr, f_tkh, f_tkp, f_gv, f_ndp, f_nda, f_ndh, f_hrd⟩
def rR (w : qW) (a : Nat) (t : Nat) (S : vS) : Prop := (w.1 a 0 = nI (S 0 0)) ∧ (w.1 a 1 = nI (S 1 0)) ∧ (w.1 a 2 = nI (S 2 0)) ∧ (w.1 a 3 = nI (S 3 0)) ∧ (w.1 a 4 = nI (S 4 0) + -(nI 1)) ∧ (w.1 a 5 = nI (S 5 0)) ∧ (w.1 a 6 = nI (S 6 0)) ∧ (w.1 a 7 = nI (S 7 0)) ∧ (w.1 a 8 = nI (S 8 0)) ∧ (∀ i, i < S 0 0 → w.1 a (10 + 2 * i) = nI (S 10 i)) ∧ (∀ i, i < S 0 0 → w.1 a (10 + 2 * i + 1) = nI (S 11 i)) ∧ (∀ i, i < S 0 0 → w.1 a (40 + i) = nI (S 12 i)) ∧ (∀ i, S 0 0 ≤ i → i < 12 → w.1 a (40 + i) = nI 0) ∧ (∀ i, i < S 6 0 → w.1 a (55 + i) = nI (S 13 i)) ∧ (∀ i, i < S 7 0 → w.1 a (65 + 4 * i) = nI (S 14 i)) ∧ (∀ i, i < S 7 0 → w.1 a (65 + 4 * i + 1) = nI (S 15 i)) ∧ (∀ i, i < S 7 0 → w.1 a (65 + 4 * i + 2) = nI (S 16 i)) ∧ (∀ i, i < S 7 0 → w.1 a (65 + 4 * i + 3) = nI (S 17 i)) ∧ (∀ i, i < S 8 0 → w.1 a (150 + 2 * i) = nI (S 18 i)) ∧ (∀ i, i < S 8 0 → w.1 a (150 + 2 * i + 1) = nI (S 19 i)) ∧ (∀ i, i < S 5 0 → w.2.1 t i = lN (S 20 i)) ∧ (∀ i, i < S 5 0 → w.1 a (200 + 2 * i) = nI (S 21 i)) ∧ (∀ i, i < S 5 0 → w.1 a (200 + 2 * i + 1) = nI (S 22 i))
theorem rR.ppl {w : qW} {a : Nat} {t : Nat} {S : vS} (h : rR w a t S) : w.1 a 0 = nI (S 0 0) := h.1
theorem rR.day {w : qW} {a : Nat} {t : Nat} {S : vS} (h : rR w a t S) : w.1 a 1 = nI (S 1 0) := h.2.1
theorem rR.clk {w : qW} {a : Nat} {t : Nat} {S : vS} (h : rR w a t S) : w.1 a 2 = nI (S 2 0) := h.2.2.1
theorem rR.txs {w : qW} {a : Nat} {t : Nat} {S : vS} (h : rR w a t S) : w.1 a 3 = nI (S 3 0) := h.2.2.2.1
theorem rR.rul {w : qW} {a : Nat} {t : Nat} {S : vS} (h : rR w a t S) : w.1 a 4 = nI (S 4 0) + -(nI 1) := h.2.2.2.2.1
theorem rR.tks {w : qW} {a : Nat} {t : Nat} {S : vS} (h : rR w a t S) : w.1 a 5 = nI (S 5 0) := h.2.2.2.2.2.1
theorem rR.gvs {w : qW} {a : Nat} {t : Nat} {S : vS} (h : rR w a t S) : w.1 a 6 = nI (S 6 0) := h.2.2.2.2.2.2.1
theorem rR.nds {w : qW} {a : Nat} {t : Nat} {S : vS} (h : rR w a t S) : w.1 a 7 = nI (S 7 0) := h.2.2.2.2.2.2.2.1
theorem rR.hds {w : qW} {a : Nat} {t : Nat} {S : vS} (h : rR w a t S) : w.1 a 8 = nI (S 8 0) := h.2.2.2.2.2.2.2.2.1
theorem rR.num {w : qW} {a : Nat} {t : Nat} {S : vS} (h : rR w a t S) : ∀ i, i < S 0 0 → w.1 a (10 + 2 * i) = nI (S 10 i) := h.2.2.2.2.2.2.2.2.2.1
theorem rR.fst {w : qW} {a : Nat} {t : Nat} {S : vS} (h : rR w a t S) : ∀ i, i < S 0 0 → w.1 a (10 + 2 * i + 1) = nI (S 11 i) := h.2.2.2.2.2.2.2.2.2.2.1
theorem rR.nr {w : qW} {a : Nat} {t : Nat} {S : vS} (h : rR w a t S) : ∀ i, i < S 0 0 → w.1 a (40 + i) = nI (S 12 i) := h.2.2.2.2.2.2.2.2.2.2.2.1
theorem rR.nr0 {w : qW} {a : Nat} {t : Nat} {S : vS} (h : rR w a t S) : ∀ i, S 0 0 ≤ i → i < 12 → w.1 a (40 + i) = nI 0 := h.2.2.2.2.2.2.2.2.2.2.2.2.1
theorem rR.gv {w : qW} {a : Nat} {t : Nat} {S : vS} (h : rR w a t S) : ∀ i, i < S 6 0 → w.1 a (55 + i) = nI (S 13 i) := h.2.2.2.2.2.2.2.2.2.2.2.2.2.1
theorem rR.ndA {w : qW} {a : Nat} {t : Nat} {S : vS} (h : rR w a t S) : ∀ i, i < S 7 0 → w.1 a (65 + 4 * i) = nI (S 14 i) := h.2.2.2.2.2.2.2.2.2.2.2.2.2.2.1
theorem rR.ndB {w : qW} {a : Nat} {t : Nat} {S : vS} (h : rR w a t S) : ∀ i, i < S 7 0 → w.1 a (65 + 4 * i + 1) = nI (S 15 i) := h.2.2.2.2.2.2.2.2.2.2.2.2.2.2.2.1
theorem rR.nda {w : qW} {a : Nat} {t : Nat} {S : vS} (h : rR w a t S) : ∀ i, i < S 7 0 → w.1 a (65 + 4 * i + 2) = nI (S 16 i) := h.2.2.2.2.2.2.2.2.2.2.2.2.2.2.2.2.1
theorem rR.ndh {w : qW} {a : Nat} {t : Nat} {S : vS} (h : rR w a t S) : ∀ i, i < S 7 0 → w.1 a (65 + 4 * i + 3) = nI (S 17 i) := h.2.2.2.2.2.2.2.2.2.2.2.2.2.2.2.2.2.1
theorem rR.hrd {w : qW} {a : Nat} {t : Nat} {S : vS} (h : rR w a t S) : ∀ i, i < S 8 0 → w.1 a (150 + 2 * i) = nI (S 18 i) := h.2.2.2.2.2.2.2.2.2.2.2.2.2.2.2.2.2.2.1
theorem rR.hri {w : qW} {a : Nat} {t : Nat} {S : vS} (h : rR w a t S) : ∀ i, i < S 8 0 → w.1 a (150 + 2 * i + 1) = nI (S 19 i) := h.2.2.2.2.2.2.2.2.2.2.2.2.2.2.2.2.2.2.2.1
theorem rR.tkh {w : qW} {a : Nat} {t : Nat} {S : vS} (h : rR w a t S) : ∀ i, i < S 5 0 → w.2.1 t i = lN (S 20 i) := h.2.2.2.2.2.2.2.2.2.2.2.2.2.2.2.2.2.2.2.2.1
theorem rR.tkA {w : qW} {a : Nat} {t : Nat} {S : vS} (h : rR w a t S) : ∀ i, i < S 5 0 → w.1 a (200 + 2 * i) = nI (S 21 i) := h.2.2.2.2.2.2.2.2.2.2.2.2.2.2.2.2.2.2.2.2.2.1
theorem rR.tkB {w : qW} {a : Nat} {t : Nat} {S : vS} (h : rR w a t S) : ∀ i, i < S 5 0 → w.1 a (200 + 2 * i + 1) = nI (S 22 i) := h.2.2.2.2.2.2.2.2.2.2.2.2.2.2.2.2.2.2.2.2.2.2
theorem rR.mk {w : qW} {a : Nat} {t : Nat} {S : vS} (f_ppl : w.1 a 0 = nI (S 0 0)) (f_day : w.1 a 1 = nI (S 1 0)) (f_clk : w.1 a 2 = nI (S 2 0)) (f_txs : w.1 a 3 = nI (S 3 0)) (f_rul : w.1 a 4 = nI (S 4 0) + -(nI 1)) (f_tks : w.1 a 5 = nI (S 5 0)) (f_gvs : w.1 a 6 = nI (S 6 0)) (f_nds : w.1 a 7 = nI (S 7 0)) (f_hds : w.1 a 8 = nI (S 8 0)) (f_num : ∀ i, i < S 0 0 → w.1 a (10 + 2 * i) = nI (S 10 i)) (f_fst : ∀ i, i < S 0 0 → w.1 a (10 + 2 * i + 1) = nI (S 11 i)) (f_nr : ∀ i, i < S 0 0 → w.1 a (40 + i) = nI (S 12 i)) (f_nr0 : ∀ i, S 0 0 ≤ i → i < 12 → w.1 a (40 + i) = nI 0) (f_gv : ∀ i, i < S 6 0 → w.1 a (55 + i) = nI (S 13 i)) (f_ndA : ∀ i, i < S 7 0 → w.1 a (65 + 4 * i) = nI (S 14 i)) (f_ndB : ∀ i, i < S 7 0 → w.1 a (65 + 4 * i + 1) = nI (S 15 i)) (f_nda : ∀ i, i < S 7 0 → w.1 a (65 + 4 * i + 2) = nI (S 16 i)) (f_ndh : ∀ i, i < S 7 0 → w.1 a (65 + 4 * i + 3) = nI (S 17 i)) (f_hrd : ∀ i, i < S 8 0 → w.1 a (150 + 2 * i) = nI (S 18 i)) (f_hri : ∀ i, i < S 8 0 → w.1 a (150 + 2 * i + 1) = nI (S 19 i)) (f_tkh : ∀ i, i < S 5 0 → w.2.1 t i = lN (S 20 i)) (f_tkA : ∀ i, i < S 5 0 → w.1 a (200 + 2 * i) = nI (S 21 i)) (f_tkB : ∀ i, i < S 5 0 → w.1 a (200 + 2 * i + 1) = nI (S 22 i)) : rR w a t S := ⟨f_ppl, f_day, f_clk, f_txs, f_rul, f_tks, f_gvs, f_nds, f_hds, f_num, f_fst, f_nr, f_nr0, f_gv, f_ndA, f_ndB, f_nda, f_ndh, f_hrd, f_hri, f_tkh, f_tkA, f_tkB⟩
/-- is a row of steps well formed, with n numbers on t truths waiting? -/
def tyc (b : Bool) : List (Nat × Nat) → Nat → Nat → Prop
  | [], n, t => n = (if b then 0 else 1) ∧ t = (if b then 1 else 0)
  | (o, v) :: r, n, t => n + t < 50 ∧ ((o = 0 ∧ v ≤ 9999 ∧ tyc b r (n + 1) t) ∨ (o = 1 ∧ v < 7 ∧ (b = decide (v < 4)) ∧ tyc b r (n + 1) t) ∨ (o = 2 ∧ 1 ≤ n ∧ tyc b r n t) ∨ (3 ≤ o ∧ o ≤ 7 ∧ 2 ≤ n ∧ tyc b r (n - 1) t) ∨ (10 ≤ o ∧ o ≤ 15 ∧ n = 2 ∧ tyc b r 0 (t + 1)) ∨ (o = 20 ∧ n = 0 ∧ 1 ≤ t ∧ tyc b r 0 t) ∨ ((o = 21 ∨ o = 22) ∧ n = 0 ∧ 2 ≤ t ∧ tyc b r 0 (t - 1)))
def okT (t : vT) : Prop := (t.1 ≤ 24) ∧ (∀ k, k < t.1 → 1 ≤ (t.2.1 k).1 ∧ (t.2.1 k).1 ≤ 4) ∧ (∀ k, k < t.1 → (t.2.1 k).1 = 3 → 1 ≤ (t.2.1 k).2.1 ∧ (t.2.1 k).2.1 ≤ 9999 ∧ (t.2.1 k).2.2 ≤ 9999) ∧ (∀ k, k < t.1 → (t.2.1 k).1 = 4 → (t.2.1 k).2.1 ≤ 11 ∧ (t.2.1 k).2.2 ≤ 11) ∧ (∀ k, k < t.1 → (t.2.1 k).1 = 1 → tyc true (t.2.2 k) 0 0) ∧ (∀ k, k < t.1 → (t.2.1 k).1 = 2 → tyc false (t.2.2 k) 0 0) ∧ (∀ k j, k < t.1 → j < t.1 → (t.2.1 k).1 = 2 → (t.2.1 j).1 = 2 → j = k)
theorem okT.nc {t : vT} (h : okT t) : t.1 ≤ 24 := h.1
theorem okT.kind {t : vT} (h : okT t) : ∀ k, k < t.1 → 1 ≤ (t.2.1 k).1 ∧ (t.2.1 k).1 ≤ 4 := h.2.1
theorem okT.p3 {t : vT} (h : okT t) : ∀ k, k < t.1 → (t.2.1 k).1 = 3 → 1 ≤ (t.2.1 k).2.1 ∧ (t.2.1 k).2.1 ≤ 9999 ∧ (t.2.1 k).2.2 ≤ 9999 := h.2.2.1
theorem okT.p4 {t : vT} (h : okT t) : ∀ k, k < t.1 → (t.2.1 k).1 = 4 → (t.2.1 k).2.1 ≤ 11 ∧ (t.2.1 k).2.2 ≤ 11 := h.2.2.2.1
theorem okT.p1 {t : vT} (h : okT t) : ∀ k, k < t.1 → (t.2.1 k).1 = 1 → tyc true (t.2.2 k) 0 0 := h.2.2.2.2.1
theorem okT.p2 {t : vT} (h : okT t) : ∀ k, k < t.1 → (t.2.1 k).1 = 2 → tyc false (t.2.2 k) 0 0 := h.2.2.2.2.2.1
theorem okT.one {t : vT} (h : okT t) : ∀ k j, k < t.1 → j < t.1 → (t.2.1 k).1 = 2 → (t.2.1 j).1 = 2 → j = k := h.2.2.2.2.2.2
theorem okT.mk {t : vT} (f_nc : t.1 ≤ 24) (f_kind : ∀ k, k < t.1 → 1 ≤ (t.2.1 k).1 ∧ (t.2.1 k).1 ≤ 4) (f_p3 : ∀ k, k < t.1 → (t.2.1 k).1 = 3 → 1 ≤ (t.2.1 k).2.1 ∧ (t.2.1 k).2.1 ≤ 9999 ∧ (t.2.1 k).2.2 ≤ 9999) (f_p4 : ∀ k, k < t.1 → (t.2.1 k).1 = 4 → (t.2.1 k).2.1 ≤ 11 ∧ (t.2.1 k).2.2 ≤ 11) (f_p1 : ∀ k, k < t.1 → (t.2.1 k).1 = 1 → tyc true (t.2.2 k) 0 0) (f_p2 : ∀ k, k < t.1 → (t.2.1 k).1 = 2 → tyc false (t.2.2 k) 0 0) (f_one : ∀ k j, k < t.1 → j < t.1 → (t.2.1 k).1 = 2 → (t.2.1 j).1 = 2 → j = k) : okT t := ⟨f_nc, f_kind, f_p3, f_p4, f_p1, f_p2, f_one⟩
/-- a step as the class writes it -/
def enc (s : Nat × Nat) : Nat := if s.1 = 0 then s.2 else if s.1 = 1 then 10000 + s.2 else if s.1 = 2 then 10024 else if s.1 ≤ 7 then 10007 + s.1 else if s.1 ≤ 15 then 10005 + s.1 else if s.1 = 20 then 10023 else 10000 + s.1
def rT (w : qW) (c : Nat) (t : vT) : Prop := (w.1 c 0 = nI t.1) ∧ (∃ b, w.1 c 1 = nI b ∧ b ≤ 24 ∧ (b = 0 ↔ ∀ k, k < t.1 → ¬ (t.2.1 k).1 = 1)) ∧ ((w.1 c 2 = -(nI 1) ∧ ∀ k, k < t.1 → ¬ (t.2.1 k).1 = 2) ∨ ∃ k, k < t.1 ∧ w.1 c 2 = nI k ∧ (t.2.1 k).1 = 2) ∧ (∀ k, k < t.1 → w.1 (c + 1) k = nI (t.2.1 k).1) ∧ (∀ k, k < t.1 → 3 ≤ (t.2.1 k).1 → w.1 (c + 2) k = nI (t.2.1 k).2.1 ∧ w.1 (c + 3) k = nI (t.2.1 k).2.2) ∧ (∀ k, k < t.1 → (t.2.1 k).1 ≤ 2 → ∃ f, w.1 (c + 2) k = nI f ∧ w.1 (c + 3) k = nI (f + (t.2.2 k).length) ∧ f + (t.2.2 k).length ≤ 300 ∧ ∀ j, j < (t.2.2 k).length → w.1 (c + 4) (f + j) = nI (enc ((t.2.2 k).getD j (0, 0))))
theorem rT.nc {w : qW} {c : Nat} {t : vT} (h : rT w c t) : w.1 c 0 = nI t.1 := h.1
theorem rT.bars {w : qW} {c : Nat} {t : vT} (h : rT w c t) : ∃ b, w.1 c 1 = nI b ∧ b ≤ 24 ∧ (b = 0 ↔ ∀ k, k < t.1 → ¬ (t.2.1 k).1 = 1) := h.2.1
theorem rT.wor {w : qW} {c : Nat} {t : vT} (h : rT w c t) : (w.1 c 2 = -(nI 1) ∧ ∀ k, k < t.1 → ¬ (t.2.1 k).1 = 2) ∨ ∃ k, k < t.1 ∧ w.1 c 2 = nI k ∧ (t.2.1 k).1 = 2 := h.2.2.1
theorem rT.kind {w : qW} {c : Nat} {t : vT} (h : rT w c t) : ∀ k, k < t.1 → w.1 (c + 1) k = nI (t.2.1 k).1 := h.2.2.2.1
theorem rT.lf {w : qW} {c : Nat} {t : vT} (h : rT w c t) : ∀ k, k < t.1 → 3 ≤ (t.2.1 k).1 → w.1 (c + 2) k = nI (t.2.1 k).2.1 ∧ w.1 (c + 3) k = nI (t.2.1 k).2.2 := h.2.2.2.2.1
theorem rT.code {w : qW} {c : Nat} {t : vT} (h : rT w c t) : ∀ k, k < t.1 → (t.2.1 k).1 ≤ 2 → ∃ f, w.1 (c + 2) k = nI f ∧ w.1 (c + 3) k = nI (f + (t.2.2 k).length) ∧ f + (t.2.2 k).length ≤ 300 ∧ ∀ j, j < (t.2.2 k).length → w.1 (c + 4) (f + j) = nI (enc ((t.2.2 k).getD j (0, 0))) := h.2.2.2.2.2
theorem rT.mk {w : qW} {c : Nat} {t : vT} (f_nc : w.1 c 0 = nI t.1) (f_bars : ∃ b, w.1 c 1 = nI b ∧ b ≤ 24 ∧ (b = 0 ↔ ∀ k, k < t.1 → ¬ (t.2.1 k).1 = 1)) (f_wor : (w.1 c 2 = -(nI 1) ∧ ∀ k, k < t.1 → ¬ (t.2.1 k).1 = 2) ∨ ∃ k, k < t.1 ∧ w.1 c 2 = nI k ∧ (t.2.1 k).1 = 2) (f_kind : ∀ k, k < t.1 → w.1 (c + 1) k = nI (t.2.1 k).1) (f_lf : ∀ k, k < t.1 → 3 ≤ (t.2.1 k).1 → w.1 (c + 2) k = nI (t.2.1 k).2.1 ∧ w.1 (c + 3) k = nI (t.2.1 k).2.2) (f_code : ∀ k, k < t.1 → (t.2.1 k).1 ≤ 2 → ∃ f, w.1 (c + 2) k = nI f ∧ w.1 (c + 3) k = nI (f + (t.2.2 k).length) ∧ f + (t.2.2 k).length ≤ 300 ∧ ∀ j, j < (t.2.2 k).length → w.1 (c + 4) (f + j) = nI (enc ((t.2.2 k).getD j (0, 0)))) : rT w c t := ⟨f_nc, f_bars, f_wor, f_kind, f_lf, f_code⟩
def rU (w : qW) (i : Nat) (t : vT) : Prop := (w.1 77 (700 * i) = nI t.1) ∧ (∀ k, k < t.1 → w.1 77 (700 * i + 1 + 3 * k) = nI (t.2.1 k).1) ∧ (∀ k, k < t.1 → 3 ≤ (t.2.1 k).1 → w.1 77 (700 * i + 1 + 3 * k + 1) = nI (t.2.1 k).2.1 ∧ w.1 77 (700 * i + 1 + 3 * k + 2) = nI (t.2.1 k).2.2) ∧ (∀ k, k < t.1 → (t.2.1 k).1 ≤ 2 → ∃ f, w.1 77 (700 * i + 1 + 3 * k + 1) = nI f ∧ w.1 77 (700 * i + 1 + 3 * k + 2) = nI (f + (t.2.2 k).length) ∧ f + (t.2.2 k).length ≤ 300 ∧ ∀ j, j < (t.2.2 k).length → w.1 77 (700 * i + 80 + 2 * (f + j)) = nI ((t.2.2 k).getD j (0, 0)).1 ∧ w.1 77 (700 * i + 80 + 2 * (f + j) + 1) = nI ((t.2.2 k).getD j (0, 0)).2)
theorem rU.nc {w : qW} {i : Nat} {t : vT} (h : rU w i t) : w.1 77 (700 * i) = nI t.1 := h.1
theorem rU.kind {w : qW} {i : Nat} {t : vT} (h : rU w i t) : ∀ k, k < t.1 → w.1 77 (700 * i + 1 + 3 * k) = nI (t.2.1 k).1 := h.2.1
theorem rU.lf {w : qW} {i : Nat} {t : vT} (h : rU w i t) : ∀ k, k < t.1 → 3 ≤ (t.2.1 k).1 → w.1 77 (700 * i + 1 + 3 * k + 1) = nI (t.2.1 k).2.1 ∧ w.1 77 (700 * i + 1 + 3 * k + 2) = nI (t.2.1 k).2.2 := h.2.2.1
theorem rU.code {w : qW} {i : Nat} {t : vT} (h : rU w i t) : ∀ k, k < t.1 → (t.2.1 k).1 ≤ 2 → ∃ f, w.1 77 (700 * i + 1 + 3 * k + 1) = nI f ∧ w.1 77 (700 * i + 1 + 3 * k + 2) = nI (f + (t.2.2 k).length) ∧ f + (t.2.2 k).length ≤ 300 ∧ ∀ j, j < (t.2.2 k).length → w.1 77 (700 * i + 80 + 2 * (f + j)) = nI ((t.2.2 k).getD j (0, 0)).1 ∧ w.1 77 (700 * i + 80 + 2 * (f + j) + 1) = nI ((t.2.2 k).getD j (0, 0)).2 := h.2.2.2
theorem rU.mk {w : qW} {i : Nat} {t : vT} (f_nc : w.1 77 (700 * i) = nI t.1) (f_kind : ∀ k, k < t.1 → w.1 77 (700 * i + 1 + 3 * k) = nI (t.2.1 k).1) (f_lf : ∀ k, k < t.1 → 3 ≤ (t.2.1 k).1 → w.1 77 (700 * i + 1 + 3 * k + 1) = nI (t.2.1 k).2.1 ∧ w.1 77 (700 * i + 1 + 3 * k + 2) = nI (t.2.1 k).2.2) (f_code : ∀ k, k < t.1 → (t.2.1 k).1 ≤ 2 → ∃ f, w.1 77 (700 * i + 1 + 3 * k + 1) = nI f ∧ w.1 77 (700 * i + 1 + 3 * k + 2) = nI (f + (t.2.2 k).length) ∧ f + (t.2.2 k).length ≤ 300 ∧ ∀ j, j < (t.2.2 k).length → w.1 77 (700 * i + 80 + 2 * (f + j)) = nI ((t.2.2 k).getD j (0, 0)).1 ∧ w.1 77 (700 * i + 80 + 2 * (f + j) + 1) = nI ((t.2.2 k).getD j (0, 0)).2) : rU w i t := ⟨f_nc, f_kind, f_lf, f_code⟩
def clp (z : Int) : Int := if z > 1000000 then 1000000 else if z < -1000000 then -1000000 else z
def op2 (o : Nat) (x y : Int) : Int := if o = 3 then clp (x + y) else if o = 4 then clp (x - y) else if o = 5 then clp (x * y) else if o = 6 then (if y = 0 then 0 else x.tdiv y) else (if y = 0 then 0 else x.tmod y)
def opc (o : Nat) (x y : Int) : Bool := if o = 10 then decide (x < y) else if o = 11 then decide (x ≤ y) else if o = 12 then decide (y < x) else if o = 13 then decide (y ≤ x) else if o = 14 then decide (x = y) else decide (¬ x = y)
/-- a row of steps done: numbers and truths, the last first -/
def evc (nm : Nat → Int) : List (Nat × Nat) → List Int → List Bool → List Int × List Bool
  | [], ns, ts => (ns, ts)
  | (o, v) :: r, ns, ts =>
    if o = 0 then evc nm r ((v : Int) :: ns) ts
    else if o = 1 then evc nm r (nm v :: ns) ts
    else if o = 2 then evc nm r ((-(ns.headD 0)) :: ns.tail) ts
    else if o ≤ 7 then evc nm r (op2 o (ns.tail.headD 0) (ns.headD 0) :: ns.tail.tail) ts
    else if o ≤ 15 then evc nm r ns.tail.tail (opc o (ns.tail.headD 0) (ns.headD 0) :: ts)
    else if o = 20 then evc nm r ns ((!(ts.headD false)) :: ts.tail)
    else if o = 21 then evc nm r ns ((ts.tail.headD false && ts.headD false) :: ts.tail.tail)
    else evc nm r ns ((ts.tail.headD false || ts.headD false) :: ts.tail.tail)
def nmB (S : vS) (p c k : Nat) : Int := if k = 0 then (c : Int) else if k = 1 then (S 10 p : Int) else if k = 2 then (S 11 p : Int) else (p : Int)
/-- the text that rules -/
def rul (T : Nat → vT) (S : vS) : vT := T (S 4 0 - 1)
def shut (t : vT) (S : vS) (p c k : Nat) : Bool := decide ((t.2.1 k).1 = 1) && (evc (nmB S p c) (t.2.2 k) [] []).2.headD false
/-- is p barred at a clock? -/
def brd (T : Nat → vT) (S : vS) (p c : Nat) : Bool := decide (0 < S 4 0) && (List.range (rul T S).1).any (fun k => shut (rul T S) S p c k)
/-- due in an hour of no day -/
def due (S : vS) (p h : Nat) : Bool := decide (S 11 p ≤ h ∧ (h - S 11 p) % S 10 p = 0)
def spkD (T : Nat → vT) (S : vS) (dy p h : Nat) : Bool := due S p (if dy = 0 then h else h % dy) && !brd T S p (h % S 2 0)
/-- p speaks in an hour -/
def spk (T : Nat → vT) (S : vS) (p h : Nat) : Bool := spkD T S (S 1 0) p h
def rX (w : qW) (N : vS) (K : vS) (T : Nat → vT) (Z : vZ) : Prop := (rS w 2 N) ∧ (rS w 13 K) ∧ (okS N) ∧ (okS K) ∧ (K 3 0 ≤ N 3 0) ∧ (∀ i, i < N 3 0 → rT w (27 + 5 * i) (T i)) ∧ (∀ i, i < N 3 0 → okT (T i)) ∧ (w.1 25 1 = nI Z.1) ∧ (Z.1 ≤ 300) ∧ (∀ j, j < Z.1 → w.1 26 j = nI (Z.2.1 j)) ∧ (∀ j, j < Z.1 → Z.2.1 j < 256) ∧ (w.1 25 2 = Z.2.2.1) ∧ (w.1 25 3 = Z.2.2.2) ∧ (∀ c, c < N 2 0 → ∃ n, w.1 51 c = nI n ∧ n < 4096 ∧ ∀ p, p < N 0 0 → n.testBit p = !brd T N p c) ∧ (∀ c, c < 60 → ∃ n, w.1 51 c = nI n ∧ n < 4096)
theorem rX.n {w : qW} {N : vS} {K : vS} {T : Nat → vT} {Z : vZ} (h : rX w N K T Z) : rS w 2 N := h.1
theorem rX.k {w : qW} {N : vS} {K : vS} {T : Nat → vT} {Z : vZ} (h : rX w N K T Z) : rS w 13 K := h.2.1
theorem rX.okn {w : qW} {N : vS} {K : vS} {T : Nat → vT} {Z : vZ} (h : rX w N K T Z) : okS N := h.2.2.1
theorem rX.okk {w : qW} {N : vS} {K : vS} {T : Nat → vT} {Z : vZ} (h : rX w N K T Z) : okS K := h.2.2.2.1
theorem rX.kt {w : qW} {N : vS} {K : vS} {T : Nat → vT} {Z : vZ} (h : rX w N K T Z) : K 3 0 ≤ N 3 0 := h.2.2.2.2.1
theorem rX.t {w : qW} {N : vS} {K : vS} {T : Nat → vT} {Z : vZ} (h : rX w N K T Z) : ∀ i, i < N 3 0 → rT w (27 + 5 * i) (T i) := h.2.2.2.2.2.1
theorem rX.okt {w : qW} {N : vS} {K : vS} {T : Nat → vT} {Z : vZ} (h : rX w N K T Z) : ∀ i, i < N 3 0 → okT (T i) := h.2.2.2.2.2.2.1
theorem rX.len {w : qW} {N : vS} {K : vS} {T : Nat → vT} {Z : vZ} (h : rX w N K T Z) : w.1 25 1 = nI Z.1 := h.2.2.2.2.2.2.2.1
theorem rX.l300 {w : qW} {N : vS} {K : vS} {T : Nat → vT} {Z : vZ} (h : rX w N K T Z) : Z.1 ≤ 300 := h.2.2.2.2.2.2.2.2.1
theorem rX.tape {w : qW} {N : vS} {K : vS} {T : Nat → vT} {Z : vZ} (h : rX w N K T Z) : ∀ j, j < Z.1 → w.1 26 j = nI (Z.2.1 j) := h.2.2.2.2.2.2.2.2.2.1
theorem rX.byt {w : qW} {N : vS} {K : vS} {T : Nat → vT} {Z : vZ} (h : rX w N K T Z) : ∀ j, j < Z.1 → Z.2.1 j < 256 := h.2.2.2.2.2.2.2.2.2.2.1
theorem rX.flt {w : qW} {N : vS} {K : vS} {T : Nat → vT} {Z : vZ} (h : rX w N K T Z) : w.1 25 2 = Z.2.2.1 := h.2.2.2.2.2.2.2.2.2.2.2.1
theorem rX.plc {w : qW} {N : vS} {K : vS} {T : Nat → vT} {Z : vZ} (h : rX w N K T Z) : w.1 25 3 = Z.2.2.2 := h.2.2.2.2.2.2.2.2.2.2.2.2.1
theorem rX.opn {w : qW} {N : vS} {K : vS} {T : Nat → vT} {Z : vZ} (h : rX w N K T Z) : ∀ c, c < N 2 0 → ∃ n, w.1 51 c = nI n ∧ n < 4096 ∧ ∀ p, p < N 0 0 → n.testBit p = !brd T N p c := h.2.2.2.2.2.2.2.2.2.2.2.2.2.1
theorem rX.op2 {w : qW} {N : vS} {K : vS} {T : Nat → vT} {Z : vZ} (h : rX w N K T Z) : ∀ c, c < 60 → ∃ n, w.1 51 c = nI n ∧ n < 4096 := h.2.2.2.2.2.2.2.2.2.2.2.2.2.2
theorem rX.mk {w : qW} {N : vS} {K : vS} {T : Nat → vT} {Z : vZ} (f_n : rS w 2 N) (f_k : rS w 13 K) (f_okn : okS N) (f_okk : okS K) (f_kt : K 3 0 ≤ N 3 0) (f_t : ∀ i, i < N 3 0 → rT w (27 + 5 * i) (T i)) (f_okt : ∀ i, i < N 3 0 → okT (T i)) (f_len : w.1 25 1 = nI Z.1) (f_l300 : Z.1 ≤ 300) (f_tape : ∀ j, j < Z.1 → w.1 26 j = nI (Z.2.1 j)) (f_byt : ∀ j, j < Z.1 → Z.2.1 j < 256) (f_flt : w.1 25 2 = Z.2.2.1) (f_plc : w.1 25 3 = Z.2.2.2) (f_opn : ∀ c, c < N 2 0 → ∃ n, w.1 51 c = nI n ∧ n < 4096 ∧ ∀ p, p < N 0 0 → n.testBit p = !brd T N p c) (f_op2 : ∀ c, c < 60 → ∃ n, w.1 51 c = nI n ∧ n < 4096) : rX w N K T Z := ⟨f_n, f_k, f_okn, f_okk, f_kt, f_t, f_okt, f_len, f_l300, f_tape, f_byt, f_flt, f_plc, f_opn, f_op2⟩
def rM (w : qW) (N : vS) (K : vS) (T : Nat → vT) (Z : vZ) : Prop := (rR w 73 75 N) ∧ (rR w 74 76 K) ∧ (okS N) ∧ (okS K) ∧ (K 3 0 ≤ N 3 0) ∧ (∀ i, i < N 3 0 → rU w i (T i)) ∧ (∀ i, i < N 3 0 → okT (T i)) ∧ (w.1 72 6 = nI Z.1) ∧ (Z.1 ≤ 300) ∧ (∀ j, j < Z.1 → w.1 78 j = nI (Z.2.1 j)) ∧ (∀ j, j < Z.1 → Z.2.1 j < 256) ∧ (w.1 72 7 = Z.2.2.1) ∧ (w.1 72 8 = Z.2.2.2)
theorem rM.n {w : qW} {N : vS} {K : vS} {T : Nat → vT} {Z : vZ} (h : rM w N K T Z) : rR w 73 75 N := h.1
theorem rM.k {w : qW} {N : vS} {K : vS} {T : Nat → vT} {Z : vZ} (h : rM w N K T Z) : rR w 74 76 K := h.2.1
theorem rM.okn {w : qW} {N : vS} {K : vS} {T : Nat → vT} {Z : vZ} (h : rM w N K T Z) : okS N := h.2.2.1
theorem rM.okk {w : qW} {N : vS} {K : vS} {T : Nat → vT} {Z : vZ} (h : rM w N K T Z) : okS K := h.2.2.2.1
theorem rM.kt {w : qW} {N : vS} {K : vS} {T : Nat → vT} {Z : vZ} (h : rM w N K T Z) : K 3 0 ≤ N 3 0 := h.2.2.2.2.1
theorem rM.t {w : qW} {N : vS} {K : vS} {T : Nat → vT} {Z : vZ} (h : rM w N K T Z) : ∀ i, i < N 3 0 → rU w i (T i) := h.2.2.2.2.2.1
theorem rM.okt {w : qW} {N : vS} {K : vS} {T : Nat → vT} {Z : vZ} (h : rM w N K T Z) : ∀ i, i < N 3 0 → okT (T i) := h.2.2.2.2.2.2.1
theorem rM.len {w : qW} {N : vS} {K : vS} {T : Nat → vT} {Z : vZ} (h : rM w N K T Z) : w.1 72 6 = nI Z.1 := h.2.2.2.2.2.2.2.1
theorem rM.l300 {w : qW} {N : vS} {K : vS} {T : Nat → vT} {Z : vZ} (h : rM w N K T Z) : Z.1 ≤ 300 := h.2.2.2.2.2.2.2.2.1
theorem rM.tape {w : qW} {N : vS} {K : vS} {T : Nat → vT} {Z : vZ} (h : rM w N K T Z) : ∀ j, j < Z.1 → w.1 78 j = nI (Z.2.1 j) := h.2.2.2.2.2.2.2.2.2.1
theorem rM.byt {w : qW} {N : vS} {K : vS} {T : Nat → vT} {Z : vZ} (h : rM w N K T Z) : ∀ j, j < Z.1 → Z.2.1 j < 256 := h.2.2.2.2.2.2.2.2.2.2.1
theorem rM.flt {w : qW} {N : vS} {K : vS} {T : Nat → vT} {Z : vZ} (h : rM w N K T Z) : w.1 72 7 = Z.2.2.1 := h.2.2.2.2.2.2.2.2.2.2.2.1
theorem rM.plc {w : qW} {N : vS} {K : vS} {T : Nat → vT} {Z : vZ} (h : rM w N K T Z) : w.1 72 8 = Z.2.2.2 := h.2.2.2.2.2.2.2.2.2.2.2.2
theorem rM.mk {w : qW} {N : vS} {K : vS} {T : Nat → vT} {Z : vZ} (f_n : rR w 73 75 N) (f_k : rR w 74 76 K) (f_okn : okS N) (f_okk : okS K) (f_kt : K 3 0 ≤ N 3 0) (f_t : ∀ i, i < N 3 0 → rU w i (T i)) (f_okt : ∀ i, i < N 3 0 → okT (T i)) (f_len : w.1 72 6 = nI Z.1) (f_l300 : Z.1 ≤ 300) (f_tape : ∀ j, j < Z.1 → w.1 78 j = nI (Z.2.1 j)) (f_byt : ∀ j, j < Z.1 → Z.2.1 j < 256) (f_flt : w.1 72 7 = Z.2.2.1) (f_plc : w.1 72 8 = Z.2.2.2) : rM w N K T Z := ⟨f_n, f_k, f_okn, f_okk, f_kt, f_t, f_okt, f_len, f_l300, f_tape, f_byt, f_flt, f_plc⟩
