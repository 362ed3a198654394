/-! pairs: the class. -/
section PairsC
variable {s : Nat × (Nat → Int32)} {d : Nat} {w : qW} {Q : Int32 → qW → Prop} {R : qW → Prop} {N S K : vS} {T : Nat → vT} {Z : vZ} {C : Nat → Nat → Nat}
def paA (c : Nat) : Prop := c = 66 ∨ c = 67 ∨ c = 68
/-- the best so far, when b stood ahead of it and m is added to what the scan found -/
def bst (b m : Int) (p : Int × Nat) : Int := if p.1 < 0 then b else if b < m + p.1 then m + p.1 else b
theorem c_tryAll (hC : ∀ i j, C i j ≤ 100000) (S0 : Nat) : ∀ k L m dep d w b, k + 4 ≤ d → L < 4096 → cntB L = 2 * k → (∀ x, L.testBit x = true → S0.testBit x = true) → m + 100000 * k ≤ 400000 → dep + k ≤ 12 → (∀ i j, i < j → j < 12 → S0.testBit i = true → S0.testBit j = true → w.1 69 (12 * i + j) = nI (C i j)) → w.1 66 0 = iZ b → -1 ≤ b → b ≤ 400000 →
    (∀ w', fr paA w w' → w'.1 66 0 = iZ (if b < m + (bV C k L).1 then m + (bV C k L).1 else b) → (∀ x, x < 12 → L.testBit x = false → w'.1 68 x = w.1 68 x) → (b < m + (bV C k L).1 → ∀ x, x < 12 → w'.1 67 x = if L.testBit x = true then nI (dpW C k L x) else w.1 68 x) → (¬ b < m + (bV C k L).1 → w'.1 67 = w.1 67) → R w') →
    qCall (some s) d 196 [.ref 66, .int (nI L), .int (nI m), .int (nI dep)] w (qQv R) := by
  intro k
  induction k generalizing R with
  | zero =>
    intro L m dep d w b hd hL hc hS hm hdep h69 h66 hb1 hb2 hQ
    obtain ⟨d, rfl, hd1⟩ := dS hd
    have e0 := cnt0 hL hc
    subst e0
    have v0 : (bV C 0 0).1 = 0 := rfl
    rw [v0] at hQ
    refine A_Couples_tryAll ⟨fun _ => A_Couples_tryAll_10 ?_, fun g => absurd rfl g⟩
    rw [h66, nI_Z m, iZ_le (by omega) (by omega)]
    refine ⟨fun g => hQ w (fr_rf _ _) (by rw [if_neg (by omega)]; exact h66) (fun x _ _ => rfl) (fun q => by omega) (fun _ => rfl), fun g => ⟨by decide, ?_⟩⟩
    rw [qIx_0, show qIx (12 : Int32) = 12 from rfl]
    refine hQ _ (fr_cI (fr_pI (Or.inl rfl)) (Or.inr (Or.inl rfl))) ?_ (fun x hx _ => ?_) (fun _ x hx => ?_) (fun q => by omega)
    · rw [cI_c (by decide), pI_e, if_pos (by omega), Int.add_zero]
    · rw [cI_c (by decide), pI_c (by decide)]
    · rw [cI_e hx, pI_c (by decide), Nat.zero_testBit, if_neg (fun q => Bool.noConfusion q)]
  | succ k ih =>
    intro L m dep d w b hd hL hc hS hm hdep h69 h66 hb1 hb2 hQ
    obtain ⟨d, rfl, hd1⟩ := dS hd
    have Lp := cnt_pos hc
    have l := lowB_spec Lp hL
    have nn := bV_b hC hL hc
    refine A_Couples_tryAll ⟨fun g => ?_, fun _ => ⟨fun _ => ?_, fun g => absurd ((nI_leI (b := 12) (by omega) (by decide)).mpr (by omega)) g⟩⟩
    · rw [eq0 (by omega)] at g; omega
    refine c_lowestOf (by omega) Lp hL ?_
    rw [nI_1]
    have fin : ∀ w', fr paA w w' ∧ w'.1 66 0 = iZ (bst b m (bV C (k + 1) L)) ∧ (∀ x, x < 12 → L.testBit x = false → w'.1 68 x = w.1 68 x) ∧ ((0 ≤ (bV C (k + 1) L).1 ∧ b < m + (bV C (k + 1) L).1) → ∀ x, x < 12 → w'.1 67 x = if L.testBit x = true then nI (dpO (dpW C k) L (bV C (k + 1) L).2 x) else w.1 68 x) ∧ (¬ (0 ≤ (bV C (k + 1) L).1 ∧ b < m + (bV C (k + 1) L).1) → w'.1 67 = w.1 67) → R w' := by
      intro w' ⟨f, h1, h2, h3, h4⟩
      refine hQ w' f ?_ h2 (fun q => h3 ⟨nn.1, q⟩) (fun q => h4 (fun q2 => q q2.2))
      rw [h1]
      unfold bst
      rw [if_neg (by omega)]
    rw [bV_s] at fin
    refine lpU (i := lowB L + 1) (n := 12) (I := fun i w' => lowB L < i ∧ fr paA w w' ∧ w'.1 66 0 = iZ (bst b m (scn (pF C k L) (pG L) i)) ∧ (∀ x, x < 12 → L.testBit x = false → w'.1 68 x = w.1 68 x) ∧ ((0 ≤ (scn (pF C k L) (pG L) i).1 ∧ b < m + (scn (pF C k L) (pG L) i).1) → ∀ x, x < 12 → w'.1 67 x = if L.testBit x = true then nI (dpO (dpW C k) L (scn (pF C k L) (pG L) i).2 x) else w.1 68 x) ∧ (¬ (0 ≤ (scn (pF C k L) (pG L) i).1 ∧ b < m + (scn (pF C k L) (pG L) i).1) → w'.1 67 = w.1 67)) (P := fun i w' => qAt s d c_Couples_tryAll (qQv R) 51 [some (.ref 66), some (.int (nI L)), some (.int (nI m)), some (.int (nI dep)), some (.int (nI (lowB L))), some (.int (nI i))] [] w') ?_ ?_ (by omega) ?_
    · intro w' ⟨_, h⟩
      exact A_Couples_tryAll_51 ⟨fun _ => fin w' h, fun g => absurd (by decide) g⟩
    · intro i w1 hi ⟨hl, f1, h1, h2, h3, h4⟩ nxt
      refine A_Couples_tryAll_51 ?_
      rw [show (12 : Int32) = nI 12 from rfl, nI_leI (by omega) (by omega), nI_1 i, nI_mul', nI_add, qIx_nI (by omega), qIx_nI (by omega), qIx_nI (by omega)]
      refine ⟨fun g => by omega, fun _ => c_isOfB (by omega) (by omega) (fun g => b1 ?_) (fun g => b0 (nxt w1 ?_))⟩
      · rw [mem12_nI (by omega)] at g
        have hg : pG L i = true := by unfold pG; rw [g, decide_eq_true hl]; rfl
        have e69 : w1.1 69 (12 * lowB L + i) = nI (C (lowB L) i) := by
          rw [(f1 69 (by unfold paA; omega)).1]
          exact h69 _ _ hl hi (hS _ l.2.1) (hS _ g)
        have cb := hC (lowB L) i
        have e1 : ∀ i, i < 12 → qShl (1 : Int32) (nI i) = nI (2 ^ i) := fun i hi => qShl_n (i := i) (by omega)
        rw [e69, nI_add, nI_1 dep, e1 _ l.1, e1 _ hi, nI_or, show (-1 : Int32) = -(nI 1) from rfl, nI_andn]
        refine ⟨qIn_nI (by omega) (by decide), qIn_nI (by omega) (by decide), qIn_nI (by omega) (by decide), ?_⟩
        have cc := cut_c hL l.1 hi (by omega) l.2.1 g hc
        have cb2 := bV_b hC (cut_lt (i := lowB L) (j := i) hL) cc
        have bb : -1 ≤ bst b m (scn (pF C k L) (pG L) i) ∧ bst b m (scn (pF C k L) (pG L) i) ≤ 400000 := by
          have ub : (scn (pF C k L) (pG L) i).1 ≤ 100000 * (k + 1) := by
            rcases scn_c (f := pF C k L) (g := pG L) (m := i) with q | ⟨q1, q2, q3⟩
            · rw [q]; show (-1 : Int) ≤ _; omega
            · have x := pG_x q2
              have y := bV_b hC (cut_lt (i := lowB L) (j := (scn (pF C k L) (pG L) i).2) hL) (cut_c hL l.1 (by omega) (by omega) l.2.1 x.2 hc)
              have z := hC (lowB L) (scn (pF C k L) (pG L) i).2
              have pe : ∀ y, pF C k L y = (C (lowB L) y : Int) + (bV C k (cut L (lowB L) y)).1 := fun _ => rfl
              rw [q3, pe]
              omega
          unfold bst
          split
          · omega
          · split
            · omega
            · omega
        have pe : (m + C (lowB L) i : Nat) + (bV C k (cut L (lowB L) i)).1 = m + pF C k L i := by
          unfold pF; omega
        have pn : 0 ≤ pF C k L i := by unfold pF; omega
        refine ih (cut L (lowB L) i) (m + C (lowB L) i) (dep + 1) d _ (bst b m (scn (pF C k L) (pG L) i)) (by omega) (cut_lt hL) cc (fun x hx => hS x ?_) (by omega) (by omega) ?_ ?_ bb.1 bb.2 ?_
        · rw [cut_bit, Bool.and_eq_true] at hx; exact hx.1
        · intro a c hac hc2 ha hc3
          rw [pI_c (by decide), pI_c (by decide), (f1 69 (by unfold paA; omega)).1]
          exact h69 a c hac hc2 ha hc3
        · rw [pI_c (by decide), pI_c (by decide)]; exact h1
        · intro w3 f3 k1 k2 k3 k4
          rw [pe] at k1 k3 k4
          have lowne : ¬ lowB L = i := by omega
          have t68 : ∀ x, x < 12 → (cut L (lowB L) i).testBit x = false → w3.1 68 x = if x = i then nI (lowB L) else if x = lowB L then nI i else w1.1 68 x := by
            intro x hx hb
            rw [k2 x hx hb]
            by_cases ex : x = i
            · subst ex; rw [pI_e, if_pos rfl]
            · rw [pI_f ex, if_neg ex]
              by_cases ey : x = lowB L
              · subst ey; rw [pI_e, if_pos rfl]
              · rw [pI_f ey, if_neg ey]
          have o67 : (qPutI (qPutI w1 68 (lowB L) (nI i)) 68 i (nI (lowB L))).1 67 = w1.1 67 := by
            funext x
            rw [pI_c (by decide), pI_c (by decide)]
          have n68 : ∀ x, x < 12 → L.testBit x = false → w3.1 68 x = w.1 68 x := by
            intro x hx hb
            rw [t68 x hx (by rw [cut_bit, hb]; rfl), if_neg (fun q => by subst q; rw [g] at hb; exact Bool.noConfusion hb), if_neg (fun q => by subst q; rw [l.2.1] at hb; exact Bool.noConfusion hb)]
            exact h2 x hx hb
          have n67 : bst b m (scn (pF C k L) (pG L) i) < m + pF C k L i → ∀ x, x < 12 → w3.1 67 x = if L.testBit x = true then nI (dpO (dpW C k) L i x) else w.1 68 x := by
            intro q x hx
            rw [k3 q x hx]
            by_cases ex : x = i
            · subst ex
              have cf : (cut L (lowB L) x).testBit x = false := by rw [cut_bit, decide_eq_true (p := x = x) rfl, Bool.or_true, Bool.not_true, Bool.and_false]
              rw [if_neg (by rw [cf]; exact fun q => Bool.noConfusion q), pI_e, if_pos g]
              unfold dpO
              rw [if_neg (fun q => lowne q.symm), if_pos rfl]
            · by_cases ey : x = lowB L
              · have cf : (cut L (lowB L) i).testBit x = false := by rw [cut_bit, ey, decide_eq_true (p := lowB L = lowB L) rfl, Bool.true_or, Bool.not_true, Bool.and_false]
                rw [if_neg (by rw [cf]; exact fun q => Bool.noConfusion q), pI_f ex, ey, pI_e, if_pos l.2.1]
                unfold dpO
                rw [if_pos rfl]
              · have cf : (cut L (lowB L) i).testBit x = L.testBit x := by rw [cut_bit, decide_eq_false (fun q => ey q.symm), decide_eq_false (fun q => ex q.symm), Bool.or_false, Bool.not_false, Bool.and_true]
                rw [cf]
                by_cases lx : L.testBit x = true
                · rw [if_pos lx, if_pos lx]
                  unfold dpO
                  rw [if_neg ey, if_neg ex]
                · rw [if_neg lx, if_neg lx, pI_f ex, pI_f ey]
                  exact h2 x hx (by cases e : L.testBit x with
                    | false => rfl
                    | true => exact absurd e lx)
          have f13 : fr paA w w3 := fr_tr (fr_I (fr_I f1 (Or.inr (Or.inr rfl))) (Or.inr (Or.inr rfl))) f3
          by_cases better : (scn (pF C k L) (pG L) i).1 < pF C k L i
          · have sy := scn_y (f := pF C k L) (g := pG L) (m := i) ⟨hg, better⟩
            have bb2 : bst b m (scn (pF C k L) (pG L) i) < m + pF C k L i ↔ b < m + pF C k L i := by
              unfold bst
              split
              · exact Iff.rfl
              · split
                · omega
                · exact Iff.rfl
            refine nxt w3 ⟨by omega, f13, ?_, n68, fun q => ?_, fun q => ?_⟩
            · rw [k1, sy]
              congr 1
              show _ = if pF C k L i < 0 then b else if b < m + pF C k L i then m + pF C k L i else b
              rw [if_neg (show ¬ pF C k L i < 0 by omega)]
              by_cases q : b < m + pF C k L i
              · rw [if_pos (bb2.mpr q), if_pos q]
              · rw [if_neg (fun x => q (bb2.mp x)), if_neg q]
                unfold bst
                split
                · rfl
                · rw [if_neg (by omega)]
            · rw [sy] at q ⊢
              exact n67 (bb2.mpr q.2)
            · rw [sy] at q
              have q2 : ¬ b < m + pF C k L i := fun x => q ⟨pn, x⟩
              rw [k4 (fun x => q2 (bb2.mp x)), o67]
              exact h4 (fun x => by omega)
          · have sn := scn_n (f := pF C k L) (g := pG L) (m := i) (fun x => better x.2)
            have nb : ¬ bst b m (scn (pF C k L) (pG L) i) < m + pF C k L i := by
              unfold bst
              split
              · omega
              · split
                · omega
                · omega
            rw [if_neg nb] at k1
            refine nxt w3 ⟨by omega, f13, by rw [sn]; exact k1, n68, fun q => ?_, fun q => ?_⟩
            · rw [sn] at q ⊢
              intro x hx
              rw [k4 nb, o67]
              exact h3 q x hx
            · rw [sn] at q
              rw [k4 nb, o67]
              exact h4 q
      · rw [mem12_nI (by omega)] at g
        have hg : pG L i = false := by unfold pG; rw [g, Bool.and_false]
        have sn := scn_n (f := pF C k L) (g := pG L) (m := i) (fun x => by rw [hg] at x; exact Bool.noConfusion x.1)
        rw [sn]
        exact ⟨by omega, f1, h1, h2, h3, h4⟩
    · have so : scn (pF C k L) (pG L) (lowB L + 1) = (-1, 0) := scn_o (fun j hj => by unfold pG; rw [decide_eq_false (by omega)]; rfl)
      rw [so]
      refine ⟨Nat.lt_succ_self _, fr_rf _ _, ?_, fun _ _ _ => rfl, fun q => absurd q.1 (by decide), fun _ => rfl⟩
      unfold bst
      rw [if_pos (by decide)]
      exact h66
end PairsC
