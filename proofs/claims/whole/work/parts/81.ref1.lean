/-! next and together of the reference. -/
section Ref1
variable {s : Nat × (Nat → Int32)} {d : Nat} {w : qW} {Q : Int32 → qW → Prop} {QL : Int64 → qW → Prop} {R : qW → Prop} {N S K : vS} {T : Nat → vT} {Z : vZ}
theorem m_next0 {set h : Nat} (hd : 4 ≤ d) (hR : rQ w N K T Z S) (hs : set < 4096) (hd0 : S 1 0 = 0) (hp : paF S set = none) (hh : h ≤ tLast) (hQ : ∀ w' r, frM w w' → nx0 T S set h r → QL r w') : qAt s d c_Mo_next (qQl QL) 62 [some (.ref 72), some (.int (nI set)), some (.long (lN h)), none, some (.int (nI 0)), some (.long (lN (tLast + 1))), none, some (.int (nI 0)), none, none] [] w := by
  have o := hR.ok
  have o0 := o.p12
  have oc := o.clk
  have hL := tL
  have hB := tB
  refine lpU (i := 0) (n := S 2 0) (I := fun c w2 => frM w w2) (P := fun c w2 => ∀ (b B : Nat), (b = 0 ∧ (∀ c', c' < c → ¬ (opB T S set c' = true ∧ rcB S set (S 0 0) c' = true)) ∨ b = 1 ∧ ∃ c', c' < S 2 0 ∧ opB T S set c' = true ∧ rcB S set (S 0 0) c' = true) → (B = tLast + 1 ∧ (∀ x, h ≤ x → x ≤ tLast → x % S 2 0 < c → ¬ allSpk T S set x = true) ∨ (B ≤ tLast ∧ h ≤ B ∧ allSpk T S set B = true ∧ ∀ y, h ≤ y → y < B → y % S 2 0 < c → ¬ allSpk T S set y = true)) → qAt s d c_Mo_next (qQl QL) 62 [some (.ref 72), some (.int (nI set)), some (.long (lN h)), none, some (.int (nI b)), some (.long (lN B)), none, some (.int (nI c)), none, none] [] w2) ?_ ?_ (Nat.zero_le _) (frM_rf w) 0 (tLast + 1) (Or.inl ⟨rfl, fun c' h => absurd h (Nat.not_lt_zero _)⟩) (Or.inl ⟨rfl, fun x _ _ h => absurd h (Nat.not_lt_zero _)⟩)
  · intro w2 f b B hb hB2
    have hR2 := hR.frM f
    refine A_Mo_next_62 ?_
    have ec : w2.1 73 2 = nI (S 2 0) := hR2.clk
    have B62 : B < 2 ^ 62 := by rcases hB2 with ⟨e, _⟩ | ⟨e, _⟩ <;> omega
    have b1 : b < 2 := by rcases hb with ⟨e, _⟩ | ⟨e, _⟩ <;> omega
    rw [show qIx (2 : Int32) = 2 from rfl, ec, kL, lg_le, pk_lLE (by omega) (by omega), eq0 (by omega)]
    have md : ∀ x, x % S 2 0 < S 2 0 := fun x => Nat.mod_lt _ (by omega)
    refine ⟨qIn_nI (j := 2) (by decide) (by decide), fun _ => ⟨fun g => ?_, fun g => ?_⟩, fun g => absurd (Int32.le_refl _) g⟩
    · have rc : rchC T S set := by
        rcases hb with ⟨e, _⟩ | ⟨e, q⟩
        · exact absurd e g
        · exact ⟨hp, q⟩
      refine ⟨fun g2 => ?_, fun g2 => ?_⟩
      · rcases hB2 with ⟨e, _⟩ | ⟨e, q1, q2, q3⟩
        · omega
        · exact hQ w2 _ f (Or.inr ⟨rc, Or.inr ⟨B, rfl, q1, e, q2, fun y hy1 hy2 => q3 y hy1 hy2 (md y)⟩⟩)
      · rcases hB2 with ⟨e, q⟩ | ⟨e, _⟩
        · exact hQ w2 _ f (Or.inr ⟨rc, Or.inl ⟨rfl, fun x hx1 hx2 => q x hx1 hx2 (md x)⟩⟩)
        · omega
    · rcases hb with ⟨e, q⟩ | ⟨e, _⟩
      · exact hQ w2 _ f (Or.inl ⟨fun rc => by
          obtain ⟨_, c', h1, h2, h3⟩ := rc
          exact q c' h1 ⟨h2, h3⟩, rfl⟩)
      · omega
  · intro c w2 hc f ih b B hb hB2
    have hR2 := hR.frM f
    refine A_Mo_next_62 ?_
    have ec : w2.1 73 2 = nI (S 2 0) := hR2.clk
    have B62 : B < 2 ^ 62 := by rcases hB2 with ⟨e, _⟩ | ⟨e, _⟩ <;> omega
    rw [show qIx (2 : Int32) = 2 from rfl, ec, nI_leI (by omega) (by omega), nI_1]
    refine ⟨qIn_nI (j := 2) (by decide) (by decide), fun g => absurd g (by omega), fun _ => m_isOpen (by omega) hR2 hs hc (tI_n (fun go => ?_) (fun go => ?_))⟩
    · rw [Bool.and_eq_true] at go
      have hb1 : ((1 : Nat) = 0 ∧ (∀ c', c' < c + 1 → ¬ (opB T S set c' = true ∧ rcB S set (S 0 0) c' = true)) ∨ (1 : Nat) = 1 ∧ ∃ c', c' < S 2 0 ∧ opB T S set c' = true ∧ rcB S set (S 0 0) c' = true) := Or.inr ⟨rfl, c, hc, go.1, go.2⟩
      refine m_findHours (by omega) hR2 hs hc hp go.2 ?_
      intro w3 b3 f3 h3
      have f3' := frM_tr f f3
      have hR3 := hR.frM f3'
      rcases h3 with ⟨e, no⟩ | ⟨e, st, sp, hm, hj⟩
      · rw [e]
        refine n0 (ih w3 f3' 1 B hb1 ?_)
        have nn : ∀ x, h ≤ x → x ≤ tLast → x % S 2 0 = c → ¬ allSpk T S set x = true := fun x _ hx hxm hA => no x hx ((slv_c hc).mpr ⟨hxm, ((all_iff o hd0).mp hA).1⟩)
        rcases hB2 with ⟨e, q⟩ | ⟨e, q1, q2, q3⟩
        · refine Or.inl ⟨e, fun x hx1 hx2 hx3 hA => ?_⟩
          rcases Nat.lt_or_ge (x % S 2 0) c with g | g
          · exact q x hx1 hx2 g hA
          · exact nn x hx1 hx2 (by omega) hA
        · refine Or.inr ⟨e, q1, q2, fun y hy1 hy2 hy3 hA => ?_⟩
          rcases Nat.lt_or_ge (y % S 2 0) c with g | g
          · exact q3 y hy1 hy2 g hA
          · exact nn y hy1 (by omega) (by omega) hA
      · rw [e]
        refine n1 (m_begin (by omega) hR3 hs hh ?_)
        have l1 : lsF S set h (S 0 0) ≤ tLast := lsF_le.mpr ⟨hh, fun i hi hb => by have := o.fst i hi; omega⟩
        refine m_from (by omega) hm hj l1 ?_
        intro y hy1 hy2 hy3
        have rw3 := fun x (hx : x ≤ tLast) => all_rowc (T := T) (h := h) o hd0 hc hj go.1 hx
        rw [lg_ge, pk_lLE (by omega) (by omega)]
        -- no hour of this clock from h on ahead of y
        have nn : ∀ x, h ≤ x → x ≤ tLast → x < y → x % S 2 0 = c → ¬ allSpk T S set x = true := by
          intro x hx1 hx2 hx3 hxm hA
          obtain ⟨j, ej⟩ := (rw3 x hx2).mp ⟨hx1, hxm, hA⟩
          have : apF st sp (lsF S set h (S 0 0)) ≤ x := by rw [ej]; exact Nat.le_add_right _ _
          rcases Nat.lt_or_ge tLast y with g | g
          · have := hy3 g; omega
          · have := hy2 g; omega
        refine ⟨fun g => ih w3 f3' 1 B hb1 ?_, fun g => ih w3 f3' 1 y hb1 ?_⟩
        · rcases hB2 with ⟨e, q⟩ | ⟨e, q1, q2, q3⟩
          · refine Or.inl ⟨e, fun x hx1 hx2 hx3 hA => ?_⟩
            rcases Nat.lt_or_ge (x % S 2 0) c with g2 | g2
            · exact q x hx1 hx2 g2 hA
            · exact nn x hx1 hx2 (by omega) (by omega) hA
          · refine Or.inr ⟨e, q1, q2, fun x hx1 hx2 hx3 hA => ?_⟩
            rcases Nat.lt_or_ge (x % S 2 0) c with g2 | g2
            · exact q3 x hx1 hx2 g2 hA
            · exact nn x hx1 (by omega) (by omega) (by omega) hA
        · have yL : y ≤ tLast := by rcases hB2 with ⟨e, _⟩ | ⟨e, _⟩ <;> omega
          obtain ⟨p1, p2, p3⟩ := (rw3 y yL).mpr ⟨0, by rw [Nat.zero_mul, Nat.add_zero]; exact hy2 yL⟩
          refine Or.inr ⟨yL, p1, p3, fun x hx1 hx2 hx3 hA => ?_⟩
          rcases Nat.lt_or_ge (x % S 2 0) c with g2 | g2
          · rcases hB2 with ⟨e, q⟩ | ⟨e, q1, q2, q3⟩
            · exact q x hx1 (by omega) g2 hA
            · exact q3 x hx1 (by omega) g2 hA
          · exact nn x hx1 (by omega) hx2 (by omega) hA
    · have nn : ∀ x, x % S 2 0 = c → ¬ allSpk T S set x = true := by
        intro x hxm hA
        obtain ⟨q1, q2⟩ := all_rc o hd0 hA
        rw [hxm] at q1 q2
        rw [q1, q2] at go
        cases go
      refine ih w2 f b B ?_ ?_
      · rcases hb with ⟨e, q⟩ | q
        · refine Or.inl ⟨e, fun c' hc' q2 => ?_⟩
          by_cases ec : c' = c
          · subst ec; rw [q2.1, q2.2] at go; cases go
          · exact q c' (by omega) q2
        · exact Or.inr q
      · rcases hB2 with ⟨e, q⟩ | ⟨e, q1, q2, q3⟩
        · refine Or.inl ⟨e, fun x hx1 hx2 hx3 hA => ?_⟩
          rcases Nat.lt_or_ge (x % S 2 0) c with g2 | g2
          · exact q x hx1 hx2 g2 hA
          · exact nn x (by omega) hA
        · refine Or.inr ⟨e, q1, q2, fun x hx1 hx2 hx3 hA => ?_⟩
          rcases Nat.lt_or_ge (x % S 2 0) c with g2 | g2
          · exact q3 x hx1 hx2 g2 hA
          · exact nn x (by omega) hA
/-- after so many hours all comes again, by days -/
def rdD (S : vS) : Nat := S 1 0 / Nat.gcd (S 1 0) (S 2 0) * S 2 0
theorem rdD_ok (oS : okS S) (hd : ¬ S 1 0 = 0) : 1 ≤ rdD S ∧ rdD S ≤ 59940 ∧ ∀ set x, allSpk T S set (x + rdD S) = allSpk T S set x := by
  have od := oS.day
  have oc := oS.clk
  have hg : 0 < Nat.gcd (S 1 0) (S 2 0) := Nat.gcd_pos_of_pos_right _ oc.1
  have h1 : 1 ≤ S 1 0 / Nat.gcd (S 1 0) (S 2 0) := (Nat.one_le_div_iff hg).mpr (Nat.gcd_le_left _ (by omega))
  have h2 : S 1 0 / Nat.gcd (S 1 0) (S 2 0) ≤ S 1 0 := Nat.div_le_self _ _
  have b1 : rdD S ≤ 999 * 60 := Nat.mul_le_mul (by omega) oc.2
  have b2 : 1 * 1 ≤ rdD S := Nat.mul_le_mul h1 oc.1
  refine ⟨by omega, by omega, fun set x => ?_⟩
  obtain ⟨a, ha⟩ := Nat.gcd_dvd_left (S 1 0) (S 2 0)
  obtain ⟨b, hb⟩ := Nat.gcd_dvd_right (S 1 0) (S 2 0)
  have e1 : rdD S = a * S 2 0 := by
    unfold rdD
    congr 1
    conv => lhs; lhs; rw [ha]
    exact Nat.mul_div_cancel_left _ hg
  have e2 : rdD S = b * S 1 0 := by
    rw [e1]
    conv => lhs; rw [hb]
    conv => rhs; rw [ha]
    rw [Nat.mul_left_comm a, Nat.mul_comm a b, Nat.mul_left_comm b]
  rw [all_day hd, all_day hd]
  congr 2
  · rw [e2, Nat.add_mul_mod_self_right]
  · rw [e1, Nat.add_mul_mod_self_right]
theorem m_turnRound (hd : 2 ≤ d) (hR : rQ w N K T Z S) (hd0 : ¬ S 1 0 = 0) (hQ : Q (nI (rdD S)) w) : qCall (some s) d 267 [.ref 72] w (qQi Q) := by
  obtain ⟨d, rfl, hd1⟩ := dS hd
  have o := hR.ok
  have od := o.day
  have oc := o.clk
  have hg : 0 < Nat.gcd (S 1 0) (S 2 0) := Nat.gcd_pos_of_pos_right _ oc.1
  have hg2 : Nat.gcd (S 1 0) (S 2 0) ≤ 999 := Nat.le_trans (Nat.gcd_le_left _ (by omega)) (by omega)
  have i1 : qIn (1 : Int32) 262 := qIn_nI (j := 1) (by decide) (by decide)
  have i2 : qIn (2 : Int32) 262 := qIn_nI (j := 2) (by decide) (by decide)
  refine A_Mo_turnRound ⟨i1, i1, i2, ?_⟩
  rw [show qIx (1 : Int32) = 1 from rfl, show qIx (2 : Int32) = 2 from rfl, hR.day, hR.clk, nI_l (by omega), nI_l (by omega)]
  refine m_common hd1 (by omega) (by omega) ?_
  rw [eqL0 (by omega), hR.clk, nI_l (by omega), lN_div' (by omega) hg (by omega), lN_mul, lN_i]
  exact ⟨by omega, i2, hQ⟩
theorem m_nextByDay {set h : Nat} (hd : 5 ≤ d) (hR : rQ w N K T Z S) (hs : set < 4096) (hd0 : ¬ S 1 0 = 0) (hh : h ≤ tLast) (hQ : ∀ r, nxD T S set h r → QL r w) : qCall (some s) d 266 [.ref 72, .int (nI set), .long (lN h)] w (qQl QL) := by
  obtain ⟨d, rfl, hd1⟩ := dS hd
  have hL := tL
  obtain ⟨r1, r2, r3⟩ := rdD_ok (T := T) hR.ok hd0
  refine A_Mo_nextByDay ?_
  refine lpN (i := 0) (n := rdD S) (P := fun i => (∀ j, j < i → ¬ allSpk T S set (h + j) = true) → qAt s d c_Mo_nextByDay (qQl QL) 3 [some (.ref 72), some (.int (nI set)), some (.long (lN h)), none, some (.long (lN (h + i))), none] [] w) ?_ ?_ (Nat.zero_le _) (fun j hj => absurd hj (Nat.not_lt_zero _))
  · intro no
    refine A_Mo_nextByDay_3 (m_turnRound (by omega) hR hd0 ?_)
    rw [nI_l (by omega), lN_add, lg_ge]
    refine ⟨fun _ => hQ _ (Or.inl ⟨rfl, fun x hx hA => ?_⟩), fun g => absurd (Int64.le_refl _) g⟩
    have red : ∀ k y, allSpk T S set (y + rdD S * k) = allSpk T S set y := by
      intro k
      induction k with
      | zero => intro y; rw [Nat.mul_zero, Nat.add_zero]
      | succ k ih => intro y; rw [Nat.mul_succ, ← Nat.add_assoc, r3, ih]
    have e := Nat.div_add_mod (x - h) (rdD S)
    have ex : x = (h + (x - h) % rdD S) + rdD S * ((x - h) / rdD S) := by omega
    rw [ex, red] at hA
    exact no _ (Nat.mod_lt _ (by omega)) hA
  · intro i hi ih no
    refine A_Mo_nextByDay_3 (m_turnRound (by omega) hR hd0 ?_)
    rw [nI_l (by omega), lN_add, lg_ge, pk_lLE (by omega) (by omega)]
    refine ⟨fun g => absurd g (by omega), fun _ => m_doAll (by omega) hR.x hR.al hR.ok hR.tk hs (by omega) (tI_b (fun g => ?_) (fun g => ?_))⟩
    · rw [kL, lg_le, pk_lLE (by omega) (by omega)]
      have no2 : ∀ y, h ≤ y → y < h + i → ¬ allSpk T S set y = true := fun y hy1 hy2 => by
        have := no (y - h) (by omega)
        rwa [show h + (y - h) = y by omega] at this
      exact ⟨fun g2 => hQ _ (Or.inr ⟨h + i, by omega, g, no2, by rw [if_pos g2]⟩), fun g2 => hQ _ (Or.inr ⟨h + i, by omega, g, no2, by rw [if_neg g2]⟩)⟩
    · rw [show (1 : Int64) = lN 1 from rfl, lN_add]
      refine ih (fun j hj => ?_)
      by_cases e : j = i
      · subst e; rw [g]; decide
      · exact no j (by omega)
theorem rQ_of (hX : rM w N K T Z) (t : tkA w T N) : rQ w N K T Z N := rQ.mk hX (alike_rf N) hX.okn t
theorem fr_frM {w w' : qW} (h : frM w w') : fr (fun c => c = 72) w w' := fun c hc => ⟨by rw [h.1], h.2 c hc⟩
theorem m_next {set : Int32} {h : Int64} (hd : 6 ≤ d) (hX : rM w N K T Z) (hy : ∀ w' r, vNxt N set h → nxF T N (qIx set) h.toNatClampNeg r → rM w' N K T Z → fr (fun c => 72 ≤ c) w w' → QL r w') (hn : ¬ vNxt N set h → QL (-1) w) : qCall (some s) d 264 [.ref 72, .int set, .long h] w (qQl QL) := by
  obtain ⟨d, rfl, hd1⟩ := dS hd
  have o := hX.okn
  have o0 := o.p12
  have od := o.day
  have hL := tL
  refine A_Mo_next (m_isSet (by omega) hX.n.ppl o0 (fun g1 => b1 (m_isHour (by omega) (fun g2 => n1 ?_) (fun g => n0 (hn (fun q => g q.2))))) (fun g => b0 (hn (fun q => g q.1))))
  have g : vNxt N set h := ⟨g1, g2⟩
  obtain ⟨m, h1, h2, h3, e, e2⟩ := vSet_x o0 g1
  obtain ⟨a, ha, ea, ea2⟩ := vHour_x g2
  rw [e2, ea2] at hy
  subst e ea
  refine m_take' hd1 hX ?_
  intro w2 f2 hX2 t2
  have f2' : fr (fun c => 72 ≤ c) w w2 := fr_wk f2 (fun c hc => by omega)
  have hR := rQ_of hX2 t2
  rw [show qIx (1 : Int32) = 1 from rfl, hR.day, show (nI (N 1 0) ≤ (0 : Int32)) ↔ N 1 0 ≤ 0 from nI_leI (b := 0) (by omega) (by omega)]
  refine ⟨qIn_nI (j := 1) (by decide) (by decide), fun gd => ?_, fun gd => m_nextByDay (by omega) hR h3 (by omega) (by omega) ?_⟩
  · refine m_areJoined (by omega) hX2 (alike_rf N) t2 o h3 (tI_n (fun gp => ?_) (fun gp => ?_))
    · refine m_next0 (by omega) hR h3 (by omega) (of_decide_eq_true gp) (by omega) ?_
      intro w3 r f3 q
      exact hy w3 r g ⟨fun _ => q, fun g => absurd (by omega) g⟩ (hX2.frM f3) (fr_tr f2' (fr_wk (fr_frM f3) (fun c hc => by omega)))
    · exact hy w2 _ g ⟨fun _ => Or.inl ⟨fun rc => (of_decide_eq_false gp) rc.1, rfl⟩, fun g => absurd (by omega) g⟩ hX2 f2'
  · intro r q
    exact hy w2 r g ⟨fun g => absurd g (by omega), fun _ => q⟩ hX2 f2'
end Ref1
