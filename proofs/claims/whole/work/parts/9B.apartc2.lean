/-! apart: the class: may they be parted, and the spans. -/
section ApartC2
variable {s : Nat × (Nat → Int32)} {d : Nat} {w : qW} {Q : Int32 → qW → Prop} {R : qW → Prop} {N S K : vS} {T : Nat → vT} {Z : vZ}
theorem c_canPart {L : Nat} (hd : 2 ≤ d) (hX : rX w N K T Z) (hL : L < 4096) (hy : (cntB L ≤ 5 ∧ ∀ i, i < N 0 0 → L.testBit i = true → N 10 i ≤ 60) → Q 1 w) (hn : ¬ (cntB L ≤ 5 ∧ ∀ i, i < N 0 0 → L.testBit i = true → N 10 i ≤ 60) → Q 0 w) : qCall (some s) d 172 [.ref 61, .int (nI L)] w (qQi Q) := by
  obtain ⟨d, rfl, hd1⟩ := dS hd
  have o := hX.okn
  have o0 := o.p12
  have cl := cntB_le L
  refine A_Searches_canPart (c_bitCount (by omega) hL ?_)
  rw [show (5 : Int32) = nI 5 from rfl, nI_leI (by omega) (by omega)]
  refine ⟨fun g5 => ?_, fun g5 => hn (fun q => g5 q.1)⟩
  refine lpN (i := 0) (n := N 0 0) (P := fun k => (∀ i, i < k → L.testBit i = true → N 10 i ≤ 60) → qAt s d c_Searches_canPart (qQi Q) 12 [some (.ref 61), some (.int (nI L)), some (.int (nI k))] [] w) ?_ ?_ (Nat.zero_le _) (fun i hi => absurd hi (Nat.not_lt_zero _))
  · intro h
    refine A_Searches_canPart_12 ?_
    rw [hX.n.ppl, nI_leI (by omega) (by omega)]
    exact ⟨fun _ => hy ⟨g5, h⟩, fun g => absurd (Nat.le_refl _) g⟩
  · intro k hk ih h
    have on := o.num k hk
    refine A_Searches_canPart_12 ?_
    rw [hX.n.ppl, nI_leI (by omega) (by omega), nI_1, qIx_nI (by omega)]
    refine ⟨fun g => by omega, fun _ => c_isOfB (by omega) (by omega) (fun g => b1 ⟨qIn_nI (by omega) (by decide), ?_⟩) (fun g => b0 (ih (fun i hi hb => ?_)))⟩
    · rw [mem12_nI (by omega)] at g
      rw [hX.n.num k hk, show (60 : Int32) = nI 60 from rfl, nI_leI (by omega) (by omega)]
      refine ⟨fun g2 => ih (fun i hi hb => ?_), fun g2 => hn (fun q => g2 (q.2 k hk g))⟩
      by_cases e : i = k
      · subst e; exact g2
      · exact h i (by omega) hb
    · rw [mem12_nI (by omega)] at g
      by_cases e : i = k
      · subst e; rw [g] at hb; exact Bool.noConfusion hb
      · exact h i (by omega) hb
/-- the lcm of what one shares with the others of a set, among the first k -/
def spO (S : vS) (L m : Nat) : Nat → Nat
  | 0 => 1
  | k + 1 => if L.testBit k = true ∧ ¬ k = m then Nat.lcm (spO S L m k) (Nat.gcd (S 10 m) (S 10 k)) else spO S L m k
theorem spO_q {L m : Nat} : ∀ k, spO S L m k ∣ S 10 m
  | 0 => Nat.one_dvd _
  | k + 1 => by
    unfold spO
    split
    · exact Nat.lcm_dvd (spO_q k) (Nat.gcd_dvd_left _ _)
    · exact spO_q k
theorem spO_p {L m : Nat} : ∀ {k p : Nat}, p < k → L.testBit p = true → ¬ p = m → Nat.gcd (S 10 m) (S 10 p) ∣ spO S L m k
  | 0, p, h, _, _ => absurd h (Nat.not_lt_zero _)
  | k + 1, p, h, hb, hm => by
    unfold spO
    by_cases e : p = k
    · subst e
      rw [if_pos ⟨hb, hm⟩]
      exact Nat.dvd_lcm_right _ _
    · have := spO_p (k := k) (by omega) hb hm
      split
      · exact Nat.dvd_trans this (Nat.dvd_lcm_left _ _)
      · exact this
theorem c_spanOf {L m : Nat} (hd : 3 ≤ d) (hX : rX w N K T Z) (hL : L < 4096) (hm : m < N 0 0) (hQ : Q (nI (spO N L m (N 0 0))) w) : qCall (some s) d 174 [.ref 61, .int (nI m), .int (nI L)] w (qQi Q) := by
  obtain ⟨d, rfl, hd1⟩ := dS hd
  have o := hX.okn
  have o0 := o.p12
  have om := o.num m hm
  have sb : ∀ k, 1 ≤ spO N L m k ∧ spO N L m k ≤ 9999 := fun k => ⟨Nat.pos_of_dvd_of_pos (spO_q k) om.1, Nat.le_trans (Nat.le_of_dvd om.1 (spO_q k)) om.2⟩
  refine A_Searches_spanOf ?_
  refine lpN (i := 0) (n := N 0 0) (P := fun k => qAt s d c_Searches_spanOf (qQi Q) 5 [some (.ref 61), some (.int (nI m)), some (.int (nI L)), some (.long (lN (spO N L m k))), none, some (.int (nI k))] [] w) ?_ ?_ (Nat.zero_le _)
  · refine A_Searches_spanOf_5 ?_
    rw [hX.n.ppl, nI_leI (by omega) (by omega), lN_i]
    exact ⟨fun _ => hQ, fun g => absurd (Nat.le_refl _) g⟩
  · intro k hk ih
    have on := o.num k hk
    have b := sb k
    have gb := gcd_b om.1 on.1 on.2
    refine A_Searches_spanOf_5 ?_
    rw [hX.n.ppl, nI_leI (by omega) (by omega), nI_1, nI_eq (by omega) (by omega), qIx_nI (by omega), qIx_nI (by omega)]
    refine ⟨fun g => by omega, fun _ => ⟨fun g => ?_, fun g => c_isOfB (by omega) (by omega) (fun g2 => b1 ⟨qIn_nI (by omega) (by decide), qIn_nI (by omega) (by decide), ?_⟩) (fun g2 => b0 ?_)⟩⟩
    · have e : spO N L m (k + 1) = spO N L m k := if_neg (fun q => q.2 g)
      rw [← e]; exact ih
    · rw [mem12_nI (by omega)] at g2
      rw [hX.n.num m hm, hX.n.num k hk, nI_l (by omega), nI_l (by omega)]
      refine c_gcd (by omega) (by omega) (by omega) (c_lcm (by omega) (by omega) (by omega) ?_)
      have e : spO N L m (k + 1) = Nat.lcm (spO N L m k) (Nat.gcd (N 10 m) (N 10 k)) := if_pos ⟨g2, g⟩
      rw [← e]; exact ih
    · rw [mem12_nI (by omega)] at g2
      have e : spO N L m (k + 1) = spO N L m k := if_neg (fun q => by rw [g2] at q; exact Bool.noConfusion q.1)
      rw [← e]; exact ih
end ApartC2
