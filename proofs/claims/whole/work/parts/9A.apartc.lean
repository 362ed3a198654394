/-! apart: a first below the span is enough. -/
section ApartC
variable {n B : Nat → Nat} {p : Nat}
theorem fso_cs {g : Nat → Option (Nat → Nat)} : ∀ m, (∀ u, u < m → g u = none) ∨ ∃ v y, v < m ∧ (∀ u, u < v → g u = none) ∧ g v = some y
  | 0 => Or.inl (fun u hu => absurd hu (Nat.not_lt_zero _))
  | m + 1 => by
    rcases fso_cs (g := g) m with h | ⟨v, y, h1, h2, h3⟩
    · cases e : g m with
      | none =>
        refine Or.inl (fun u hu => ?_)
        by_cases q : u = m
        · subst q; exact e
        · exact h u (by omega)
      | some y => exact Or.inr ⟨m, y, by omega, h, e⟩
    · exact Or.inr ⟨v, y, by omega, h2, h3⟩
theorem fso_per {g : Nat → Option (Nat → Nat)} {q m : Nat} (h1 : 1 ≤ m) (h2 : m ≤ q) (hp : ∀ v, g (v % m) = none → g v = none) : (List.range q).findSome? g = (List.range m).findSome? g := by
  rcases fso_cs (g := g) m with h | ⟨v, y, k1, k2, k3⟩
  · rw [fso_none h, fso_none (fun u _ => hp u (h _ (Nat.mod_lt _ h1)))]
  · rw [fso_some k1 k2 k3, fso_some (Nat.lt_of_lt_of_le k1 h2) k2 k3]
theorem cns_sim {i v : Nat} {x x' : Nat → Nat} (h : ∀ j, j < i → ((Nat.gcd (n i) (n j) : Nat) : Int) ∣ (x j : Int) - (x' j : Int)) (hc : cns n i v x = true) : cns n i v x' = true := by
  rw [cns_t] at hc ⊢
  intro j hj q
  refine hc j hj ?_
  have e : (v : Int) - (x j : Int) = ((v : Int) - (x' j : Int)) - ((x j : Int) - (x' j : Int)) := by omega
  rw [e]
  exact Int.dvd_sub q (h j hj)
/-- whether there is an answer depends on those ahead only by what they share -/
theorem fnd_sim : ∀ f i (x x' : Nat → Nat), i + f = p → (∀ k j, i ≤ k → k < p → j < i → ((Nat.gcd (n k) (n j) : Nat) : Int) ∣ (x j : Int) - (x' j : Int)) → fnd n B f i x' = none → fnd n B f i x = none
  | 0, _, x, x', _, _, h => absurd (show some x' = none from h) (fun q => by cases q)
  | f + 1, i, x, x', hf, hs, h => by
    rw [fnd_s] at h ⊢
    rw [List.findSome?_eq_none_iff] at h
    refine fso_none (fun u hu => ?_)
    have hu2 := h u (List.mem_range.mpr hu)
    unfold fnG at hu2 ⊢
    by_cases e : cns n i u x = true
    · rw [if_pos e]
      rw [if_pos (cns_sim (fun j hj => hs i j (Nat.le_refl _) (by omega) hj) e)] at hu2
      refine fnd_sim f (i + 1) (upx x i u) (upx x' i u) (by omega) (fun k j hk hk2 hj => ?_) hu2
      unfold upx
      by_cases ej : j = i
      · rw [if_pos ej, if_pos ej, Int.sub_self]; exact Int.dvd_zero _
      · rw [if_neg ej, if_neg ej]; exact hs k j (by omega) hk2 (by omega)
    · rw [if_neg e]
theorem mod_dvd {m v : Nat} {g : Int} (h : g ∣ (m : Int)) : g ∣ ((v % m : Nat) : Int) - (v : Int) := by
  have e2 : (v : Int) = ((v % m : Nat) : Int) + (m : Int) * ((v / m : Nat) : Int) := by
    rw [← Int.natCast_mul, ← Int.natCast_add, Nat.mod_add_div]
  have e : ((v % m : Nat) : Int) - (v : Int) = -((m : Int) * ((v / m : Nat) : Int)) := by omega
  rw [e]
  exact Int.dvd_neg.mpr (Int.dvd_mul_of_dvd_left h)
theorem fnd_B (hB : ∀ i, i < p → 1 ≤ B i ∧ B i ≤ n i ∧ ∀ j, j < p → ¬ j = i → Nat.gcd (n i) (n j) ∣ B i) : ∀ f i (x : Nat → Nat), i + f = p → fnd n n f i x = fnd n B f i x
  | 0, _, _, _ => rfl
  | f + 1, i, x, hf => by
    have b := hB i (by omega)
    have e : fnG n n f i x = fnG n B f i x := by
      funext v
      unfold fnG
      rw [fnd_B hB f (i + 1) (upx x i v) (by omega)]
    rw [fnd_s, fnd_s, e]
    refine fso_per b.1 b.2.1 (fun v hv => ?_)
    unfold fnG at hv ⊢
    by_cases c : cns n i v x = true
    · rw [if_pos c]
      have c2 : cns n i (v % B i) x = true := by
        rw [cns_t] at c ⊢
        intro j hj q
        refine c j hj ?_
        have d1 : ((Nat.gcd (n i) (n j) : Nat) : Int) ∣ (B i : Int) := Int.natCast_dvd_natCast.mpr (b.2.2 j (by omega) (by omega))
        have d2 := mod_dvd (v := v) d1
        have e : (v : Int) - (x j : Int) = (((v % B i : Nat) : Int) - (x j : Int)) - (((v % B i : Nat) : Int) - (v : Int)) := by omega
        rw [e]
        exact Int.dvd_sub q d2
      rw [if_pos c2] at hv
      refine fnd_sim (p := p) f (i + 1) (upx x i v) (upx x i (v % B i)) (by omega) (fun k j hk hk2 hj => ?_) hv
      unfold upx
      by_cases ej : j = i
      · rw [if_pos ej, if_pos ej]
        subst ej
        have d1 : ((Nat.gcd (n k) (n j) : Nat) : Int) ∣ (B j : Int) := Int.natCast_dvd_natCast.mpr (by rw [Nat.gcd_comm]; exact b.2.2 k hk2 (by omega))
        have d2 := mod_dvd (v := v) d1
        have e : (v : Int) - ((v % B j : Nat) : Int) = -(((v % B j : Nat) : Int) - (v : Int)) := by omega
        rw [e]
        exact Int.dvd_neg.mpr d2
      · rw [if_neg ej, if_neg ej, Int.sub_self]; exact Int.dvd_zero _
    · rw [if_neg c]
end ApartC
