/-! apart: what is asked, and the reference's search. -/
section Apart
variable {s : Nat × (Nat → Int32)} {d : Nat} {w : qW} {Q : Int32 → qW → Prop} {R : qW → Prop} {N S K : vS} {T : Nat → vT} {Z : vZ}
/-- v for the one at i is apart from those ahead -/
def cns (n : Nat → Nat) (i v : Nat) (x : Nat → Nat) : Bool := (List.range i).all fun j => !decide (((Nat.gcd (n i) (n j) : Nat) : Int) ∣ (v : Int) - (x j : Int))
def upx (x : Nat → Nat) (i v : Nat) : Nat → Nat := fun j => if j = i then v else x j
def fnd (n B : Nat → Nat) : Nat → Nat → (Nat → Nat) → Option (Nat → Nat)
  | 0, _, x => some x
  | f + 1, i, x => (List.range (B i)).findSome? fun v => if cns n i v x = true then fnd n B f (i + 1) (upx x i v) else none
def fnG (n B : Nat → Nat) (f i : Nat) (x : Nat → Nat) (v : Nat) : Option (Nat → Nat) := if cns n i v x = true then fnd n B f (i + 1) (upx x i v) else none
theorem fnd_s (n B : Nat → Nat) (f i : Nat) (x : Nat → Nat) : fnd n B (f + 1) i x = (List.range (B i)).findSome? (fnG n B f i x) := rfl
theorem fso_none {g : Nat → Option (Nat → Nat)} {m : Nat} (h : ∀ u, u < m → g u = none) : (List.range m).findSome? g = none := by
  rw [List.findSome?_eq_none_iff]
  intro u hu
  exact h u (List.mem_range.mp hu)
theorem fso_some {g : Nat → Option (Nat → Nat)} {m v : Nat} {y : Nat → Nat} (hv : v < m) (h : ∀ u, u < v → g u = none) (hy : g v = some y) : (List.range m).findSome? g = some y := by
  have e : List.range m = List.range v ++ (v :: (List.range (m - v - 1)).map (fun t => v + 1 + t)) := by
    have h1 : m = v + ((m - v - 1) + 1) := by omega
    conv => lhs; rw [h1, List.range_add, List.range_succ_eq_map]
    rw [List.map_cons, List.map_map, Nat.add_zero]
    congr 2
    apply List.map_congr_left
    intro t _
    show v + (t + 1) = v + 1 + t
    omega
  rw [e, List.findSome?_append, fso_none h, Option.none_or, List.findSome?_cons, hy]
theorem nI_m1 {i : Nat} (h1 : 1 ≤ i) (h2 : i < 2 ^ 31) : nI i + (-1 : Int32) = nI (i - 1) := by
  obtain ⟨k, rfl⟩ : ∃ k, i = k + 1 := ⟨i - 1, by omega⟩
  rw [← nI_1, Nat.add_sub_cancel]
  show nI k + 1 + -1 = nI k
  rw [Int32.add_assoc, show (1 : Int32) + -1 = 0 from by decide, Int32.add_zero]
theorem cns_t {n : Nat → Nat} {i v : Nat} {x : Nat → Nat} : cns n i v x = true ↔ ∀ j, j < i → ¬ ((Nat.gcd (n i) (n j) : Nat) : Int) ∣ (v : Int) - (x j : Int) := by
  unfold cns
  rw [List.all_eq_true]
  refine ⟨fun h j hj q => ?_, fun h j hj => ?_⟩
  · have := h j (List.mem_range.mpr hj)
    rw [decide_eq_true q] at this
    exact Bool.noConfusion this
  · rw [decide_eq_false (h j (List.mem_range.mp hj))]; rfl
/-! the reference -/
def apR (w : qW) (p : Nat) (mb : Nat → Nat) (n : Nat → Nat) : Prop := (1 ≤ p ∧ p ≤ 5) ∧ (∀ i, i < p → w.1 95 i = nI (mb i) ∧ mb i < 12) ∧ (∀ i, i < p → w.1 83 (mb i) = nI (n i) ∧ 1 ≤ n i ∧ n i ≤ 60)
theorem apR.p1 {w : qW} {p : Nat} {mb : Nat → Nat} {n : Nat → Nat} (h : apR w p mb n) : 1 ≤ p ∧ p ≤ 5 := h.1
theorem apR.mem {w : qW} {p : Nat} {mb : Nat → Nat} {n : Nat → Nat} (h : apR w p mb n) : ∀ i, i < p → w.1 95 i = nI (mb i) ∧ mb i < 12 := h.2.1
theorem apR.num {w : qW} {p : Nat} {mb : Nat → Nat} {n : Nat → Nat} (h : apR w p mb n) : ∀ i, i < p → w.1 83 (mb i) = nI (n i) ∧ 1 ≤ n i ∧ n i ≤ 60 := h.2.2
theorem apR.mk {w : qW} {p : Nat} {mb : Nat → Nat} {n : Nat → Nat} (f_p1 : 1 ≤ p ∧ p ≤ 5) (f_mem : ∀ i, i < p → w.1 95 i = nI (mb i) ∧ mb i < 12) (f_num : ∀ i, i < p → w.1 83 (mb i) = nI (n i) ∧ 1 ≤ n i ∧ n i ≤ 60) : apR w p mb n := ⟨f_p1, f_mem, f_num⟩
theorem apR.fr {w' : qW} {p : Nat} {mb n : Nat → Nat} (h : apR w p mb n) (f : fr (fun c => c = 94 ∨ c = 96) w w') : apR w' p mb n := by
  refine apR.mk h.p1 (fun i hi => ?_) (fun i hi => ?_)
  · rw [(f 95 (by omega)).1]; exact h.mem i hi
  · rw [(f 83 (by omega)).1]; exact h.num i hi
def apG (w : qW) (p : Nat) (n : Nat → Nat) : Prop := ∀ i j, j < i → i < p → w.1 96 (5 * i + j) = nI (Nat.gcd (n i) (n j))
theorem m_isApart {p i v : Nat} {mb n x : Nat → Nat} (hd : 1 ≤ d) (hR : apR w p mb n) (hG : apG w p n) (hi : i < p) (hv : w.1 94 i = nI v) (v60 : v ≤ 60) (hx : ∀ j, j < i → w.1 94 j = nI (x j) ∧ x j ≤ 60) (hQ : Q (tI (cns n i v x)) w) : qCall (some s) d 311 [.ref 72, .int (nI i)] w (qQi Q) := by
  obtain ⟨d, rfl, -⟩ := dS hd
  have p5 := hR.p1
  refine A_Mo_isApart ?_
  refine lpN (i := 0) (n := i) (P := fun k => (∀ j, j < k → ¬ ((Nat.gcd (n i) (n j) : Nat) : Int) ∣ (v : Int) - (x j : Int)) → qAt s d c_Mo_isApart (qQi Q) 2 [some (.ref 72), some (.int (nI i)), some (.int (nI k))] [] w) ?_ ?_ (Nat.zero_le _) (fun j hj => absurd hj (Nat.not_lt_zero _))
  · intro h
    rw [cns_t.mpr h] at hQ
    exact A_Mo_isApart_2 ⟨fun _ => hQ, fun g => absurd (Int32.le_refl _) g⟩
  · intro k hk ih h
    have ni := (hR.num i hi).2
    have nk := (hR.num k (by omega)).2
    have xk := hx k hk
    have gb := gcd_b ni.1 nk.1 (by omega)
    have gl : Nat.gcd (n i) (n k) ≤ n i := Nat.gcd_le_left _ ni.1
    refine A_Mo_isApart_2 ?_
    rw [nI_leI (by omega) (by omega), show (5 : Int32) = nI 5 from rfl, nI_mul', nI_add, qIx_nI (by omega), qIx_nI (by omega), qIx_nI (by omega), hv, xk.1, hG i k hk hi, rem0i (by omega) (by omega) gb.1 (by omega), eq0 (by omega), nI_1]
    refine ⟨fun g => by omega, fun _ => ⟨qIn_nI (by omega) (by decide), qIn_nI (by omega) (by decide), qIn_nI (by omega) (by decide), by omega, fun g => ih (fun j hj => ?_), fun g => ?_⟩⟩
    · by_cases e : j = k
      · subst e; exact g
      · exact h j (by omega)
    · have : cns n i v x = false := by
        cases e : cns n i v x with
        | false => rfl
        | true => exact absurd g (cns_t.mp e k hk)
      rw [this] at hQ; exact hQ
theorem m_fnd {p : Nat} {mb n : Nat → Nat} {w0 : qW} (hd : 1 ≤ d) (hR : apR w0 p mb n) (hG : apG w0 p n) : ∀ f i x v w, i + (f + 1) = p → 1 ≤ i → fr (fun c => c = 94) w0 w → (∀ j, j < i → w.1 94 j = nI (x j) ∧ x j ≤ 59) → w.1 94 i = nI v → v ≤ n i → (∀ u, u < v → fnG n n f i x u = none) →
    (∀ y w', fnd n n (f + 1) i x = some y → fr (fun c => c = 94) w0 w' → (∀ j, j < p → w'.1 94 j = nI (y j)) → Q 1 w') →
    (∀ w', fnd n n (f + 1) i x = none → fr (fun c => c = 94) w0 w' → (∀ j, j < i - 1 → w'.1 94 j = nI (x j)) → w'.1 94 (i - 1) = nI (x (i - 1) + 1) → qAt s d c_Mo_findApart (qQi Q) 87 [some (.ref 72), some (.int (nI p)), some (.int (nI (i - 1))), none] [] w') →
    qAt s d c_Mo_findApart (qQi Q) 92 [some (.ref 72), some (.int (nI p)), some (.int (nI i)), none] [] w := by
  intro f
  induction f with
  | zero =>
    intro i x v w hp hi fw hx hv hvn hu hs hf
    have p5 := hR.p1
    have inner : ∀ t v w, n i - v = t → fr (fun c => c = 94) w0 w → (∀ j, j < i → w.1 94 j = nI (x j) ∧ x j ≤ 59) → w.1 94 i = nI v → v ≤ n i → (∀ u, u < v → fnG n n 0 i x u = none) → qAt s d c_Mo_findApart (qQi Q) 92 [some (.ref 72), some (.int (nI p)), some (.int (nI i)), none] [] w := by
      intro t
      induction t with
      | zero =>
        intro v w ht fw hx hv hvn hu
        have r := hR.fr (fr_wk fw (fun c hc => Or.inl hc))
        have m := r.mem i (by omega)
        have nu := r.num i (by omega)
        have ev : v = n i := by omega
        refine A_Mo_findApart_92 ?_
        rw [qIx_nI (by omega), m.1, qIx_nI (by omega), nu.1, hv, nI_leI (by omega) (by omega)]
        refine ⟨qIn_nI (by omega) (by decide), qIn_nI (by omega) (by decide), qIn_nI (by omega) (by decide), fun _ => A_Mo_findApart_133 ?_, fun g => by omega⟩
        rw [qIx_nI (by omega), m.1, qIx_nI (by omega), nu.1, hv, nI_eq (by omega) (by omega), show (nI i + (-1 : Int32)) = nI (i - 1) from nI_m1 hi (by omega), qIx_nI (by omega), (hx (i - 1) (by omega)).1, nI_1]
        refine ⟨qIn_nI (by omega) (by decide), qIn_nI (by omega) (by decide), qIn_nI (by omega) (by decide), fun g => absurd ev g, fun _ => ⟨qIn_nI (by omega) (by decide), qIn_nI (by omega) (by decide), hf _ ?_ (fr_I fw rfl) (fun j hj => ?_) ?_⟩⟩
        · rw [fnd_s]; exact fso_none (fun u hu2 => hu u (by omega))
        · rw [pI_f (by omega)]; exact (hx j (by omega)).1
        · rw [pI_e, nI_1]
      | succ t ih =>
        intro v w ht fw hx hv hvn hu
        have r := hR.fr (fr_wk fw (fun c hc => Or.inl hc))
        have m := r.mem i (by omega)
        have nu := r.num i (by omega)
        have g0 : apG w p n := fun a b h1 h2 => by rw [(fw 96 (by omega)).1]; exact hG a b h1 h2
        refine A_Mo_findApart_92 ?_
        rw [qIx_nI (by omega), m.1, qIx_nI (by omega), nu.1, hv, nI_leI (by omega) (by omega)]
        refine ⟨qIn_nI (by omega) (by decide), qIn_nI (by omega) (by decide), qIn_nI (by omega) (by decide), fun g => by omega, fun _ => m_isApart (x := x) hd r g0 (by omega) hv (by omega) (fun j hj => ⟨(hx j hj).1, by have := (hx j hj).2; omega⟩) ?_⟩
        cases e : cns n i v x with
        | false =>
          refine ⟨fun q => absurd rfl q, fun _ => ⟨qIn_nI (by omega) (by decide), qIn_nI (by omega) (by decide), ?_⟩⟩
          rw [hv, nI_1]
          refine ih (v + 1) _ (by omega) (fr_I fw rfl) (fun j hj => ?_) (by rw [pI_e]) (by omega) (fun u hu2 => ?_)
          · rw [pI_f (by omega)]; exact hx j hj
          · by_cases eu : u = v
            · subst eu
              unfold fnG
              rw [if_neg (by rw [e]; exact fun q => Bool.noConfusion q)]
            · exact hu u (by omega)
        | true =>
          refine ⟨fun _ => A_Mo_findApart_133 ?_, fun q => absurd q (by decide)⟩
          rw [qIx_nI (by omega), m.1, qIx_nI (by omega), nu.1, hv, nI_eq (by omega) (by omega), show (nI p - (1 : Int32)) = nI p - nI 1 from rfl, nI_sub' (by omega), nI_eq (by omega) (by omega)]
          refine ⟨qIn_nI (by omega) (by decide), qIn_nI (by omega) (by decide), qIn_nI (by omega) (by decide), fun _ => ⟨fun g => absurd (by omega) g, fun _ => hs (upx x i v) w ?_ fw (fun j hj => ?_)⟩, fun g => by omega⟩
          · rw [fnd_s]
            refine fso_some (v := v) (by omega) hu ?_
            unfold fnG
            rw [if_pos e]; rfl
          · unfold upx
            by_cases ej : j = i
            · subst ej; rw [if_pos rfl]; exact hv
            · rw [if_neg ej]; exact (hx j (by omega)).1
    exact inner _ v w rfl fw hx hv hvn hu
  | succ f ihf =>
    intro i x v w hp hi fw hx hv hvn hu hs hf
    have p5 := hR.p1
    have inner : ∀ t v w, n i - v = t → fr (fun c => c = 94) w0 w → (∀ j, j < i → w.1 94 j = nI (x j) ∧ x j ≤ 59) → w.1 94 i = nI v → v ≤ n i → (∀ u, u < v → fnG n n (f + 1) i x u = none) → qAt s d c_Mo_findApart (qQi Q) 92 [some (.ref 72), some (.int (nI p)), some (.int (nI i)), none] [] w := by
      intro t
      induction t with
      | zero =>
        intro v w ht fw hx hv hvn hu
        have r := hR.fr (fr_wk fw (fun c hc => Or.inl hc))
        have m := r.mem i (by omega)
        have nu := r.num i (by omega)
        have ev : v = n i := by omega
        refine A_Mo_findApart_92 ?_
        rw [qIx_nI (by omega), m.1, qIx_nI (by omega), nu.1, hv, nI_leI (by omega) (by omega)]
        refine ⟨qIn_nI (by omega) (by decide), qIn_nI (by omega) (by decide), qIn_nI (by omega) (by decide), fun _ => A_Mo_findApart_133 ?_, fun g => by omega⟩
        rw [qIx_nI (by omega), m.1, qIx_nI (by omega), nu.1, hv, nI_eq (by omega) (by omega), show (nI i + (-1 : Int32)) = nI (i - 1) from nI_m1 hi (by omega), qIx_nI (by omega), (hx (i - 1) (by omega)).1, nI_1]
        refine ⟨qIn_nI (by omega) (by decide), qIn_nI (by omega) (by decide), qIn_nI (by omega) (by decide), fun g => absurd ev g, fun _ => ⟨qIn_nI (by omega) (by decide), qIn_nI (by omega) (by decide), hf _ ?_ (fr_I fw rfl) (fun j hj => ?_) ?_⟩⟩
        · rw [fnd_s]; exact fso_none (fun u hu2 => hu u (by omega))
        · rw [pI_f (by omega)]; exact (hx j (by omega)).1
        · rw [pI_e, nI_1]
      | succ t ih =>
        intro v w ht fw hx hv hvn hu
        have r := hR.fr (fr_wk fw (fun c hc => Or.inl hc))
        have m := r.mem i (by omega)
        have nu := r.num i (by omega)
        have g0 : apG w p n := fun a b h1 h2 => by rw [(fw 96 (by omega)).1]; exact hG a b h1 h2
        refine A_Mo_findApart_92 ?_
        rw [qIx_nI (by omega), m.1, qIx_nI (by omega), nu.1, hv, nI_leI (by omega) (by omega)]
        refine ⟨qIn_nI (by omega) (by decide), qIn_nI (by omega) (by decide), qIn_nI (by omega) (by decide), fun g => by omega, fun _ => m_isApart (x := x) hd r g0 (by omega) hv (by omega) (fun j hj => ⟨(hx j hj).1, by have := (hx j hj).2; omega⟩) ?_⟩
        have more : ∀ w', fnG n n (f + 1) i x v = none → fr (fun c => c = 94) w0 w' → (∀ j, j < i → w'.1 94 j = nI (x j)) → w'.1 94 i = nI (v + 1) → qAt s d c_Mo_findApart (qQi Q) 92 [some (.ref 72), some (.int (nI p)), some (.int (nI i)), none] [] w' := by
          intro w' gn f' hx' hv'
          refine ih (v + 1) w' (by omega) f' (fun j hj => ⟨hx' j hj, (hx j hj).2⟩) hv' (by omega) (fun u hu2 => ?_)
          by_cases eu : u = v
          · subst eu; exact gn
          · exact hu u (by omega)
        cases e : cns n i v x with
        | false =>
          refine ⟨fun q => absurd rfl q, fun _ => ⟨qIn_nI (by omega) (by decide), qIn_nI (by omega) (by decide), ?_⟩⟩
          rw [hv, nI_1]
          refine more _ ?_ (fr_I fw rfl) (fun j hj => ?_) (by rw [pI_e])
          · unfold fnG
            rw [if_neg (by rw [e]; exact fun q => Bool.noConfusion q)]
          · rw [pI_f (by omega)]; exact (hx j hj).1
        | true =>
          have ge : fnG n n (f + 1) i x v = fnd n n (f + 1) (i + 1) (upx x i v) := by
            unfold fnG
            rw [if_pos e]
          refine ⟨fun _ => A_Mo_findApart_133 ?_, fun q => absurd q (by decide)⟩
          rw [qIx_nI (by omega), m.1, qIx_nI (by omega), nu.1, hv, nI_eq (by omega) (by omega), show (nI p - (1 : Int32)) = nI p - nI 1 from rfl, nI_sub' (by omega), nI_eq (by omega) (by omega), nI_1 i, qIx_nI (by omega)]
          refine ⟨qIn_nI (by omega) (by decide), qIn_nI (by omega) (by decide), qIn_nI (by omega) (by decide), fun _ => ⟨fun _ => ⟨qIn_nI (by omega) (by decide), A_Mo_findApart_87 ?_⟩, fun g => by omega⟩, fun g => by omega⟩
          rw [show (1 : Int32) = nI 1 from rfl, nI_ltI (by omega) (by omega)]
          refine ⟨fun g => by omega, fun _ => ?_⟩
          have ux : ∀ j, j < i + 1 → (qPutI w 94 (i + 1) (0 : Int32)).1 94 j = nI (upx x i v j) ∧ upx x i v j ≤ 59 := by
            intro j hj
            rw [pI_f (by omega)]
            unfold upx
            by_cases ej : j = i
            · subst ej; rw [if_pos rfl]; exact ⟨hv, by omega⟩
            · rw [if_neg ej]; exact hx j (by omega)
          refine ihf (i + 1) (upx x i v) 0 _ (by omega) (by omega) (fr_I fw rfl) ux (by rw [pI_e]; rfl) (Nat.zero_le _) (fun u hu2 => absurd hu2 (Nat.not_lt_zero _)) (fun y w' hy f' h' => ?_) (fun w' hy f' h1 h2 => ?_)
          · refine hs y w' ?_ f' h'
            rw [fnd_s]
            exact fso_some (v := v) (by omega) hu (by rw [ge]; exact hy)
          · rw [Nat.add_sub_cancel] at h1 h2 ⊢
            have ui : upx x i v i = v := if_pos rfl
            rw [ui] at h2
            refine A_Mo_findApart_87 ?_
            rw [show (1 : Int32) = nI 1 from rfl, nI_ltI (by omega) (by omega)]
            refine ⟨fun g => by omega, fun _ => more w' (by rw [ge]; exact hy) f' (fun j hj => ?_) h2⟩
            have uj : upx x i v j = x j := if_neg (by omega)
            have := h1 j hj
            rw [uj] at this
            exact this
    exact inner _ v w rfl fw hx hv hvn hu
end Apart
