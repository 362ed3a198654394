/-! text: clauses, what is asked. -/
section Clauses
variable {Z : vZ} {a : Nat}
def xNu (Z : vZ) (lo hi a : Nat) : Except (Nat × Nat) (Nat × Nat) := if (yT Z a).1 = 1 then (if lo ≤ (yT Z a).2.1 ∧ (yT Z a).2.1 ≤ hi then .ok ((yT Z a).2.1, yN Z a) else .error (2, (yT Z a).2.2)) else .error (1, (yT Z a).2.2)
abbrev xC : Type := Nat × Nat × Nat × List (Nat × Nat)
def xMx (k : Nat) : Nat := if k = 3 then 9999 else 11
def xLo (k : Nat) : Nat := if k = 3 then 1 else 0
/-- what stands between the two numbers -/
def xBt (Z : vZ) (k r : Nat) : Bool := if k = 3 then decide ((yT Z r).1 = 2 ∧ (yT Z r).2.1 = 5) else decide ((yT Z r).1 = 44)
def xTwo (Z : vZ) (k a : Nat) : Except (Nat × Nat) (xC × Nat) :=
  match xNu Z (xLo k) (xMx k) a with
  | .error e => .error e
  | .ok (u, r) => if xBt Z k r = true then
      (match xNu Z 0 (xMx k) (yN Z r) with
      | .error e => .error e
      | .ok (v, r2) => .ok ((k, u, v, []), r2))
    else .error (1, (yT Z r).2.2)
def xSu (Z : vZ) (k a : Nat) : xR := if k = 2 then xSm Z (xOne Z false 8) a else xEi Z true a
def xBd (Z : vZ) (k a : Nat) : Except (Nat × Nat) (xC × Nat) :=
  if 3 ≤ k then xTwo Z k a else match xSu Z k a with
  | .error e => .error e
  | .ok (c, r) => .ok ((k, 0, 0, c), r)
def xCl (Z : vZ) (n : Nat) (o : Bool) (a : Nat) : Except (Nat × Nat) (xC × Nat) :=
  if yKd (yT Z a) = 0 then .error (1, (yT Z a).2.2) else if yKd (yT Z a) = 2 ∧ o = true then .error (4, (yT Z a).2.2) else if n = 24 then .error (6, (yT Z a).2.2) else
  match xBd Z (yKd (yT Z a)) (yN Z a) with
  | .error e => .error e
  | .ok (x, r) => if (yT Z r).1 = 59 then .ok (x, yN Z r) else .error (1, (yT Z r).2.2)
def xOn (cl : List xC) : Bool := cl.any (fun x => decide (x.1 = 2))
def xAl (Z : vZ) : Nat → List xC → Nat → Except (Nat × Nat) (List xC)
  | 0, cl, _ => .ok cl
  | k + 1, cl, a => if (yT Z a).1 = 0 then .ok cl else match xCl Z cl.length (xOn cl) a with
    | .error e => .error e
    | .ok (x, r) => xAl Z k (cl ++ [x]) r
def xTx (Z : vZ) : Except (Nat × Nat) (List xC) := xAl Z 25 [] 0
def xz : xC := (0, 0, 0, [])
def xTv (cl : List xC) : vT := (cl.length, fun k => ((cl.getD k xz).1, (cl.getD k xz).2.1, (cl.getD k xz).2.2.1), fun k => (cl.getD k xz).2.2.2)
def okC (x : xC) : Prop := 1 ≤ x.1 ∧ x.1 ≤ 4 ∧ (x.1 = 3 → 1 ≤ x.2.1 ∧ x.2.1 ≤ 9999 ∧ x.2.2.1 ≤ 9999) ∧ (x.1 = 4 → x.2.1 ≤ 11 ∧ x.2.2.1 ≤ 11) ∧ (x.1 = 1 → tyc true x.2.2.2 0 0) ∧ (x.1 = 2 → tyc false x.2.2.2 0 0)
theorem yw15 (a : Nat) (h : (yT Z a).1 = 2) : (yT Z a).2.1 ≤ 15 := by
  rw [yT_2 h]; exact yI_le _
theorem yKd_b (t : yK) : yKd t ≤ 4 := by
  unfold yKd
  split
  · rename_i h; exact h.2
  · decide
theorem xNu_ok {lo hi a u r : Nat} (h : xNu Z lo hi a = .ok (u, r)) : (yT Z a).1 = 1 ∧ lo ≤ u ∧ u ≤ hi ∧ u = (yT Z a).2.1 ∧ r = yN Z a := by
  unfold xNu at h
  by_cases c1 : (yT Z a).1 = 1
  · rw [if_pos c1] at h
    by_cases c2 : lo ≤ (yT Z a).2.1 ∧ (yT Z a).2.1 ≤ hi
    · rw [if_pos c2] at h
      cases h
      exact ⟨c1, c2.1, c2.2, rfl, rfl⟩
    · rw [if_neg c2] at h; cases h
  · rw [if_neg c1] at h; cases h
theorem xTwo_ok {k : Nat} {x : xC} {r : Nat} (hk : k = 3 ∨ k = 4) (h : xTwo Z k a = .ok (x, r)) : okC x ∧ x.1 = k := by
  unfold xTwo at h
  cases e1 : xNu Z (xLo k) (xMx k) a with
  | error e => rw [e1] at h; cases h
  | ok p =>
    obtain ⟨u, r1⟩ := p
    rw [e1] at h
    have n1 := xNu_ok e1
    dsimp only at h
    by_cases q : xBt Z k r1 = true
    · rw [if_pos q] at h
      cases e2 : xNu Z 0 (xMx k) (yN Z r1) with
      | error e => rw [e2] at h; cases h
      | ok p =>
        obtain ⟨v, r2⟩ := p
        rw [e2] at h
        have n2 := xNu_ok e2
        dsimp only at h
        cases h
        refine ⟨?_, rfl⟩
        unfold xLo xMx at n1
        unfold xMx at n2
        rcases hk with hk | hk
        · subst hk
          rw [if_pos rfl, if_pos rfl] at n1
          rw [if_pos rfl] at n2
          exact ⟨(show (1 : Nat) ≤ 3 from by decide), (show (3 : Nat) ≤ 4 from by decide), fun _ => ⟨n1.2.1, n1.2.2.1, n2.2.2.1⟩, fun z => by have z : (3 : Nat) = 4 := z; omega, fun z => by have z : (3 : Nat) = 1 := z; omega, fun z => by have z : (3 : Nat) = 2 := z; omega⟩
        · subst hk
          rw [if_neg (by decide)] at n2
          rw [if_neg (by decide), if_neg (by decide)] at n1
          exact ⟨(show (1 : Nat) ≤ 4 from by decide), (show (4 : Nat) ≤ 4 from by decide), fun z => by have z : (4 : Nat) = 3 := z; omega, fun _ => ⟨n1.2.2.1, n2.2.2.1⟩, fun z => by have z : (4 : Nat) = 1 := z; omega, fun z => by have z : (4 : Nat) = 2 := z; omega⟩
    · rw [if_neg q] at h; cases h
theorem xBd_ok {k : Nat} {x : xC} {r : Nat} (h1 : 1 ≤ k) (h4 : k ≤ 4) (h : xBd Z k a = .ok (x, r)) : okC x ∧ x.1 = k := by
  unfold xBd at h
  by_cases c : 3 ≤ k
  · rw [if_pos c] at h
    exact xTwo_ok (by omega) h
  · rw [if_neg c] at h
    cases e : xSu Z k a with
    | error e2 => rw [e] at h; cases h
    | ok p =>
      obtain ⟨C, r1⟩ := p
      rw [e] at h
      dsimp only at h
      cases h
      unfold xSu at e
      refine ⟨⟨h1, h4, fun z => by have z : k = 3 := z; omega, fun z => by have z : k = 4 := z; omega, fun z => ?_, fun z => ?_⟩, rfl⟩
      · have z : k = 1 := z
        rw [if_neg (by omega)] at e
        exact xEi_t yw15 e
      · have z : k = 2 := z
        rw [if_pos z] at e
        exact xSm_t yw15 e
theorem xCl_ok {n : Nat} {o : Bool} {x : xC} {r : Nat} (h : xCl Z n o a = .ok (x, r)) : okC x ∧ ¬ n = 24 ∧ (x.1 = 2 → o = false) := by
  unfold xCl at h
  by_cases c1 : yKd (yT Z a) = 0
  · rw [if_pos c1] at h; cases h
  rw [if_neg c1] at h
  by_cases c2 : yKd (yT Z a) = 2 ∧ o = true
  · rw [if_pos c2] at h; cases h
  rw [if_neg c2] at h
  by_cases c3 : n = 24
  · rw [if_pos c3] at h; cases h
  rw [if_neg c3] at h
  cases e : xBd Z (yKd (yT Z a)) (yN Z a) with
  | error e2 => rw [e] at h; cases h
  | ok p =>
    obtain ⟨y, r1⟩ := p
    rw [e] at h
    dsimp only at h
    have ok := xBd_ok (by omega) (yKd_b _) e
    by_cases c4 : (yT Z r1).1 = 59
    · rw [if_pos c4] at h
      cases h
      refine ⟨ok.1, c3, fun z => ?_⟩
      cases q : o with
      | false => rfl
      | true => exact absurd ⟨ok.2.symm.trans z, q⟩ c2
    · rw [if_neg c4] at h; cases h
theorem gd_l {cl : List xC} {x : xC} {k : Nat} (h : k < cl.length) : (cl ++ [x]).getD k xz = cl.getD k xz := by
  rw [List.getD_eq_getElem?_getD, List.getElem?_append_left h, ← List.getD_eq_getElem?_getD]
theorem gd_r {cl : List xC} {x : xC} : (cl ++ [x]).getD cl.length xz = x := by
  rw [List.getD_eq_getElem?_getD, List.getElem?_append_right (Nat.le_refl _), Nat.sub_self]; rfl
theorem xOn_f {cl : List xC} (h : xOn cl = false) : ∀ k, k < cl.length → ¬ (cl.getD k xz).1 = 2 := by
  intro k hk e
  unfold xOn at h
  rw [List.any_eq_false] at h
  refine h (cl.getD k xz) ?_ (decide_eq_true e)
  rw [List.getD_eq_getElem?_getD, List.getElem?_eq_getElem hk]
  exact List.getElem_mem hk
theorem xOn_t {cl : List xC} (h : ∀ k, k < cl.length → ¬ (cl.getD k xz).1 = 2) : xOn cl = false := by
  unfold xOn
  rw [List.any_eq_false]
  intro x hx e
  obtain ⟨k, hk, ek⟩ := List.getElem_of_mem hx
  refine h k hk ?_
  rw [List.getD_eq_getElem?_getD, List.getElem?_eq_getElem hk]
  show (cl[k]).1 = 2
  rw [ek]
  exact of_decide_eq_true e
theorem xAl_ok : ∀ k cl a cl', cl.length + k = 25 → cl.length ≤ 24 → (∀ j, j < cl.length → okC (cl.getD j xz)) → (∀ i j, i < cl.length → j < cl.length → (cl.getD i xz).1 = 2 → (cl.getD j xz).1 = 2 → j = i) → xAl Z k cl a = .ok cl' → okT (xTv cl')
  | 0, cl, a, cl', hk, h24, _, _, _ => by omega
  | k + 1, cl, a, cl', hk, h24, ok, one, h => by
    unfold xAl at h
    by_cases c : (yT Z a).1 = 0
    · rw [if_pos c] at h
      cases h
      exact okT.mk h24 (fun j hj => ⟨(ok j hj).1, (ok j hj).2.1⟩) (fun j hj => (ok j hj).2.2.1) (fun j hj => (ok j hj).2.2.2.1) (fun j hj => (ok j hj).2.2.2.2.1) (fun j hj => (ok j hj).2.2.2.2.2) one
    · rw [if_neg c] at h
      cases e : xCl Z cl.length (xOn cl) a with
      | error e2 => rw [e] at h; cases h
      | ok p =>
        obtain ⟨x, r⟩ := p
        rw [e] at h
        dsimp only at h
        have o := xCl_ok e
        have l : (cl ++ [x]).length = cl.length + 1 := List.length_append
        refine xAl_ok k (cl ++ [x]) r cl' (by omega) (by omega) (fun j hj => ?_) (fun i j hi hj zi zj => ?_) h
        · by_cases q : j = cl.length
          · rw [q, gd_r]; exact o.1
          · rw [gd_l (by omega)]; exact ok j (by omega)
        · by_cases qi : i = cl.length
          · by_cases qj : j = cl.length
            · omega
            · rw [qi, gd_r] at zi
              rw [gd_l (by omega)] at zj
              exact absurd zj (xOn_f (o.2.2 zi) j (by omega))
          · by_cases qj : j = cl.length
            · rw [qj, gd_r] at zj
              rw [gd_l (by omega)] at zi
              exact absurd zi (xOn_f (o.2.2 zj) i (by omega))
            · rw [gd_l (by omega)] at zi zj
              exact one i j (by omega) (by omega) zi zj
theorem xTx_ok {cl : List xC} (h : xTx Z = .ok cl) : okT (xTv cl) :=
  xAl_ok 25 [] 0 cl rfl (by decide) (fun j hj => absurd hj (Nat.not_lt_zero _)) (fun i j hi => absurd hi (Nat.not_lt_zero _)) h
end Clauses
