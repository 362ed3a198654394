/-! apart: the reference's call. -/
section ApartM
variable {s : Nat × (Nat → Int32)} {d : Nat} {w : qW} {Q : Int32 → qW → Prop} {R : qW → Prop} {N S K : vS} {T : Nat → vT} {Z : vZ}
theorem m_findApart {p : Nat} {mb n : Nat → Nat} (hd : 2 ≤ d) (hR : apR w p mb n) (hs : ∀ y w', fnd n n (p - 1) 1 (fun _ => 0) = some y → fr (fun c => c = 94 ∨ c = 96) w w' → (∀ j, j < p → w'.1 94 j = nI (y j)) → Q 1 w') (hf : ∀ w', fnd n n (p - 1) 1 (fun _ => 0) = none → fr (fun c => c = 94 ∨ c = 96) w w' → Q 0 w') : qCall (some s) d 310 [.ref 72, .int (nI p)] w (qQi Q) := by
  obtain ⟨d, rfl, hd1⟩ := dS hd
  have p5 := hR.p1
  refine A_Mo_findApart ?_
  refine lpU (i := 0) (n := p) (I := fun i w' => fr (fun c => c = 96) w w' ∧ ∀ a b, b < a → a < i → w'.1 96 (5 * a + b) = nI (Nat.gcd (n a) (n b))) (P := fun i w' => qAt s d c_Mo_findApart (qQi Q) 2 [some (.ref 72), some (.int (nI p)), some (.int (nI i)), none] [] w') ?_ ?_ (Nat.zero_le _) ⟨fr_rf _ _, fun a b _ h => absurd h (Nat.not_lt_zero _)⟩
  · intro w1 ⟨f1, g1⟩
    refine A_Mo_findApart_2 ⟨fun _ => ⟨qIn_nI (j := 0) (by decide) (by decide), qIn_nI (j := 1) (by decide) (by decide), ?_⟩, fun g => absurd (Int32.le_refl _) g⟩
    rw [qIx_0, show qIx (1 : Int32) = 1 from rfl, show (1 : Int32) = nI 1 from rfl, nI_eq (by omega) (by omega)]
    have f2 : fr (fun c => c = 94 ∨ c = 96) w (qPutI (qPutI w1 94 0 (0 : Int32)) 94 1 (0 : Int32)) := fr_I (fr_I (fr_wk f1 (fun c hc => Or.inr hc)) (Or.inl rfl)) (Or.inl rfl)
    have z0 : (qPutI (qPutI w1 94 0 (0 : Int32)) 94 1 (0 : Int32)).1 94 0 = nI 0 := by rw [pI_f (by decide), pI_e]; rfl
    have z1 : (qPutI (qPutI w1 94 0 (0 : Int32)) 94 1 (0 : Int32)).1 94 1 = nI 0 := by rw [pI_e]; rfl
    refine ⟨fun g => A_Mo_findApart_87 ?_, fun g => hs (fun _ => 0) _ (by rw [g]; rfl) f2 (fun j hj => ?_)⟩
    · rw [show (1 : Int32) = nI 1 from rfl, nI_ltI (by omega) (by omega)]
      refine ⟨fun q => by omega, fun _ => ?_⟩
      have e : p - 1 = p - 2 + 1 := by omega
      rw [e] at hs hf
      refine m_fnd (w0 := qPutI (qPutI w1 94 0 (0 : Int32)) 94 1 (0 : Int32)) hd1 (hR.fr f2) (fun a b h1 h2 => ?_) (p - 2) 1 (fun _ => 0) 0 _ (by omega) (Nat.le_refl _) (fr_rf _ _) (fun j hj => ?_) z1 (Nat.zero_le _) (fun u hu => absurd hu (Nat.not_lt_zero _)) (fun y w' hy f' h' => hs y w' hy (fr_tr f2 (fr_wk f' (fun c hc => Or.inl hc))) h') (fun w' hy f' _ _ => ?_)
      · rw [pI_c (by decide), pI_c (by decide)]; exact g1 a b h1 h2
      · have ej : j = 0 := by omega
        subst ej
        exact ⟨z0, Nat.zero_le _⟩
      · refine A_Mo_findApart_87 ?_
        rw [show (1 : Int32) = nI 1 from rfl, nI_ltI (by omega) (by omega)]
        exact ⟨fun _ => hf w' hy (fr_tr f2 (fr_wk f' (fun c hc => Or.inl hc))), fun g => absurd (by omega) g⟩
    · have ej : j = 0 := by omega
      subst ej
      exact z0
  · intro i w1 hi ⟨f1, g1⟩ nxt
    refine A_Mo_findApart_2 ?_
    rw [nI_leI (by omega) (by omega)]
    refine ⟨fun g => by omega, fun _ => ?_⟩
    refine lpU (i := 0) (n := i) (I := fun j w' => fr (fun c => c = 96) w w' ∧ (∀ a b, b < a → (a < i ∨ (a = i ∧ b < j)) → w'.1 96 (5 * a + b) = nI (Nat.gcd (n a) (n b)))) (P := fun j w' => qAt s d c_Mo_findApart (qQi Q) 9 [some (.ref 72), some (.int (nI p)), some (.int (nI i)), some (.int (nI j))] [] w') ?_ ?_ (Nat.zero_le _) ⟨f1, fun a b h1 h2 => g1 a b h1 (by omega)⟩
    · intro w2 ⟨f2, g2⟩
      refine A_Mo_findApart_9 ⟨fun _ => ?_, fun g => absurd (Int32.le_refl _) g⟩
      rw [nI_1]
      exact nxt w2 ⟨f2, fun a b h1 h2 => g2 a b h1 (by omega)⟩
    · intro j w2 hj ⟨f2, g2⟩ nxt2
      have r := hR.fr (fr_wk f2 (fun c hc => Or.inr hc))
      have mi := r.mem i hi
      have mj := r.mem j (by omega)
      have ni := r.num i hi
      have nj := r.num j (by omega)
      refine A_Mo_findApart_9 ?_
      rw [nI_leI (by omega) (by omega), qIx_nI (by omega), qIx_nI (by omega), mi.1, mj.1, qIx_nI (by omega), qIx_nI (by omega), ni.1, nj.1, nI_l (by omega), nI_l (by omega), show (5 : Int32) = nI 5 from rfl, nI_mul', nI_add, qIx_nI (by omega), nI_1 j]
      refine ⟨fun g => by omega, fun _ => ⟨qIn_nI (by omega) (by decide), qIn_nI (by omega) (by decide), qIn_nI (by omega) (by decide), qIn_nI (by omega) (by decide), m_common hd1 (by omega) (by omega) ⟨qIn_nI (by omega) (by decide), nxt2 _ ⟨fr_I f2 rfl, fun a b h1 h2 => ?_⟩⟩⟩⟩
      by_cases e : 5 * a + b = 5 * i + j
      · have ea : a = i := by omega
        have eb : b = j := by omega
        subst ea eb
        rw [pI_e, lN_i]
      · rw [pI_f e]
        exact g2 a b h1 (by omega)
def mb1 (N : vS) (set i : Nat) : Nat := (mbL N set (N 0 0)).getD i 0
def mbN (N : vS) (set i : Nat) : Nat := N 10 (mb1 N set i)
def mbI (N : vS) (set who : Nat) : Nat := ((List.range (mbL N set (N 0 0)).length).find? (fun k => decide (mb1 N set k = who))).getD 0
def vAp (N : vS) (set who : Int32) : Prop := vSet (N 0 0) set ∧ cntB (qIx set) ≤ 5 ∧ mem12 who (qIx set) = true ∧ ∀ i, i < N 0 0 → (qIx set).testBit i = true → N 10 i ≤ 60
def fAp (N : vS) (set who : Int32) : Int32 := match fnd (mbN N (qIx set)) (mbN N (qIx set)) ((mbL N (qIx set) (N 0 0)).length - 1) 1 (fun _ => 0) with
  | some y => nI (y (mbI N (qIx set) (qIx who)))
  | none => -1
theorem mbL_le {set k : Nat} (hk : k ≤ 12) : (mbL N set k).length ≤ cntB set := by
  unfold mbL cntB
  have e : 12 = k + (12 - k) := by omega
  rw [e, List.range_add, List.filter_append, List.length_append]
  exact Nat.le_add_right _ _
theorem mbL_mem {set k x : Nat} : x ∈ mbL N set k ↔ x < k ∧ set.testBit x = true := by
  unfold mbL
  rw [List.mem_filter, List.mem_range]
theorem mb1_of {set i : Nat} (h : i < (mbL N set (N 0 0)).length) : mb1 N set i < N 0 0 ∧ set.testBit (mb1 N set i) = true := by
  exact mbL_lt h
theorem mbI_of {set who : Nat} (h1 : who < N 0 0) (h2 : set.testBit who = true) : mbI N set who < (mbL N set (N 0 0)).length ∧ mb1 N set (mbI N set who) = who ∧ ∀ k, k < mbI N set who → ¬ mb1 N set k = who := by
  obtain ⟨i, hi, e⟩ := List.getElem_of_mem (mbL_mem (N := N).mpr ⟨h1, h2⟩)
  have ei : mb1 N set i = who := by unfold mb1; rw [gD_in hi, e]
  unfold mbI
  cases q : (List.range (mbL N set (N 0 0)).length).find? (fun k => decide (mb1 N set k = who)) with
  | none =>
    rw [List.find?_eq_none] at q
    have := q i (List.mem_range.mpr hi)
    rw [decide_eq_true ei] at this
    exact absurd rfl this
  | some j =>
    rw [List.find?_range_eq_some] at q
    obtain ⟨q1, q2, q3⟩ := q
    refine ⟨List.mem_range.mp q2, of_decide_eq_true q1, fun k hk => ?_⟩
    have := q3 k hk
    intro h
    rw [decide_eq_true h] at this
    exact Bool.noConfusion this
theorem m_apart {set who : Int32} (hd : 6 ≤ d) (hX : rM w N K T Z) (hy : ∀ w', vAp N set who → rM w' N K T Z → fr (fun c => 72 ≤ c) w w' → Q (fAp N set who) w') (hn : ∀ w', ¬ vAp N set who → rM w' N K T Z → fr (fun c => 72 ≤ c) w w' → Q (-1) w') : qCall (some s) d 309 [.ref 72, .int set, .int who] w (qQi Q) := by
  obtain ⟨d, rfl, hd1⟩ := dS hd
  have o := hX.okn
  have o0 := o.p12
  have hp := p12 o0
  have hn0 := fun q => hn w q hX (fr_rf _ _)
  refine A_Mo_apart (m_isSet (by omega) hX.n.ppl o0 (fun g1 => b1 ?_) (fun g => b0 (hn0 (fun q => g q.1))))
  obtain ⟨L, h1, h2, h3, e, e2⟩ := vSet_x o0 g1
  have cl := cntB_le L
  have eqv : vAp N set who ↔ cntB L ≤ 5 ∧ mem12 who L = true ∧ ∀ i, i < N 0 0 → L.testBit i = true → N 10 i ≤ 60 := by
    unfold vAp
    rw [e2]
    exact ⟨fun q => q.2, fun q => ⟨g1, q⟩⟩
  unfold fAp at hy
  rw [eqv] at hn
  rw [eqv] at hn0
  rw [e2] at hy
  have hz := fun w' q => hy w' (eqv.mpr q)
  subst e
  refine m_size (by omega) h3 ?_
  rw [show (5 : Int32) = nI 5 from rfl, nI_ltI (by omega) (by omega)]
  refine ⟨fun g => hn0 (fun q => by have := q.1; omega), fun g2 => m_isPerson (by omega) hX.n.ppl o0 (fun g3 => b1 ?_) (fun g3 => b0 (hn0 (fun q => ?_)))⟩
  · obtain ⟨x, hx, ex, ex2⟩ := vTold_x o0 g3
    subst ex
    rw [ex2] at hz
    rw [mem12_nI (by omega)] at hn hn0 hz
    refine m_has (by omega) (by omega) (by omega) (fun g4 => n1 ?_) (fun g4 => n0 (hn0 (fun q => by rw [q.2.1] at g4; exact Bool.noConfusion g4)))
    refine m_take' (by omega) hX (fun w1 f1 hX1 hT => ?_)
    refine lpU (i := 0) (n := N 0 0) (I := fun k w' => fr (fun c => c = 95) w1 w' ∧ (∀ t, t < (mbL N L k).length → w'.1 95 t = nI ((mbL N L k).getD t 0)) ∧ ∀ i, i < k → L.testBit i = true → N 10 i ≤ 60) (P := fun k w' => qAt s d c_Mo_apart (qQi Q) 43 [some (.ref 72), some (.int (nI L)), some (.int (nI x)), some (.int (nI (mbL N L k).length)), some (.int (nI k))] [] w') ?_ ?_ (Nat.zero_le _) ⟨fr_rf _ _, fun t ht => absurd ht (Nat.not_lt_zero _), fun i hi => absurd hi (Nat.not_lt_zero _)⟩
    · intro w2 ⟨f2, r2, n2⟩
      have hX2 : rM w2 N K T Z := hX1.keep f2 (fun c _ _ => by omega)
      have ml := mbL_le (N := N) (set := L) o0
      have ix := mbI_of hx g4
      have hR : apR w2 (mbL N L (N 0 0)).length (mb1 N L) (mbN N L) := by
        refine apR.mk ⟨by omega, by omega⟩ (fun i hi => ⟨r2 i hi, by have := (mb1_of hi).1; omega⟩) (fun i hi => ?_)
        have m := mb1_of hi
        have on := o.num _ m.1
        rw [(f2 83 (by omega)).1]
        exact ⟨(hT _ m.1).num, on.1, n2 _ m.1 m.2⟩
      have fw : ∀ w3, fr (fun c => c = 94 ∨ c = 96) w2 w3 → fr (fun c => 72 ≤ c) w w3 := fun w3 f3 => fr_tr (fr_wk f1 (fun c hc => by omega)) (fr_tr (fr_wk f2 (fun c hc => by omega)) (fr_wk f3 (fun c hc => by omega)))
      refine A_Mo_apart_43 ⟨qIn_nI (j := 0) (by decide) (by decide), ?_⟩
      rw [qIx_0, hX2.n.ppl, nI_leI (by omega) (by omega)]
      refine ⟨fun _ => m_findApart (by omega) hR (fun y w3 ey f3 h3 => ⟨fun _ => ?_, fun q => absurd q (by decide)⟩) (fun w3 ey f3 => ⟨fun q => absurd rfl q, fun _ => ?_⟩), fun g => absurd (Nat.le_refl _) g⟩
      · have hX3 : rM w3 N K T Z := hX2.keep f3 (fun c _ _ => by omega)
        have hz3 := hz w3 ⟨by omega, g4, n2⟩ hX3 (fw w3 f3)
        rw [ey] at hz3
        refine lpN (i := 0) (n := mbI N L x) (P := fun k => qAt s d c_Mo_apart (qQi Q) 110 [some (.ref 72), none, some (.int (nI x)), none, some (.int (nI k))] [] w3) ?_ ?_ (Nat.zero_le _)
        · have m := (hR.fr f3).mem _ ix.1
          refine A_Mo_apart_110 ?_
          rw [qIx_nI (by omega), m.1, ix.2.1, h3 _ ix.1]
          exact ⟨qIn_nI (by omega) (by decide), fun _ => ⟨qIn_nI (by omega) (by decide), hz3⟩, fun g => absurd rfl g⟩
        · intro k hk ih
          have m := (hR.fr f3).mem k (by omega)
          have ne := ix.2.2 k hk
          refine A_Mo_apart_110 ?_
          rw [qIx_nI (by omega), m.1, nI_eq (by omega) (by omega), nI_1]
          exact ⟨qIn_nI (by omega) (by decide), fun g => absurd g ne, fun _ => ih⟩
      · have hX3 : rM w3 N K T Z := hX2.keep f3 (fun c _ _ => by omega)
        have hz3 := hz w3 ⟨by omega, g4, n2⟩ hX3 (fw w3 f3)
        rw [ey] at hz3
        exact hz3
    · intro k w2 hk ⟨f2, r2, n2⟩ ih
      have hX2 : rM w2 N K T Z := hX1.keep f2 (fun c _ _ => by omega)
      have on := o.num k hk
      have ml := mbL_le (N := N) (set := L) (k := k + 1) (by omega)
      have ml0 := mbL_le (N := N) (set := L) (k := k) (by omega)
      have ek : w2.1 83 k = nI (N 10 k) := by rw [(f2 83 (by omega)).1]; exact (hT k hk).num
      refine A_Mo_apart_43 ⟨qIn_nI (j := 0) (by decide) (by decide), ?_⟩
      rw [qIx_0, hX2.n.ppl, nI_leI (by omega) (by omega), nI_1 k, nI_1, qIx_nI (by omega), qIx_nI (by omega)]
      have e60 : (w2.1 83 k ≤ (60 : Int32)) ↔ N 10 k ≤ 60 := by rw [ek, show (60 : Int32) = nI 60 from rfl, nI_leI (by omega) (by omega)]
      refine ⟨fun g => by omega, fun _ => m_has (by omega) (by omega) (by omega) (fun g => n1 ⟨qIn_nI (by omega) (by decide), fun g6 => ?_, fun g5 => hn w2 (fun q => g5 (e60.mpr (q.2.2 k hk g))) hX2 (fr_tr (fr_wk f1 (fun c hc => by omega)) (fr_wk f2 (fun c hc => by omega)))⟩) (fun g => n0 ?_)⟩
      · have g5 := e60.mp g6
        have es : mbL N L (k + 1) = mbL N L k ++ [k] := by rw [mbL_s, if_pos g]
        rw [es, List.length_append] at ml
        have ml : (mbL N L k).length + 1 ≤ cntB L := ml
        have el : (mbL N L (k + 1)).length = (mbL N L k).length + 1 := by rw [es, List.length_append]; rfl
        rw [← el]
        refine ⟨qIn_nI (by omega) (by decide), ih _ ⟨fr_I f2 rfl, fun t ht => ?_, fun i hi hb => ?_⟩⟩
        · rw [el] at ht
          rw [es]
          by_cases et : t = (mbL N L k).length
          · subst et
            rw [pI_e, List.getD_eq_getElem?_getD, List.getElem?_append_right (Nat.le_refl _), Nat.sub_self]; rfl
          · rw [pI_f et, List.getD_eq_getElem?_getD, List.getElem?_append_left (by omega), ← List.getD_eq_getElem?_getD]
            exact r2 t (by omega)
        · by_cases ei : i = k
          · subst ei; exact g5
          · exact n2 i (by omega) hb
      · have es : mbL N L (k + 1) = mbL N L k := by rw [mbL_s, if_neg (by rw [g]; exact fun q => Bool.noConfusion q)]
        have ih2 := ih w2
        rw [es] at ih2
        refine ih2 ⟨f2, r2, fun i hi hb => ?_⟩
        by_cases ei : i = k
        · subst ei; rw [g] at hb; exact Bool.noConfusion hb
        · exact n2 i (by omega) hb
  · obtain ⟨j, hj, ej, ej2, bj⟩ := mem12_x q.2.1
    rw [ej] at g3
    exact g3 ((vTold_i o0 (by omega)).mpr (bit_P h2 bj))
end ApartM
