/-! text: the class's tokens. -/
section LexC
variable {s : Nat × (Nat → Int32)} {d : Nat} {w : qW} {Q : Int32 → qW → Prop} {R : qW → Prop} {Z : vZ} {a c : Nat}
def byI (c : Nat) : Int32 := if c = 256 then -1 else nI c
theorem byI_0 (c : Nat) (h : ¬ c = 256) : byI c = nI c := if_neg h
theorem byI_1 : byI 256 = -1 := rfl
theorem byI_eq {c k : Nat} (hc : c ≤ 256) (hk : k < 256) : byI c = nI k ↔ c = k := by
  unfold byI
  by_cases q : c = 256
  · rw [if_pos q]
    refine ⟨fun e => ?_, fun e => by omega⟩
    have e : nI k = -(nI 1) := e.symm
    rw [nI_eqn (by omega) (by omega) (by omega)] at e
    exact e.elim
  · rw [if_neg q, nI_eq (by omega) (by omega)]
theorem byI_lt {c k : Nat} (hc : c ≤ 256) (hk : k ≤ 256) (h0 : 0 < k) : byI c < nI k ↔ c = 256 ∨ c < k := by
  unfold byI
  by_cases q : c = 256
  · rw [if_pos q]
    refine ⟨fun _ => Or.inl q, fun _ => ?_⟩
    show -(nI 1) < nI k
    rw [nI_nlt' (by omega) (by omega) (by omega)]; trivial
  · rw [if_neg q, nI_ltI (by omega) (by omega)]
    omega
theorem byI_le {c k : Nat} (hc : c ≤ 256) (hk : k < 256) : byI c ≤ nI k ↔ c = 256 ∨ c ≤ k := by
  unfold byI
  by_cases q : c = 256
  · rw [if_pos q]
    refine ⟨fun _ => Or.inl q, fun _ => ?_⟩
    show -(nI 1) ≤ nI k
    rw [nI_nle' (by omega) (by omega)]; trivial
  · rw [if_neg q, nI_leI (by omega) (by omega)]
    omega
theorem byI_gt {c k : Nat} (hc : c ≤ 256) (hk : k < 256) : nI k < byI c ↔ ¬ (c = 256 ∨ c ≤ k) := by
  rw [← byI_le hc hk]
  exact Int32.not_le.symm
def ct (w : qW) (Z : vZ) : Prop := (w.1 25 1 = nI Z.1) ∧ (Z.1 ≤ 300) ∧ (∀ j, j < Z.1 → w.1 26 j = nI (Z.2.1 j)) ∧ (∀ j, j < Z.1 → Z.2.1 j < 256)
theorem ct.len {w : qW} {Z : vZ} (h : ct w Z) : w.1 25 1 = nI Z.1 := h.1
theorem ct.l3 {w : qW} {Z : vZ} (h : ct w Z) : Z.1 ≤ 300 := h.2.1
theorem ct.tape {w : qW} {Z : vZ} (h : ct w Z) : ∀ j, j < Z.1 → w.1 26 j = nI (Z.2.1 j) := h.2.2.1
theorem ct.byt {w : qW} {Z : vZ} (h : ct w Z) : ∀ j, j < Z.1 → Z.2.1 j < 256 := h.2.2.2
theorem ct.mk {w : qW} {Z : vZ} (f_len : w.1 25 1 = nI Z.1) (f_l3 : Z.1 ≤ 300) (f_tape : ∀ j, j < Z.1 → w.1 26 j = nI (Z.2.1 j)) (f_byt : ∀ j, j < Z.1 → Z.2.1 j < 256) : ct w Z := ⟨f_len, f_l3, f_tape, f_byt⟩
theorem yB_le (hb : ∀ j, j < Z.1 → Z.2.1 j < 256) (k : Nat) : yB Z k ≤ 256 := by
  unfold yB
  split
  · rename_i h; exact Nat.le_of_lt (hb k h)
  · exact Nat.le_refl _
theorem c_byteAt {k : Nat} (hd : 1 ≤ d) (h : ct w Z) (hk : k < 2 ^ 31) (hQ : Q (byI (yB Z k)) w) : qCall (some s) d 43 [.ref 25, .int (nI k)] w (qQi Q) := by
  obtain ⟨d, rfl, -⟩ := dS hd
  have l3 := h.l3
  refine A_Reader_byteAt ⟨fun g => absurd g (nI_nn hk), fun _ => ?_⟩
  rw [h.len, nI_leI (by omega) hk, show (300 : Int32) = nI 300 from rfl, nI_leI (by omega) hk]
  refine ⟨fun g => ?_, fun g => ⟨fun g2 => by omega, fun _ => ⟨qIn_nI (by omega) (by decide), ?_⟩⟩⟩
  · rw [yB_out g] at hQ; exact hQ
  · have b := h.byt k (by omega)
    rw [yB_in (by omega), byI_0 _ (by omega)] at hQ
    rw [qIx_nI hk, h.tape k (by omega)]
    exact hQ
theorem c_isLetter {k : Nat} (hd : 1 ≤ d) (hk : k ≤ 256) (hQ : Q (tI (yL k)) w) : qCall (some s) d 44 [.int (byI k)] w (qQi Q) := by
  obtain ⟨d, rfl, -⟩ := dS hd
  have l2 : (k = 256 ∨ k < 97 ∨ 122 < k) → qAt s d c_Reader_isLetter (qQi Q) 12 [some (.int (byI k))] [] w := by
    intro h
    refine A_Reader_isLetter_12 ?_
    rw [show (65 : Int32) = nI 65 from rfl, show (90 : Int32) = nI 90 from rfl, byI_lt hk (by omega) (by omega), byI_gt hk (by omega)]
    refine ⟨fun g => ?_, fun g => ⟨fun g2 => ?_, fun g2 => ?_⟩⟩
    · have e : yL k = false := by unfold yL; rw [decide_eq_false (by omega), decide_eq_false (by omega)]; rfl
      rw [e] at hQ; exact hQ
    · have e : yL k = false := by unfold yL; rw [decide_eq_false (by omega), decide_eq_false (by omega)]; rfl
      rw [e] at hQ; exact hQ
    · have e : yL k = true := by unfold yL; rw [decide_eq_true (p := 65 ≤ k ∧ k ≤ 90) (by omega), Bool.or_true]
      rw [e] at hQ; exact hQ
  refine A_Reader_isLetter ?_
  rw [show (97 : Int32) = nI 97 from rfl, show (122 : Int32) = nI 122 from rfl, byI_lt hk (by omega) (by omega), byI_le hk (by omega)]
  refine ⟨fun g => l2 (by omega), fun g => ⟨fun g2 => ?_, fun g2 => l2 (by omega)⟩⟩
  have e : yL k = true := by unfold yL; rw [decide_eq_true (p := 97 ≤ k ∧ k ≤ 122) (by omega), Bool.true_or]
  rw [e] at hQ; exact hQ
theorem c_isDigit {k : Nat} (hd : 1 ≤ d) (hk : k ≤ 256) (hQ : Q (tI (yD k)) w) : qCall (some s) d 45 [.int (byI k)] w (qQi Q) := by
  obtain ⟨d, rfl, -⟩ := dS hd
  refine A_Reader_isDigit ?_
  rw [show (48 : Int32) = nI 48 from rfl, show (57 : Int32) = nI 57 from rfl, byI_lt hk (by omega) (by omega), byI_gt hk (by omega)]
  refine ⟨fun g => ?_, fun g => ⟨fun g2 => ?_, fun g2 => ?_⟩⟩
  · have e : yD k = false := decide_eq_false (by omega)
    rw [e] at hQ; exact hQ
  · have e : yD k = false := decide_eq_false (by omega)
    rw [e] at hQ; exact hQ
  · have e : yD k = true := decide_eq_true (by omega)
    rw [e] at hQ; exact hQ
/-- only the token's fields have changed -/
def ka (w w' : qW) : Prop := w'.2 = w.2 ∧ (∀ c, ¬ c = 25 → w'.1 c = w.1 c) ∧ ∀ f, f < 6 → w'.1 25 f = w.1 25 f
theorem ka_rf (w : qW) : ka w w := ⟨rfl, fun _ _ => rfl, fun _ _ => rfl⟩
theorem ka_tr {w w' w'' : qW} (h : ka w w') (h' : ka w' w'') : ka w w'' := ⟨h'.1.trans h.1, fun c hc => (h'.2.1 c hc).trans (h.2.1 c hc), fun f hf => (h'.2.2 f hf).trans (h.2.2 f hf)⟩
theorem ka_p {w w' : qW} {f : Nat} {v : Int32} (h : ka w w') (hf : 6 ≤ f) : ka w (qPutI w' 25 f v) := by
  refine ⟨h.1, fun c hc => ?_, fun g hg => ?_⟩
  · rw [← h.2.1 c hc]; exact funext fun g => pI_c hc
  · rw [pI_f (by omega)]; exact h.2.2 g hg
theorem ct.ka {w' : qW} (h : ct w Z) (k : ka w w') : ct w' Z := by
  refine ct.mk ?_ h.l3 (fun j hj => ?_) h.byt
  · rw [k.2.2 1 (by decide)]; exact h.len
  · rw [k.2.1 26 (by decide)]; exact h.tape j hj
def ctk (k : Nat) : Nat := if k = 1 then 2 else if k = 2 then 1 else if k = 4 then 316 else if k = 5 then 318 else k
theorem ctk_i {k j : Nat} (hk : k ≤ 62) (hj : 6 ≤ j) (hj2 : j ≤ 62) : ctk k = j ↔ k = j := by
  unfold ctk
  split
  · omega
  · split
    · omega
    · split
      · omega
      · split <;> omega
theorem ctk_b {k : Nat} (hk : k ≤ 62) : ctk k ≤ 318 := by
  unfold ctk
  split
  · omega
  · split
    · omega
    · split
      · omega
      · split <;> omega
def cu (w : qW) (c : Nat) (Z : vZ) (a : Nat) : Prop := (w.2.2.1 25 4 = some c) ∧ (ct w Z) ∧ (a ≤ Z.1) ∧ (w.1 25 6 = nI (ctk (yT Z a).1)) ∧ (w.1 25 7 = nI (yT Z a).2.2) ∧ (w.1 25 8 = nI (yN Z a)) ∧ ((yT Z a).1 = 1 → w.1 25 9 = nI (yT Z a).2.1)
theorem cu.ref {w : qW} {c : Nat} {Z : vZ} {a : Nat} (h : cu w c Z a) : w.2.2.1 25 4 = some c := h.1
theorem cu.cc {w : qW} {c : Nat} {Z : vZ} {a : Nat} (h : cu w c Z a) : ct w Z := h.2.1
theorem cu.la {w : qW} {c : Nat} {Z : vZ} {a : Nat} (h : cu w c Z a) : a ≤ Z.1 := h.2.2.1
theorem cu.tok {w : qW} {c : Nat} {Z : vZ} {a : Nat} (h : cu w c Z a) : w.1 25 6 = nI (ctk (yT Z a).1) := h.2.2.2.1
theorem cu.pl {w : qW} {c : Nat} {Z : vZ} {a : Nat} (h : cu w c Z a) : w.1 25 7 = nI (yT Z a).2.2 := h.2.2.2.2.1
theorem cu.en {w : qW} {c : Nat} {Z : vZ} {a : Nat} (h : cu w c Z a) : w.1 25 8 = nI (yN Z a) := h.2.2.2.2.2.1
theorem cu.val {w : qW} {c : Nat} {Z : vZ} {a : Nat} (h : cu w c Z a) : (yT Z a).1 = 1 → w.1 25 9 = nI (yT Z a).2.1 := h.2.2.2.2.2.2
theorem cu.mk {w : qW} {c : Nat} {Z : vZ} {a : Nat} (f_ref : w.2.2.1 25 4 = some c) (f_cc : ct w Z) (f_la : a ≤ Z.1) (f_tok : w.1 25 6 = nI (ctk (yT Z a).1)) (f_pl : w.1 25 7 = nI (yT Z a).2.2) (f_en : w.1 25 8 = nI (yN Z a)) (f_val : (yT Z a).1 = 1 → w.1 25 9 = nI (yT Z a).2.1) : cu w c Z a := ⟨f_ref, f_cc, f_la, f_tok, f_pl, f_en, f_val⟩
theorem sg_ok : ((List.range 256).all fun c => decide (decide (qIof (qSt (1000 - 1000)) (qI2c (nI c)) 0 < 0) = !yG c)) = true := by decide +kernel
theorem sg_is {c : Nat} (h : c < 256) : qIof (qSt (1000 - 1000)) (qI2c (nI c)) 0 < 0 ↔ yG c = false := by
  have q := of_decide_eq_true (List.all_eq_true.mp sg_ok c (List.mem_range.mpr h))
  constructor
  · intro h
    rw [decide_eq_true h] at q
    cases e : yG c with
    | false => rfl
    | true => rw [e] at q; exact Bool.noConfusion q
  · intro h
    rw [h] at q
    exact of_decide_eq_true q
theorem c_advance {e : Nat} (hd : 2 ≤ d) (href : w.2.2.1 25 4 = some c) (h : ct w Z) (he : w.1 25 8 = nI e) (le : e ≤ Z.1) (hQ : ∀ w', ka w w' → cu w' c Z e → R w') : qCall (some s) d 42 [.ref 25] w (qQv R) := by
  obtain ⟨d, rfl, hd1⟩ := dS hd
  have l3 := h.l3
  have bl := yB_le h.byt
  refine A_Reader_advance ?_
  rw [he]
  -- behind the blanks
  have rest : ∀ p, p = yR yS Z e → p ≤ Z.1 → qAt s d c_Reader_advance (qQv R) 39 [some (.ref 25), some (.int (nI p)), none] [] w := by
    intro p ep lp
    have k1 : ka w (qPutI w 25 7 (nI p)) := ka_p (ka_rf w) (by decide)
    refine A_Reader_advance_39 (c_byteAt hd1 (h.ka k1) (by omega) ⟨fun g => ?_, fun g => ?_⟩)
    · have n256 : ¬ yB Z p = 256 := fun q => g (by rw [q]; rfl)
      have lp2 : p < Z.1 := by
        rcases Nat.lt_or_ge p Z.1 with q | q
        · exact q
        · exact absurd (yB_out q) n256
      have bp := bl p
      rw [nI_1]
      have k2 : ka w (qPutI (qPutI w 25 7 (nI p)) 25 8 (nI (p + 1))) := ka_p k1 (by decide)
      refine c_isLetter hd1 bp (tI_b (fun gl => ?_) (fun gl => c_isDigit hd1 bp (tI_b (fun gd => ?_) (fun gd => ?_))))
      · -- a word
        have fin : ∀ q w2, ka w w2 → w2.1 25 6 = nI 1 → w2.1 25 7 = nI p → w2.1 25 8 = nI q → yR yL Z p = q → R w2 := by
          intro q w2 kk e6 e7 e8 eq
          have y : y0 Z p = ((2, yI (yW Z p (yR yL Z p)), p), yR yL Z p) := by unfold y0; rw [if_neg n256, if_pos gl]
          refine hQ w2 kk (cu.mk (by rw [kk.1]; exact href) (h.ka kk) le ?_ ?_ ?_ ?_)
          · unfold yT; rw [← ep, y]; exact e6
          · unfold yT; rw [← ep, y]; exact e7
          · unfold yN; rw [← ep, y]; show _ = nI (yR yL Z p); rw [eq]; exact e8
          · unfold yT; rw [← ep, y]; intro q; have q : (2 : Nat) = 1 := q; omega
        have loop : ∀ t q w2, Z.1 - q = t → p < q → q ≤ Z.1 → ka w w2 → w2.1 25 6 = nI 1 → w2.1 25 7 = nI p → w2.1 25 8 = nI q → yR yL Z p = yR yL Z q → qAt s d c_Reader_advance (qQv R) 87 [some (.ref 25), none, none] [] w2 := by
          intro t
          induction t with
          | zero =>
            intro q w2 ht pq lq kk e6 e7 e8 er
            have eq : q = Z.1 := by omega
            refine A_Reader_advance_87 ?_
            rw [(h.ka kk).len, e8, nI_leI (by omega) (by omega)]
            refine ⟨fun _ => fin q w2 kk e6 e7 e8 ?_, fun g => by omega⟩
            rw [er, yR_0 (by rw [yB_out (by omega)]; rfl)]
          | succ t ih =>
            intro q w2 ht pq lq kk e6 e7 e8 er
            refine A_Reader_advance_87 ?_
            rw [(h.ka kk).len, e8, nI_leI (by omega) (by omega)]
            refine ⟨fun g => by omega, fun _ => c_byteAt hd1 (h.ka kk) (by omega) (c_isLetter hd1 (bl q) (tI_b (fun g => ?_) (fun g => ?_)))⟩
            · rw [e8, nI_1]
              refine ih (q + 1) _ (by omega) (by omega) (by omega) (ka_p kk (by decide)) ?_ ?_ ?_ ?_
              · rw [pI_f (by decide)]; exact e6
              · rw [pI_f (by decide)]; exact e7
              · rw [pI_e]
              · rw [er, (yR_1 rfl g).2]
            · exact fin q w2 kk e6 e7 e8 (by rw [er, yR_0 g])
        refine loop _ (p + 1) _ rfl (by omega) (by omega) (ka_p k2 (by decide)) ?_ ?_ ?_ (yR_1 rfl gl).2
        · rw [pI_e]; rfl
        · rw [pI_f (by decide), pI_f (by decide), pI_e]
        · rw [pI_f (by decide), pI_e]
      · -- a number
        have bd : 48 ≤ yB Z p ∧ yB Z p ≤ 57 := of_decide_eq_true gd
        have fin : ∀ q v w2, ka w w2 → w2.1 25 6 = nI 2 → w2.1 25 7 = nI p → w2.1 25 8 = nI q → w2.1 25 9 = nI v → yR yD Z p = q → yV Z p 0 = v → R w2 := by
          intro q v w2 kk e6 e7 e8 e9 eq ev
          have y : y0 Z p = ((1, yV Z p 0, p), yR yD Z p) := by unfold y0; rw [if_neg n256, if_neg (by rw [gl]; exact fun q => Bool.noConfusion q), if_pos gd]
          refine hQ w2 kk (cu.mk (by rw [kk.1]; exact href) (h.ka kk) le ?_ ?_ ?_ ?_)
          · unfold yT; rw [← ep, y]; exact e6
          · unfold yT; rw [← ep, y]; exact e7
          · unfold yN; rw [← ep, y]; show _ = nI (yR yD Z p); rw [eq]; exact e8
          · unfold yT; rw [← ep, y]; intro _; show _ = nI (yV Z p 0); rw [ev]; exact e9
        have loop : ∀ t q v w2, Z.1 - q = t → p < q → q ≤ Z.1 → v ≤ 10000 → ka w w2 → w2.1 25 6 = nI 2 → w2.1 25 7 = nI p → w2.1 25 8 = nI q → w2.1 25 9 = nI v → yR yD Z p = yR yD Z q → yV Z p 0 = yV Z q v → qAt s d c_Reader_advance (qQv R) 145 [some (.ref 25), none, none] [] w2 := by
          intro t
          induction t with
          | zero =>
            intro q v w2 ht pq lq v4 kk e6 e7 e8 e9 er ev
            refine A_Reader_advance_145 ?_
            rw [(h.ka kk).len, e8, nI_leI (by omega) (by omega)]
            have o : yB Z q = 256 := yB_out (by omega)
            refine ⟨fun _ => fin q v w2 kk e6 e7 e8 e9 ?_ ?_, fun g => by omega⟩
            · rw [er, yR_0 (by rw [o]; rfl)]
            · rw [ev, yV_0 (by rw [o]; rfl)]
          | succ t ih =>
            intro q v w2 ht pq lq v4 kk e6 e7 e8 e9 er ev
            refine A_Reader_advance_145 ?_
            rw [(h.ka kk).len, e8, nI_leI (by omega) (by omega)]
            refine ⟨fun g => by omega, fun _ => c_byteAt hd1 (h.ka kk) (by omega) (c_isDigit hd1 (bl q) (tI_b (fun g => ?_) (fun g => ?_)))⟩
            · rw [e8]
              refine c_byteAt hd1 (h.ka kk) (by omega) ?_
              have bq : 48 ≤ yB Z q ∧ yB Z q ≤ 57 := of_decide_eq_true g
              rw [e9, byI_0 _ (by omega), show (10 : Int32) = nI 10 from rfl, nI_mul', nI_add, show (48 : Int32) = nI 48 from rfl, nI_sub' (by omega)]
              refine c_min (a := 10000) hd1 (by omega) (by omega) ?_
              rw [e8, nI_1]
              refine ih (q + 1) (min 10000 (v * 10 + yB Z q - 48)) _ (by omega) (by omega) (by omega) (Nat.min_le_left _ _) (ka_p (ka_p kk (by decide)) (by decide)) ?_ ?_ ?_ ?_ ?_ ?_
              · rw [pI_f (by decide), pI_f (by decide)]; exact e6
              · rw [pI_f (by decide), pI_f (by decide)]; exact e7
              · rw [pI_e]
              · rw [pI_f (by decide), pI_e]
              · rw [er, (yR_1 rfl g).2]
              · rw [ev, yV_1 g, show v * 10 + yB Z q - 48 = v * 10 + (yB Z q - 48) by omega]
            · refine fin q v w2 kk e6 e7 e8 e9 ?_ ?_
              · rw [er, yR_0 g]
              · rw [ev, yV_0 g]
        rw [byI_0 _ n256, show (48 : Int32) = nI 48 from rfl, nI_sub' (by omega)]
        refine loop _ (p + 1) (yB Z p - 48) _ rfl (by omega) (by omega) (by omega) (ka_p (ka_p k2 (by decide)) (by decide)) ?_ ?_ ?_ ?_ (yR_1 rfl gd).2 ?_
        · rw [pI_f (by decide), pI_e]; rfl
        · rw [pI_f (by decide), pI_f (by decide), pI_f (by decide), pI_e]
        · rw [pI_f (by decide), pI_f (by decide), pI_e]
        · rw [pI_e]
        · rw [yV_1 gd, Nat.zero_mul, Nat.zero_add, Nat.min_eq_right (by omega)]
      · -- a sign
        have nl : ¬ yL (yB Z p) = true := by rw [gl]; exact fun q => Bool.noConfusion q
        have nd : ¬ yD (yB Z p) = true := by rw [gd]; exact fun q => Bool.noConfusion q
        have one : ¬ ((yB Z p = 60 ∨ yB Z p = 62) ∧ yB Z (p + 1) = 61) → qAt s d c_Reader_advance (qQv R) 259 [some (.ref 25), none, some (.int (byI (yB Z p)))] [] (qPutI (qPutI w 25 7 (nI p)) 25 8 (nI (p + 1))) := by
          intro c4
          have b2 : yB Z p < 256 := by omega
          rw [byI_0 _ n256]
          refine A_Reader_advance_259 ?_
          rw [sg_is b2]
          have fin : ∀ t v, y0 Z p = ((t, 0, p), p + 1) → v = nI (ctk t) → R (qPutI (qPutI (qPutI w 25 7 (nI p)) 25 8 (nI (p + 1))) 25 6 v) := by
            intro t v y ev
            have kk : ka w (qPutI (qPutI (qPutI w 25 7 (nI p)) 25 8 (nI (p + 1))) 25 6 v) := ka_p k2 (by decide)
            have nt : ¬ t = 1 := fun q => by
              have y2 := y
              unfold y0 at y2
              rw [if_neg n256, if_neg nl, if_neg nd, if_neg c4, q] at y2
              split at y2
              · rename_i g
                have g2 := yG_b g
                have : yB Z p = 1 := congrArg (fun x => x.1.1) y2
                omega
              · have : (3 : Nat) = 1 := congrArg (fun x => x.1.1) y2
                omega
            refine hQ _ kk (cu.mk (by rw [kk.1]; exact href) (h.ka kk) le ?_ ?_ ?_ ?_)
            · unfold yT; rw [← ep, y, pI_e]; exact ev
            · unfold yT; rw [← ep, y, pI_f (by decide), pI_f (by decide), pI_e]
            · unfold yN; rw [← ep, y, pI_f (by decide), pI_e]
            · unfold yT; rw [← ep, y]; intro q; exact absurd q nt
          refine ⟨fun g => fin 3 _ ?_ rfl, fun g => fin (yB Z p) _ ?_ ?_⟩
          · unfold y0; rw [if_neg n256, if_neg nl, if_neg nd, if_neg c4, if_neg (by rw [g]; exact fun q => Bool.noConfusion q)]
          · rw [Bool.not_eq_false] at g
            unfold y0; rw [if_neg n256, if_neg nl, if_neg nd, if_neg c4, if_pos g]
          · rw [Bool.not_eq_false] at g
            have g2 := yG_b g
            rw [(ctk_i (k := yB Z p) (j := yB Z p) (by omega) (by omega) (by omega)).mpr rfl]
        have two : (yB Z p = 60 ∨ yB Z p = 62) → qAt s d c_Reader_advance (qQv R) 224 [some (.ref 25), none, some (.int (byI (yB Z p)))] [] (qPutI (qPutI w 25 7 (nI p)) 25 8 (nI (p + 1))) := by
          intro c3
          refine A_Reader_advance_224 ?_
          rw [pI_e]
          refine c_byteAt hd1 (h.ka k2) (by omega) ?_
          rw [show (61 : Int32) = nI 61 from rfl, byI_eq (bl _) (by omega), pI_e, nI_1]
          refine ⟨fun g => one (fun q => g q.2), fun g => ?_⟩
          have y : y0 Z p = ((if yB Z p = 60 then 4 else 5, 0, p), p + 2) := by unfold y0; rw [if_neg n256, if_neg nl, if_neg nd, if_pos ⟨c3, g⟩]
          have kk : ka w (qPutI (qPutI (qPutI (qPutI w 25 7 (nI p)) 25 8 (nI (p + 1))) 25 6 ((256 : Int32) + byI (yB Z p))) 25 8 (nI (p + 1 + 1))) := ka_p (ka_p k2 (by decide)) (by decide)
          refine hQ _ kk (cu.mk (by rw [kk.1]; exact href) (h.ka kk) le ?_ ?_ ?_ ?_)
          · unfold yT
            rw [← ep, y, pI_f (by decide), pI_e]
            show _ = nI (ctk (if yB Z p = 60 then 4 else 5))
            rcases c3 with c3 | c3
            · rw [c3]; rfl
            · rw [c3]; rfl
          · unfold yT; rw [← ep, y, pI_f (by decide), pI_f (by decide), pI_f (by decide), pI_e]
          · unfold yN; rw [← ep, y, pI_e]
          · unfold yT; rw [← ep, y]; intro q; have q : (if yB Z p = 60 then 4 else 5) = 1 := q; split at q <;> omega
        rw [show (60 : Int32) = nI 60 from rfl, show (62 : Int32) = nI 62 from rfl, byI_eq (bl _) (by omega), byI_eq (bl _) (by omega)]
        exact ⟨fun g => two (Or.inl g), fun g => ⟨fun g2 => one (fun q => by omega), fun g2 => two (Or.inr g2)⟩⟩
    · have e256 : yB Z p = 256 := by
        by_cases q : yB Z p = 256
        · exact q
        · rw [byI_0 _ q] at g
          have g : nI (yB Z p) = -(nI 1) := g
          have := bl p
          rw [nI_eqn (by omega) (by omega) (by omega)] at g
          exact g.elim
      have y : y0 Z p = ((0, 0, p), p) := by unfold y0; rw [if_pos e256]
      have kk : ka w (qPutI (qPutI (qPutI (qPutI w 25 7 (nI p)) 25 8 (nI p + 1)) 25 6 (0 : Int32)) 25 8 (nI p)) := ka_p (ka_p (ka_p k1 (by decide)) (by decide)) (by decide)
      refine hQ _ kk (cu.mk (by rw [kk.1]; exact href) (h.ka kk) le ?_ ?_ ?_ ?_)
      · unfold yT; rw [← ep, y, pI_f (by decide), pI_e]; rfl
      · unfold yT; rw [← ep, y, pI_f (by decide), pI_f (by decide), pI_f (by decide), pI_e]
      · unfold yN; rw [← ep, y, pI_e]
      · unfold yT; rw [← ep, y]; intro q; have q : (0 : Nat) = 1 := q; omega
  have blank : ∀ t k, Z.1 - k = t → k ≤ Z.1 → yR yS Z e = yR yS Z k → qAt s d c_Reader_advance (qQv R) 5 [some (.ref 25), some (.int (nI k)), none] [] w := by
    intro t
    induction t with
    | zero =>
      intro k ht lk er
      refine A_Reader_advance_5 ?_
      rw [h.len, nI_leI (by omega) (by omega)]
      refine ⟨fun _ => rest k ?_ lk, fun g => by omega⟩
      rw [er, yR_0 (by rw [yB_out (by omega)]; rfl)]
    | succ t ih =>
      intro k ht lk er
      refine A_Reader_advance_5 ?_
      rw [h.len, nI_leI (by omega) (by omega), nI_1]
      refine ⟨fun g => by omega, fun _ => c_byteAt hd1 h (by omega) ?_⟩
      rw [show (32 : Int32) = nI 32 from rfl, byI_eq (bl k) (by omega)]
      refine ⟨fun g => ih (k + 1) (by omega) (by omega) ?_, fun g => c_byteAt hd1 h (by omega) ?_⟩
      · rw [er, (yR_1 (p := yS) rfl (by rw [g]; rfl)).2]
      · rw [show (10 : Int32) = nI 10 from rfl, byI_eq (bl k) (by omega)]
        refine ⟨fun g2 => rest k ?_ lk, fun g2 => ih (k + 1) (by omega) (by omega) ?_⟩
        · rw [er, yR_0 (decide_eq_false (by omega))]
        · rw [er, (yR_1 (p := yS) rfl (by rw [g2]; rfl)).2]
  exact blank _ e rfl le rfl
/-- on to the next token -/
theorem c_adv (hd : 2 ≤ d) (h : cu w c Z a) (hQ : ∀ w', ka w w' → cu w' c Z (yN Z a) → R w') : qCall (some s) d 42 [.ref 25] w (qQv R) :=
  c_advance hd h.ref h.cc h.en (yT_b h.la h.cc.byt).2.2.1 hQ
theorem cu.b (h : cu w c Z a) : (yT Z a).2.2 ≤ 300 ∧ (yT Z a).1 ≤ 62 ∧ (yT Z a).2.1 ≤ 10000 ∧ yN Z a ≤ 300 := by
  have := yT_b h.la h.cc.byt
  have := h.cc.l3
  omega
theorem cu.is (h : cu w c Z a) {j : Nat} (hj : 6 ≤ j) (hj2 : j ≤ 62) : (w.1 25 6 = nI j) ↔ (yT Z a).1 = j := by
  have b := h.b
  have := ctk_b b.2.1
  rw [h.tok, nI_eq (by omega) (by omega), ctk_i b.2.1 hj hj2]
theorem cu.is1 (h : cu w c Z a) : (w.1 25 6 = nI 1) ↔ (yT Z a).1 = 2 := by
  have b := h.b
  have := ctk_b b.2.1
  rw [h.tok, nI_eq (by omega) (by omega)]
  unfold ctk
  split
  · omega
  · split
    · omega
    · split
      · omega
      · split <;> omega
theorem cu.is2 (h : cu w c Z a) : (w.1 25 6 = nI 2) ↔ (yT Z a).1 = 1 := by
  have b := h.b
  have := ctk_b b.2.1
  rw [h.tok, nI_eq (by omega) (by omega)]
  unfold ctk
  split
  · omega
  · split
    · omega
    · split
      · omega
      · split <;> omega
theorem cu.is0 (h : cu w c Z a) : (w.1 25 6 = nI 0) ↔ (yT Z a).1 = 0 := by
  have b := h.b
  have := ctk_b b.2.1
  rw [h.tok, nI_eq (by omega) (by omega)]
  unfold ctk
  split
  · omega
  · split
    · omega
    · split
      · omega
      · split <;> omega
theorem yT_2 (h : (yT Z a).1 = 2) : (yT Z a).2.1 = yI (yW Z (yT Z a).2.2 (yN Z a)) := by
  unfold yT yN at *
  generalize yR yS Z a = p at *
  unfold y0 at *
  by_cases c1 : yB Z p = 256
  · rw [if_pos c1] at h; have h : (0 : Nat) = 2 := h; omega
  rw [if_neg c1] at h ⊢
  by_cases c2 : yL (yB Z p) = true
  · rw [if_pos c2]
  rw [if_neg c2] at h ⊢
  by_cases c3 : yD (yB Z p) = true
  · rw [if_pos c3] at h; have h : (1 : Nat) = 2 := h; omega
  rw [if_neg c3] at h ⊢
  by_cases c4 : (yB Z p = 60 ∨ yB Z p = 62) ∧ yB Z (p + 1) = 61
  · rw [if_pos c4] at h; have h : (if yB Z p = 60 then 4 else 5) = 2 := h; split at h <;> omega
  rw [if_neg c4] at h ⊢
  by_cases c5 : yG (yB Z p) = true
  · rw [if_pos c5] at h; have h : yB Z p = 2 := h; have := yG_b c5; omega
  · rw [if_neg c5] at h; have h : (3 : Nat) = 2 := h; omega
theorem yT_p (h : a ≤ Z.1) (hb : ∀ j, j < Z.1 → Z.2.1 j < 256) : (yT Z a).2.2 ≤ yN Z a := by
  have r := yR_b (p := yS) h
  have b := y0_b (p := yR yS Z a) r.2 hb
  unfold yT yN
  omega
theorem qStr_k {k : Nat} (h : k ≤ 15) : qStr (1000 + k) = true := by
  unfold qStr
  have e1 : Nat.ble 1000 (1000 + k) = true := Nat.ble_eq.mpr (by omega)
  have e2 : Nat.ble (1000 + k) 1015 = true := Nat.ble_eq.mpr (by omega)
  rw [e1, e2]
theorem qSt_len : ((List.range 16).all fun k => decide ((qSt k).length ≤ 13) && (qSt k).all (fun x => decide (x < 256))) = true := by decide +kernel
theorem qSt_b {k : Nat} (h : k ≤ 15) : (qSt k).length ≤ 13 ∧ ∀ x ∈ qSt k, x < 256 := by
  have q := List.all_eq_true.mp qSt_len k (List.mem_range.mpr (by omega))
  rw [Bool.and_eq_true, decide_eq_true_eq, List.all_eq_true] at q
  exact ⟨q.1, fun x hx => of_decide_eq_true (q.2 x hx)⟩
theorem yW_eq {l : List Nat} {p e : Nat} : l = yW Z p e ↔ l.length = e - p ∧ ∀ i, i < l.length → l.getD i 0 = Z.2.1 (p + i) := by
  unfold yW
  constructor
  · intro h
    subst h
    refine ⟨by rw [List.length_map, List.length_range], fun i hi => ?_⟩
    rw [List.length_map, List.length_range] at hi
    rw [List.getD_eq_getElem?_getD, List.getElem?_map, List.getElem?_range hi]; rfl
  · intro ⟨h1, h2⟩
    apply List.ext_getElem
    · rw [List.length_map, List.length_range]; exact h1
    · intro i hi hi2
      have := h2 i hi
      rw [gD_in hi] at this
      rw [this, List.getElem_map, List.getElem_range]
theorem c_isWord {k : Nat} (hd : 1 ≤ d) (h : cu w c Z a) (h1 : 1 ≤ k) (h2 : k ≤ 15) (hQ : Q (tI (decide ((yT Z a).1 = 2 ∧ (yT Z a).2.1 = k))) w) : qCall (some s) d 68 [.ref 25, .ref (1000 + k)] w (qQi Q) := by
  obtain ⟨d, rfl, -⟩ := dS hd
  have b := h.b
  have l3 := h.cc.l3
  have tb := yT_b h.la h.cc.byt
  have tp := yT_p h.la h.cc.byt
  have sl := qSt_b h2
  refine A_Reader_isWord ?_
  rw [show (1 : Int32) = nI 1 from rfl, h.is1, qStr_k h2, qB_1, Nat.add_sub_cancel_left, h.en, h.pl, nI_sub' tp, show Int32.ofNat (qSt k).length = nI (qSt k).length from rfl, nI_eq (by omega) (by omega), show (300 : Int32) = nI 300 from rfl, nI_leI (by omega) (by omega)]
  refine ⟨fun g => ?_, fun g => ?_⟩
  · rw [decide_eq_false (fun q => g q.1)] at hQ; exact hQ
  have ev := yT_2 g
  have iff2 : ((yT Z a).1 = 2 ∧ (yT Z a).2.1 = k) ↔ (qSt k).length = yN Z a - (yT Z a).2.2 ∧ ∀ i, i < (qSt k).length → (qSt k).getD i 0 = Z.2.1 ((yT Z a).2.2 + i) := by
    rw [ev, yI_iff h1 h2, yW_eq]
    exact ⟨fun q => q.2, fun q => ⟨g, q⟩⟩
  rw [decide_eq_decide.mpr iff2] at hQ
  refine ⟨fun g2 => ?_, fun g2 => ⟨fun _ => ?_, fun g3 => absurd b.2.2.2 g3⟩⟩
  · rw [decide_eq_false (fun q => g2 q.1.symm)] at hQ; exact hQ
  refine lpN (i := 0) (n := (qSt k).length) (P := fun i => (∀ j, j < i → (qSt k).getD j 0 = Z.2.1 ((yT Z a).2.2 + j)) → qAt s d c_Reader_isWord (qQi Q) 38 [some (.ref 25), some (.ref (1000 + k)), some (.int (nI i))] [] w) ?_ ?_ (Nat.zero_le _) (fun j hj => absurd hj (Nat.not_lt_zero _))
  · intro hj
    refine A_Reader_isWord_38 ?_
    rw [qStr_k h2, qB_1, Nat.add_sub_cancel_left]
    rw [decide_eq_true ⟨g2.symm, hj⟩] at hQ
    exact ⟨fun _ => hQ, fun q => absurd (Int32.le_refl _) q⟩
  · intro i hi ih hj
    have li : (yT Z a).2.2 + i < Z.1 := by omega
    have gm : (qSt k).getD i 0 < 256 := by
      rw [gD_in hi]; exact sl.2 _ (List.getElem_mem hi)
    have by1 := h.cc.byt _ li
    refine A_Reader_isWord_38 ?_
    rw [qStr_k h2, qB_1, qB_1, Nat.add_sub_cancel_left, show Int32.ofNat (qSt k).length = nI (qSt k).length from rfl, nI_leI (by omega) (by omega), h.pl, nI_add, qIx_nI (by omega), h.cc.tape _ li, qIx_nI (by omega), show Int32.ofNat ((qSt k).getD i 0) = nI ((qSt k).getD i 0) from rfl, nI_eq (by omega) (by omega), nI_1]
    refine ⟨fun q => by omega, fun _ => ⟨qIn_nI (by omega) (by decide), qIn_nI hi (by omega), fun q => ih (fun j hj2 => ?_), fun q => ?_⟩⟩
    · by_cases e : j = i
      · rw [e]; exact q.symm
      · exact hj j (by omega)
    · rw [decide_eq_false (fun z => q (z.2 i hi).symm)] at hQ; exact hQ
/-- which of the seven names -/
def yNm (t : yK) : Int32 := if t.1 = 2 ∧ 6 ≤ t.2.1 ∧ t.2.1 ≤ 12 then nI (t.2.1 - 6) else -1
theorem c_nameOf (hd : 2 ≤ d) (h : cu w c Z a) (hQ : Q (yNm (yT Z a)) w) : qCall (some s) d 83 [.ref 25] w (qQi Q) := by
  obtain ⟨d, rfl, hd1⟩ := dS hd
  have yes : ∀ k, 6 ≤ k → k ≤ 12 → decide ((yT Z a).1 = 2 ∧ (yT Z a).2.1 = k) = true → Q (nI (k - 6)) w := by
    intro k h6 h12 g
    have g := of_decide_eq_true g
    have e : yNm (yT Z a) = nI (k - 6) := by unfold yNm; rw [if_pos ⟨g.1, by omega, by omega⟩, g.2]
    rw [e] at hQ; exact hQ
  refine A_Reader_nameOf (c_isWord (k := 6) hd1 h (by omega) (by omega) (tI_b (fun g => yes 6 (by omega) (by omega) g) (fun g6 => c_isWord (k := 7) hd1 h (by omega) (by omega) (tI_b (fun g => yes 7 (by omega) (by omega) g) (fun g7 => c_isWord (k := 8) hd1 h (by omega) (by omega) (tI_b (fun g => yes 8 (by omega) (by omega) g) (fun g8 => c_isWord (k := 9) hd1 h (by omega) (by omega) (tI_b (fun g => yes 9 (by omega) (by omega) g) (fun g9 => c_isWord (k := 10) hd1 h (by omega) (by omega) (tI_b (fun g => yes 10 (by omega) (by omega) g) (fun g10 => c_isWord (k := 11) hd1 h (by omega) (by omega) (tI_b (fun g => yes 11 (by omega) (by omega) g) (fun g11 => c_isWord (k := 12) hd1 h (by omega) (by omega) (tI_b (fun g => yes 12 (by omega) (by omega) g) (fun g12 => ?_)))))))))))))))
  have g6 := of_decide_eq_false g6
  have g7 := of_decide_eq_false g7
  have g8 := of_decide_eq_false g8
  have g9 := of_decide_eq_false g9
  have g10 := of_decide_eq_false g10
  have g11 := of_decide_eq_false g11
  have g12 := of_decide_eq_false g12
  have e : yNm (yT Z a) = -1 := by unfold yNm; rw [if_neg (by omega)]
  rw [e] at hQ; exact hQ
def yKd (t : yK) : Nat := if t.1 = 2 ∧ t.2.1 ≤ 4 then t.2.1 else 0
theorem c_clauseKind (hd : 2 ≤ d) (h : cu w c Z a) (hQ : Q (nI (yKd (yT Z a))) w) : qCall (some s) d 67 [.ref 25] w (qQi Q) := by
  obtain ⟨d, rfl, hd1⟩ := dS hd
  have yes : ∀ k, 1 ≤ k → k ≤ 4 → decide ((yT Z a).1 = 2 ∧ (yT Z a).2.1 = k) = true → Q (nI k) w := by
    intro k h6 h12 g
    have g := of_decide_eq_true g
    have e : yKd (yT Z a) = k := by unfold yKd; rw [if_pos ⟨g.1, by omega⟩, g.2]
    rw [e] at hQ; exact hQ
  refine A_Reader_clauseKind (c_isWord (k := 1) hd1 h (by omega) (by omega) (tI_b (fun g => yes 1 (by omega) (by omega) g) (fun g1 => c_isWord (k := 2) hd1 h (by omega) (by omega) (tI_b (fun g => yes 2 (by omega) (by omega) g) (fun g2 => c_isWord (k := 3) hd1 h (by omega) (by omega) (tI_b (fun g => yes 3 (by omega) (by omega) g) (fun g3 => c_isWord (k := 4) hd1 h (by omega) (by omega) (tI_b (fun g => yes 4 (by omega) (by omega) g) (fun g4 => ?_)))))))))
  have g1 := of_decide_eq_false g1
  have g2 := of_decide_eq_false g2
  have g3 := of_decide_eq_false g3
  have g4 := of_decide_eq_false g4
  have e : yKd (yT Z a) = 0 := by unfold yKd; split <;> omega
  rw [e] at hQ; exact hQ
theorem c_comparing (hd : 1 ≤ d) (h : cu w c Z a) (hy : ¬ opC (yT Z a) = 0 → Q (nI (10005 + opC (yT Z a))) w) (hn : opC (yT Z a) = 0 → Q 0 w) : qCall (some s) d 88 [.ref 25] w (qQi Q) := by
  obtain ⟨d, rfl, -⟩ := dS hd
  have b := h.b
  have cb := ctk_b b.2.1
  refine A_Reader_comparing ?_
  rw [show (316 : Int32) = nI 316 from rfl, show (318 : Int32) = nI 318 from rfl, show (35 : Int32) = nI 35 from rfl, show (60 : Int32) = nI 60 from rfl, show (61 : Int32) = nI 61 from rfl, show (62 : Int32) = nI 62 from rfl, h.is (by omega) (by omega), h.is (by omega) (by omega), h.is (by omega) (by omega), h.is (by omega) (by omega), h.tok, nI_eq (by omega) (by omega), nI_eq (by omega) (by omega)]
  have t4 : ctk (yT Z a).1 = 316 ↔ (yT Z a).1 = 4 := by unfold ctk; split <;> (try split) <;> (try split) <;> (try split) <;> omega
  have t5 : ctk (yT Z a).1 = 318 ↔ (yT Z a).1 = 5 := by unfold ctk; split <;> (try split) <;> (try split) <;> (try split) <;> omega
  rw [t4, t5]
  unfold opC at hy hn
  refine ⟨fun g => ?_, fun g1 => ⟨fun g => ?_, fun g2 => ⟨fun g => ?_, fun g3 => ⟨fun g => ?_, fun g4 => ⟨fun g => ?_, fun g5 => ⟨fun g => ?_, fun g6 => ?_⟩⟩⟩⟩⟩⟩
  · rw [g] at hy; exact hy (by decide)
  · rw [g] at hy; exact hy (by decide)
  · rw [g] at hy; exact hy (by decide)
  · rw [g] at hy; exact hy (by decide)
  · rw [g] at hy; exact hy (by decide)
  · rw [g] at hy; exact hy (by decide)
  · exact hn (by rw [if_neg g2, if_neg g5, if_neg g4, if_neg g6, if_neg g3, if_neg g1])
end LexC
