/-! Constructors: the step theorem, a run, the contracts. -/
section YStep3
variable {p : Program} {l : Launch} {e : Env} {R : Room} {s : State} {m : MethodId} {args : Array Value} {below : List Frame} {meth : Method} {c : Code} {Z : State → Prop} {cc : ByteArray} {mL o base L d n0 n1 : Nat} {xs : Nat → Int32} {D : va_G} {dA : Nat → ClassId} {ad0 adV : Nat → Nat} {Ts : List Cond} {C : Nat → List Value → yw → Option yw}
def yRs (X : gYs → Prop) (E : yw → Prop) (r : gYs ⊕ yw) : Prop := match r with
  | .inl q => X q
  | .inr v => E v
theorem yEx_s {q : gYs} {r : gYs ⊕ yw} {X : gYs → Prop} {E : yw → Prop} (h : some (Sum.inl q : gYs ⊕ yw) = some r) (hr : yRs X E r) : X q := by
  cases h
  exact hr
set_option maxHeartbeats 2000000 in
theorem yStep (hc : yC p s m args c cc mL o base L xs D dA ad0 adV Ts) (hin : o = 13 ∨ meth.name = "<init>") (hR : d + 1 ≤ R.frames ∧ 64 * d + 64 ≤ R.locals) (hRc : n1 - n0 ≤ R.cells ∧ ySz n1 - ySz n0 ≤ R.slots) (h00 : 0 < n0)
    (hCall : ∀ M a v v' ad, C M a v = some v' → ∀ mi : zMI, yMi M = some mi → Met l mi.1 (zWm mi.1 mi.2.1 mi.2.2.1 mi.2.2.2.1) (yRm d v.2.2 (yMk M)) (yPc D dA ad adV base L xs a v) (yQc D dA ad base v v') (yMk M) (ySz (v.2.2 + yMk M) - ySz v.2.2) (fun q => base ≤ q))
    {ls : qL} {st : List Value} {v : yw} {pc nx : Nat} {ins : Instr} {au : List Nat} {cs : Int} (hi : yOkI o cc mL (pc, ins, nx, au, cs) = true) {r : gYs ⊕ yw} (h : yEx n0 n1 C nx ins au cs ls st v = some r)
    (hr : yRs (yX p l e R s m args below meth c Z mL n0 base D dA ad0) (yE p l e R s m args below meth c Z cc n0 base D dA ad0) r) : yX p l e R s m args below meth c Z mL n0 base D dA ad0 (pc, ls, st, v) := by
  intro ad H locs lr hL hP hD hS hl
  show W p l e R s m args below meth c H locs (v.2.2 - n0) (ySz v.2.2 - ySz n0) Z (F0 m pc lr (st.map (zV ad)))
  have hP : va_P D zCl (yWs dA ad (gYw v)) H := hP
  have hD : va_D (fun a => base ≤ a) (yWs dA ad (gYw v)) := hD
  have hl : zLv ad ls lr mL := hl
  obtain ⟨hx, hb, hml, hown, hts, hg, hE, hO, hAO⟩ := id hc
  have W1 : ∀ w, w ∈ lw_tbl → goodWord w = true → w.before args s = true := fun w h1 h2 => hts w (hg w (zGw_in h1 h2))
  unfold yOkI at hi
  simp only [Bool.and_eq_true, decide_eq_true_eq] at hi
  obtain ⟨⟨hd, hnx⟩, ho⟩ := hi
  subst hnx
  cases ins
  case iconst n => exact lv_iconst hx hb hd (of_decide_eq_true ho) (yEx_s h hr ad H locs lr hL hP hD hS hl)
  case bipush n => exact lv_bipush hx hb hd (of_decide_eq_true ho) (yEx_s h hr ad H locs lr hL hP hD hS hl)
  case sipush n => exact lv_sipush hx hb hd (of_decide_eq_true ho) (yEx_s h hr ad H locs lr hL hP hD hS hl)
  case iload_n n =>
    have e : q0 au = (n : Nat) := of_decide_eq_true ho
    unfold yEx at h; dsimp only at h
    split at h
    · rename_i x hxl
      exact lv_iload_n hx hb hd e.symm (hl.2.2 _ _ hxl) (yEx_s h hr ad H locs lr hL hP hD hS hl)
    · cases h
  case aload n =>
    have e : q0 au = n := of_decide_eq_true ho
    unfold yEx at h; dsimp only at h
    split at h
    · rename_i x hxl
      exact lv_aload hx hb hd (by rw [← e]; exact hl.2.2 _ _ hxl) (yEx_s h hr ad H locs lr hL hP hD hS hl)
    · cases h
  case aload_n n =>
    have e : q0 au = (n : Nat) := of_decide_eq_true ho
    unfold yEx at h; dsimp only at h
    split at h
    · rename_i x hxl
      exact lv_aload_n hx hb hd e.symm (hl.2.2 _ _ hxl) (yEx_s h hr ad H locs lr hL hP hD hS hl)
    · cases h
  case istore_n n =>
    have ho : (decide (q0 au = (n : Nat)) && decide ((n : Nat) < mL)) = true := ho
    simp only [Bool.and_eq_true, decide_eq_true_eq] at ho
    unfold yEx at h; dsimp only at h
    split at h
    · rename_i x r'
      rw [ho.1] at h
      exact lv_istore_n hx hb hd rfl hl.has ho.2 rfl (fun lr' hl' => yEx_s h hr ad H locs lr' hL hP hD hS (zLv.st1 (v := .int x) hl'))
    · cases h
  case astore_n n =>
    have ho : (decide (q0 au = (n : Nat)) && decide ((n : Nat) < mL)) = true := ho
    simp only [Bool.and_eq_true, decide_eq_true_eq] at ho
    unfold yEx at h; dsimp only at h
    split at h
    · rename_i x r'
      rw [ho.1] at h
      exact lv_astore_n hx hb hd rfl hl.has ho.2 rfl (fun lr' hl' => yEx_s h hr ad H locs lr' hL hP hD hS (zLv.st1 (v := .ref x) hl'))
    · cases h
  case iinc n cc2 =>
    have ho : (decide (q0 au = n) && decide (n < mL) && decide (Int32.ofInt cc2 = qCi cs)) = true := ho
    simp only [Bool.and_eq_true, decide_eq_true_eq] at ho
    obtain ⟨⟨h1, h2⟩, h3⟩ := ho
    unfold yEx at h; dsimp only at h
    split at h
    · rename_i x hxl
      rw [h1] at h hxl
      have hmem := zPr_in (ad := ad) (n := 0) hxl
      rw [Nat.zero_add] at hmem
      obtain ⟨k, hk⟩ := List.getElem?_of_mem hmem
      exact lv_iinc (k := k) hx hb hd hl.has hk (by rw [h3]) h2 rfl (fun lr' hl' => yEx_s h hr ad H locs lr' hL hP hD hS (zLv.st1 (v := .int (x + qCi cs)) hl'))
    · cases h
  case dup =>
    unfold yEx at h; dsimp only at h
    split at h
    · exact lv_dup hx hb hd rfl (yEx_s h hr ad H locs lr hL hP hD hS hl)
    · cases h
  case goto off => exact lv_goto hx hb hd (of_decide_eq_true ho) (yEx_s h hr ad H locs lr hL hP hD hS hl)
  case if_icmp cd off =>
    have ht : (pc : Int) + off = (q0 au : Int) := of_decide_eq_true ho
    cases cd
    case ge =>
      unfold yEx at h; dsimp only at h
      split at h
      · rename_i y x r'
        refine lv_icmp_ge hx hb hd ht (fun g => ?_) (fun g => ?_)
        · rw [if_pos g] at h
          exact yEx_s h hr ad H locs lr hL hP hD hS hl
        · rw [if_neg g] at h
          exact yEx_s h hr ad H locs lr hL hP hD hS hl
      · cases h
    all_goals cases h
  case getfield idx =>
    unfold yEx at h; dsimp only at h
    split at h
    · rename_i c0 r'
      split at h
      · rename_i d0 hd0
        split at h
        · rename_i hh
          refine ys_get hc hP ho hh.1 hh.2.1 hh.2.2.1 hd ?_
          have e2 : yFv ad (gYw v) c0 (q1 au) (q2 au) = .ref (ad d0) := by
            rw [hh.2.2.2]
            show va_rf ((yGr v.2.1 c0 (q1 au)).map ad) = _
            rw [hd0]; rfl
          rw [e2]
          exact yEx_s h hr ad H locs lr hL hP hD hS hl
        · cases h
      · cases h
    · cases h
  case putfield idx =>
    unfold yEx at h; dsimp only at h
    split at h
    · rename_i x c0 r'
      split at h
      · rename_i hh
        refine ys_put hc hin hP hD hS (x := .int x) (v' := ((c0, q1 au, x) :: v.1, v.2)) ho hh.1 hh.2.1 hh.2.2.1 hd rfl ?_ ?_ (fun c' hc' => yCe_I (w := gYw v) (c := c0) (f := q1 au) (v := x) hc') ?_ (fun H1 locs1 p1 d1 s1 => yEx_s h hr ad H1 locs1 lr hL p1 d1 s1 hl)
        · rw [hh.2.2.2]
          show Value.int (if c0 = c0 ∧ q1 au = q1 au then x else yGi v.1 c0 (q1 au)) = _
          rw [if_pos ⟨rfl, rfl⟩]
        · intro f' so' hf'
          have e1 : (gYw ((c0, q1 au, x) :: v.1, v.2)).1 c0 f' = (gYw v).1 c0 f' := if_neg (fun g => hf' g.2)
          unfold yFv
          rw [e1]
          rfl
        · intro k _ hk2; rw [hh.2.2.2] at hk2; have := zSoB_ok hk2; rw [of_decide_eq_true this]; exact ⟨rfl, rfl⟩
      · cases h
    · rename_i d0 c0 r'
      split at h
      · rename_i hh
        refine ys_put hc hin hP hD hS (x := .ref (ad d0)) (v' := (v.1, (c0, q1 au, d0) :: v.2.1, v.2.2)) ho hh.1 hh.2.1 hh.2.2.1 hd rfl ?_ ?_ (fun c' hc' => yCe_R (w := gYw v) (c := c0) (f := q1 au) (v := some d0) hc') ?_ (fun H1 locs1 p1 d1 s1 => yEx_s h hr ad H1 locs1 lr hL p1 d1 s1 hl)
        · rw [hh.2.2.2]
          show va_rf ((if c0 = c0 ∧ q1 au = q1 au then some d0 else yGr v.2.1 c0 (q1 au)).map ad) = _
          rw [if_pos ⟨rfl, rfl⟩]; rfl
        · intro f' so' hf'
          have e1 : (gYw (v.1, (c0, q1 au, d0) :: v.2.1, v.2.2)).2.2.1 c0 f' = (gYw v).2.2.1 c0 f' := if_neg (fun g => hf' g.2)
          unfold yFv
          rw [e1]
          rfl
        · intro k _ hk2; rw [hh.2.2.2] at hk2; have := zSoB_ok hk2; simp only [zSoB] at this
          split at this
          · rename_i hY; rw [hY]; exact ⟨rfl, rfl⟩
          · rename_i hY; rw [hY]; exact ⟨rfl, rfl⟩
          · cases this
      · cases h
    · cases h
  case aastore =>
    unfold yEx at h; dsimp only at h
    split at h
    · rename_i d0 i c0 r'
      split at h
      · rename_i hh
        exact ys_aast hc hP hD hS hh hd (fun H1 locs1 p1 d1 s1 => yEx_s h hr ad H1 locs1 lr hL p1 d1 s1 hl)
      · cases h
    · cases h
  case new idx =>
    unfold yEx at h; dsimp only at h
    split at h
    · rename_i hh
      exact ys_new hc hRc hL hP hD hS hl ho hd hh (yEx_s h hr)
    · cases h
  case newarray t =>
    unfold yEx at h; dsimp only at h
    split at h
    · rename_i x r'
      split at h
      · rename_i hh
        exact ys_newa hc hRc hL hP hD hS hl ho hd hh (yEx_s h hr)
      · cases h
    · cases h
  case anewarray idx =>
    unfold yEx at h; dsimp only at h
    split at h
    · rename_i x r'
      split at h
      · rename_i hh
        exact ys_newq hc hRc hL hP hD hS hl ho hd hh (yEx_s h hr)
      · cases h
    · cases h
  case invokespecial idx =>
    unfold yEx at h; dsimp only at h
    cases hb10 : Nat.beq (q2 au) 10 with
    | true =>
      rw [hb10] at h
      dsimp only at h
      split at h
      · rename_i c0 r'
        split at h
        · rename_i hcat
          unfold yOp at ho
          dsimp only at ho
          rw [hb10] at ho
          dsimp only at ho
          split at ho
          · rename_i pq hlk
            have b2 := of_decide_eq_true ho
            have hcat8 : ((r'.map (zV ad)).map fun v => v.category).sum ≤ 8 := by rw [zCat]; exact hcat
            refine W.objInit hx hb hown (W1 _ (zPk_in b2) rfl) (W1 _ (zPk_in yWd.2.1) rfl) (W1 _ (zPk_in yWd.2.2) rfl) rfl (by rw [hml]; exact hl.1) rfl hd (by omega) ?_ (yEx_s h hr ad H locs lr hL hP hD hS hl)
            show 2 * 0 + _ + 12 ≤ R.locals
            omega
          · cases ho
        · cases h
      · cases h
    | false =>
      rw [hb10] at h
      dsimp only at h
      split at h
      · rename_i v' hC
        split at h
        · rename_i hh
          exact ys_inv hc hR hRc h00 hCall hL hP hD hS hl ho hb10 hd hC hh (yEx_s h hr)
        · cases h
      · cases h
  case return_ =>
    unfold yEx at h; dsimp only at h
    split at h
    · cases h
      exact hr ad H locs lr pc hd hL hP hD hS
    · cases h
  all_goals cases h
theorem yRunW (hc : yC p s m args c cc mL o base L xs D dA ad0 adV Ts) (hin : o = 13 ∨ meth.name = "<init>") (hR : d + 1 ≤ R.frames ∧ 64 * d + 64 ≤ R.locals) (hRc : n1 - n0 ≤ R.cells ∧ ySz n1 - ySz n0 ≤ R.slots) (h00 : 0 < n0)
    (hCall : ∀ M a v v' ad, C M a v = some v' → ∀ mi : zMI, yMi M = some mi → Met l mi.1 (zWm mi.1 mi.2.1 mi.2.2.1 mi.2.2.2.1) (yRm d v.2.2 (yMk M)) (yPc D dA ad adV base L xs a v) (yQc D dA ad base v v') (yMk M) (ySz (v.2.2 + yMk M) - ySz v.2.2) (fun q => base ≤ q))
    {cd : List qI} (hcd : cd.all (yOkI o cc mL) = true) {stop : Nat} : ∀ {k : Nat} {q : gYs} {r : gYs ⊕ yw}, yRun n0 n1 C cd stop k q = some r →
    (yRs (yX p l e R s m args below meth c Z mL n0 base D dA ad0) (yE p l e R s m args below meth c Z cc n0 base D dA ad0) r) → yX p l e R s m args below meth c Z mL n0 base D dA ad0 q
  | 0, q, r, h => by cases h
  | k + 1, q, r, h => fun hr => by
    unfold yRun at h
    split at h
    · cases h
      exact hr
    · split at h
      · cases h
      · rename_i i hi
        obtain ⟨h1, h2⟩ := qFt_mem hi
        obtain ⟨pc, ls, st, v⟩ := q
        obtain ⟨pc', ins, nx, au, cs⟩ := i
        have h2 : pc' = pc := h2
        subst h2
        dsimp only at h
        split at h
        · cases h
        · rename_i q' hq'
          exact yStep hc hin hR hRc h00 hCall (List.all_eq_true.mp hcd _ h1) hq' (yRunW hc hin hR hRc h00 hCall hcd h hr)
        · rename_i v' hv'
          cases h
          exact yStep hc hin hR hRc h00 hCall (List.all_eq_true.mp hcd _ h1) hv' hr
end YStep3
