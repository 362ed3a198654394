/-! Constructors: arrays, calls, the step. -/
section YStep2
variable {p : Program} {l : Launch} {e : Env} {R : Room} {s : State} {m : MethodId} {args : Array Value} {below : List Frame} {meth : Method} {c : Code} {Z : State → Prop} {cc : ByteArray} {mL o base L d n0 n1 : Nat} {xs : Nat → Int32} {D : va_G} {dA : Nat → ClassId} {ad0 ad adV : Nat → Nat} {Ts : List Cond} {pc : Nat} {ls : qL} {st : List Value} {v : yw} {H : Heap} {locs : List Loc} {lr : Array Slot} {cells slots : Nat} {C : Nat → List Value → yw → Option yw}
theorem qLn_16 (c : Nat) : qLn c < 65536 := Nat.mod_lt _ (by decide)
theorem ys_len {x : Int32} (h : x = Int32.ofNat (qLn v.2.2)) : ¬ x < 0 ∧ x.toNatClampNeg = qLn v.2.2 := by
  have h1 := qLn_16 v.2.2
  rw [h]
  refine ⟨?_, qIx_nI (j := qLn v.2.2) (by omega)⟩
  rw [Int32.lt_iff_toInt_lt, show (Int32.ofNat (qLn v.2.2)).toInt = (qLn v.2.2 : Int) from nI_toInt (by omega)]
  show ¬ ((qLn v.2.2 : Int) < 0)
  omega
theorem ys_more (hRc : n1 - n0 ≤ R.cells ∧ ySz n1 - ySz n0 ≤ R.slots) (hL : yLe n0 ad0 ad) (hl : zLv ad ls lr mL) (h2 : n0 ≤ v.2.2) (h3 : v.2.2 < n1) (h4 : yAll ls st v = true) {x : va_E} {k : Nat} (hk : yLn v.2.2 = k) (hlt : v.2.2 < 100) (hx : yCe dA ad (gYw v) v.2.2 = x) {npc : Nat}
    (kk : yX p l e R s m args below meth c Z mL n0 base D dA ad0 (npc, ls, .ref v.2.2 :: st, (v.1, v.2.1, v.2.2 + 1))) : v.2.2 - n0 + 1 ≤ R.cells ∧ ySz v.2.2 - ySz n0 + k ≤ R.slots ∧ ∀ (z : Nat) (H1 : Heap), va_P D zCl (yWs dA ad (gYw v) ++ [(z, x)]) H1 → va_D (fun a => base ≤ a) (yWs dA ad (gYw v) ++ [(z, x)]) → va_S (fun a => base ≤ a) s.heap H1 locs → W p l e R s m args below meth c H1 locs (v.2.2 - n0 + 1) (ySz v.2.2 - ySz n0 + k) Z (F0 m npc lr (.ref z :: st.map (zV ad))) := by
  unfold yAll at h4
  simp only [Bool.and_eq_true] at h4
  obtain ⟨⟨a1, a2⟩, a3⟩ := h4
  obtain ⟨r1, r2, r3, r4⟩ := ys_room hRc h2 (Nat.le_succ v.2.2) h3
  have eN : ySz (v.2.2 + 1) - ySz v.2.2 = k := by
    rw [← hk]; show ySz v.2.2 + yLn v.2.2 - ySz v.2.2 = _; omega
  have e1 : v.2.2 + 1 - v.2.2 = 1 := by omega
  rw [eN] at r2 r4
  rw [show v.2.2.succ = v.2.2 + 1 from rfl, e1] at r1 r3
  refine ⟨r1, r2, fun z H1 P1 D1 S1 => ?_⟩
  obtain ⟨hle, hws⟩ := yWs_more (dA := dA) (ad := ad) (q := z) a3 hlt hx
  rw [← hws] at P1 D1
  have := kk _ H1 locs lr (hL.tr hle h2) P1 D1 S1 (yLv_le hle a1 hl)
  rw [r3, r4]
  have e5 : (Value.ref v.2.2 :: st).map (zV fun c => if c = v.2.2 then z else ad c) = .ref z :: st.map (zV ad) := by
    rw [List.map_cons, ySt_le hle a2]; simp [zV]
  rw [show ((npc, ls, Value.ref v.2.2 :: st, ((v.1, v.2.1, v.2.2 + 1) : yw)) : gYs).2.2.1 = Value.ref v.2.2 :: st from rfl, e5] at this
  exact this
theorem ys_ok (h4 : yAll ls st v = true) : yOk v = true := by
  unfold yAll at h4
  simp only [Bool.and_eq_true] at h4
  exact h4.2
theorem ys_newa (hc : yC p s m args c cc mL o base L xs D dA ad0 adV Ts) (hRc : n1 - n0 ≤ R.cells ∧ ySz n1 - ySz n0 ≤ R.slots) (hL : yLe n0 ad0 ad) (hP : va_P D zCl (yWs dA ad (gYw v)) H) (hD : va_D (fun a => base ≤ a) (yWs dA ad (gYw v))) (hS : va_S (fun a => base ≤ a) s.heap H locs) (hl : zLv ad ls lr mL) {t : ArrayType} {au : List Nat} {cs : Int} {x : Int32} (ho : yOp o mL pc (.newarray t) au cs = true) (hdg : decode cc pc = .ok (.newarray t, 2)) (h : qKd v.2.2 = q0 au ∧ x = Int32.ofNat (qLn v.2.2) ∧ n0 ≤ v.2.2 ∧ v.2.2 < n1 ∧ yAll ls st v = true)
    (kk : yX p l e R s m args below meth c Z mL n0 base D dA ad0 (pc + 2, ls, .ref v.2.2 :: st, (v.1, v.2.1, v.2.2 + 1))) : W p l e R s m args below meth c H locs (v.2.2 - n0) (ySz v.2.2 - ySz n0) Z (F0 m pc lr (.int x :: st.map (zV ad))) := by
  obtain ⟨hx, hb, hml, hown, hts, hg, ⟨hK, -, -⟩, hO, -⟩ := hc
  obtain ⟨h1, hxx, h2, h3, h4⟩ := h
  unfold yOp at ho
  dsimp only at ho
  simp only [Bool.and_eq_true, decide_eq_true_eq] at ho
  obtain ⟨⟨b1, b2⟩, b3⟩ := ho
  have hz := yOk_Z (ys_ok h4)
  have hlt : v.2.2 < 100 := zKd_lt (by omega)
  have hln : yLn v.2.2 = qLn v.2.2 := yLn_a (by omega)
  obtain ⟨x1, x2⟩ := ys_len hxx
  have hq := qLn_16 v.2.2
  have f0 : (fun j => (gYw v).1 v.2.2 j) = fun _ => (0 : Int32) := funext fun j => (hz v.2.2 (Nat.le_refl _) j).1
  have f1 : (fun j => (gYw v).2.1 v.2.2 j) = fun _ => (0 : Int64) := funext fun j => (hz v.2.2 (Nat.le_refl _) j).2.1
  cases t
  case int =>
    have h33 : qKd v.2.2 = 33 := by rw [h1, b1]; rfl
    have e := yCe_33 (dA := dA) (ad := ad) (w := gYw v) h33
    rw [f0] at e
    obtain ⟨r1, r2, K⟩ := ys_more hRc hL hl h2 h3 h4 hln hlt e kk
    refine va_newa (a0 := (qLn v.2.2, .inl (fun _ => 0))) hx hb (hts _ (hg _ (zGw_pk b2 rfl))) rfl hK hP hD hS (fun z hz => Nat.le_trans hO.2.2.1 hz) (fun _ => rfl) x1 x2 (by show qLn v.2.2 * 4 ≤ _; omega) r1 r2 hdg (fun z cA H1 K1 P1 D1 S1 => ?_)
    have ec : cA = dA 0 := by
      have g1 := (K1.2 4 (cA, .int) rfl).2
      have g2 := (hK.2 0 (dA 0, .int) rfl).2
      exact Option.some.inj (g1.symm.trans g2)
    subst ec
    exact K z H1 P1 D1 S1
  case boolean =>
    have h33 : qKd v.2.2 = 34 := by rw [h1, b1]; rfl
    have e := yCe_34 (dA := dA) (ad := ad) (w := gYw v) h33
    rw [f0] at e
    obtain ⟨r1, r2, K⟩ := ys_more hRc hL hl h2 h3 h4 hln hlt e kk
    refine va_newa (a0 := (qLn v.2.2, .inl (fun _ => 0))) hx hb (hts _ (hg _ (zGw_pk b2 rfl))) rfl hK hP hD hS (fun z hz => Nat.le_trans hO.2.2.1 hz) (fun _ => rfl) x1 x2 (by show qLn v.2.2 * 1 ≤ _; omega) r1 r2 hdg (fun z cA H1 K1 P1 D1 S1 => ?_)
    have ec : cA = dA 1 := by
      have g1 := (K1.2 4 (cA, .boolean) rfl).2
      have g2 := (hK.2 1 (dA 1, .boolean) rfl).2
      exact Option.some.inj (g1.symm.trans g2)
    subst ec
    exact K z H1 P1 D1 S1
  case long =>
    have h33 : qKd v.2.2 = 35 := by rw [h1, b1]; rfl
    have e := yCe_35 (dA := dA) (ad := ad) (w := gYw v) h33
    rw [f1] at e
    obtain ⟨r1, r2, K⟩ := ys_more hRc hL hl h2 h3 h4 hln hlt e kk
    refine va_newa (a0 := (qLn v.2.2, .inr (.inl (fun _ => 0)))) hx hb (hts _ (hg _ (zGw_pk b2 rfl))) rfl hK hP hD hS (fun z hz => Nat.le_trans hO.2.2.1 hz) (fun _ => rfl) x1 x2 (by show qLn v.2.2 * 8 ≤ _; omega) r1 r2 hdg (fun z cA H1 K1 P1 D1 S1 => ?_)
    have ec : cA = dA 2 := by
      have g1 := (K1.2 4 (cA, .long) rfl).2
      have g2 := (hK.2 2 (dA 2, .long) rfl).2
      exact Option.some.inj (g1.symm.trans g2)
    subst ec
    exact K z H1 P1 D1 S1
  all_goals
    exfalso
    have : q0 au = 99 := b1
    omega
theorem ys_newq (hc : yC p s m args c cc mL o base L xs D dA ad0 adV Ts) (hRc : n1 - n0 ≤ R.cells ∧ ySz n1 - ySz n0 ≤ R.slots) (hL : yLe n0 ad0 ad) (hP : va_P D zCl (yWs dA ad (gYw v)) H) (hD : va_D (fun a => base ≤ a) (yWs dA ad (gYw v))) (hS : va_S (fun a => base ≤ a) s.heap H locs) (hl : zLv ad ls lr mL) {idx : Nat} {au : List Nat} {cs : Int} {x : Int32} (ho : yOp o mL pc (.anewarray idx) au cs = true) (hdg : decode cc pc = .ok (.anewarray idx, 3)) (h : qKd v.2.2 = 36 ∧ x = Int32.ofNat (qLn v.2.2) ∧ n0 ≤ v.2.2 ∧ v.2.2 < n1 ∧ yAll ls st v = true)
    (kk : yX p l e R s m args below meth c Z mL n0 base D dA ad0 (pc + 3, ls, .ref v.2.2 :: st, (v.1, v.2.1, v.2.2 + 1))) : W p l e R s m args below meth c H locs (v.2.2 - n0) (ySz v.2.2 - ySz n0) Z (F0 m pc lr (.int x :: st.map (zV ad))) := by
  obtain ⟨hx, hb, hml, hown, hts, hg, ⟨hK, -, -⟩, hO, hAO⟩ := hc
  obtain ⟨h1, hxx, h2, h3, h4⟩ := h
  unfold yOp at ho
  dsimp only at ho
  split at ho
  · rename_i k p1 p2 p3 hlk
    have b2 := of_decide_eq_true ho
    have hz := yOk_Z (ys_ok h4)
    have hlt : v.2.2 < 100 := zKd_lt (by omega)
    have hln : yLn v.2.2 = qLn v.2.2 := yLn_a (by omega)
    obtain ⟨x1, x2⟩ := ys_len hxx
    have hq := qLn_16 v.2.2
    have f0 : (fun j => ((gYw v).2.2.1 v.2.2 j).map ad) = fun _ => (none : Option Nat) := funext fun j => by rw [(hz v.2.2 (Nat.le_refl _) j).2.2]; rfl
    have e := yCe_36 (dA := dA) (ad := ad) (w := gYw v) h1
    rw [f0] at e
    obtain ⟨r1, r2, K⟩ := ys_more hRc hL hl h2 h3 h4 hln hlt e kk
    refine va_newq hx hb hown (hts _ (hg _ (zGw_pk b2 rfl))) hAO hK hP hD hS (fun z hz => Nat.le_trans hO.2.2.1 hz) x1 x2 (by omega) r1 r2 hdg (fun z cA H1 K1 P1 D1 S1 => ?_)
    have ec : cA = dA 3 := by
      obtain ⟨_, _, _, _, _, g1⟩ := (K1.2 4 (cA, .object "NumberComes$Text") rfl).2
      obtain ⟨_, _, _, _, _, g2⟩ := (hK.2 3 (dA 3, .object "NumberComes$Text") rfl).2
      exact Option.some.inj (g1.symm.trans g2)
    subst ec
    exact K z H1 P1 D1 S1
  · cases ho
theorem ys_aast (hc : yC p s m args c cc mL o base L xs D dA ad0 adV Ts) (hP : va_P D zCl (yWs dA ad (gYw v)) H) (hD : va_D (fun a => base ≤ a) (yWs dA ad (gYw v))) (hS : va_S (fun a => base ≤ a) s.heap H locs) {c0 d0 : Nat} {i : Int32} {r : List Value} (h : (qKd c0 = 36 ∧ 0 < c0 ∧ c0 < v.2.2) ∧ (qKd d0 = 4 ∧ 0 < d0 ∧ d0 < v.2.2) ∧ ¬ i < 0 ∧ qIx i < qLn c0) (hdg : decode cc pc = .ok (.aastore, 1))
    (kk : ∀ (H1 : Heap) (locs1 : List Loc), va_P D zCl (yWs dA ad (gYw (v.1, (c0, qIx i, d0) :: v.2.1, v.2.2))) H1 → va_D (fun a => base ≤ a) (yWs dA ad (gYw (v.1, (c0, qIx i, d0) :: v.2.1, v.2.2))) → va_S (fun a => base ≤ a) s.heap H1 locs1 → W p l e R s m args below meth c H1 locs1 cells slots Z (F0 m (pc + 1) lr r)) : W p l e R s m args below meth c H locs cells slots Z (F0 m pc lr (.ref (ad d0) :: .int i :: .ref (ad c0) :: r)) := by
  obtain ⟨hx, hb, hml, hown, hts, hg, ⟨hK, -, -⟩, hO, hAO⟩ := hc
  obtain ⟨⟨k1, k2, k3⟩, ⟨j1, j2, j3⟩, i1, i2⟩ := h
  have he1 := yWs_at (dA := dA) (ad := ad) (w := gYw v) k2 k3
  rw [yCe_36 k1] at he1
  have he2 := yWs_at (dA := dA) (ad := ad) (w := gYw v) j2 j3
  rw [yCe_o (k := 3) j1 (by decide)] at he2
  have e1 : yWs dA ad (gYw (v.1, (c0, qIx i, d0) :: v.2.1, v.2.2)) = (yWs dA ad (gYw v)).set (c0 - 1) (ad c0, .inl (dA 3, qLn c0, .inr (.inr (.inr (.inr (va_up (fun j => ((gYw v).2.2.1 c0 j).map ad) i.toNatClampNeg (some (ad d0)))))))) := by
    rw [yWs_set (w := gYw v) (w' := gYw (v.1, (c0, qIx i, d0) :: v.2.1, v.2.2)) rfl k2 k3 (fun c' h => yCe_R (w := gYw v) (c := c0) (f := qIx i) (v := some d0) h), yCe_36 k1]
    have : (fun j => ((gYw (v.1, (c0, qIx i, d0) :: v.2.1, v.2.2)).2.2.1 c0 j).map ad) = va_up (fun j => ((gYw v).2.2.1 c0 j).map ad) i.toNatClampNeg (some (ad d0)) := by
      funext j
      show (if c0 = c0 ∧ j = qIx i then some d0 else yGr v.2.1 c0 j).map ad = if j = qIx i then some (ad d0) else (yGr v.2.1 c0 j).map ad
      by_cases hj : j = qIx i
      · rw [if_pos ⟨rfl, hj⟩, if_pos hj]; rfl
      · rw [if_neg (fun g => hj g.2), if_neg hj]
    rw [this]
  refine va_astq hx hb hK hP hD hS (c0 - 1) 3 (d0 - 1) 3 (r := ("NumberComes$Text", zT3, 8)) he1 rfl he2 rfl (fun g => g.elim i1 (fun g => by have : qIx i < qLn c0 := i2; unfold qIx at this; omega)) hdg (fun H1 locs1 p1 d1 s1 => kk H1 locs1 ?_ ?_ s1)
  · rw [e1]; exact p1
  · rw [e1]; exact d1
theorem yMb_ok {q : zMI} (h : yMb q = true) (hcd : zPk q.2.2.2.2.2.2.2.1 = some (.code q.1 q.2.1 q.2.2.1 q.2.2.2.1)) : Cond.code q.1 q.2.1 q.2.2.1 none ∈ lw_tbl ∧ Cond.instanceMethod q.1 ∈ lw_tbl ∧ Cond.initialized q.1.cls ∈ lw_tbl ∧ zOwn q.2.2.2.2.2.2.1 = q.1.cls ∧ (q.1.cls ≠ "java/lang/invoke/MethodHandle" ∧ q.1.cls ≠ "java/lang/invoke/VarHandle" ∧ (parseMethodDescriptor q.1.desc).map (fun d => d.parameters.length) = some q.2.2.2.2.2.1) ∧ plainFor q.1 = true ∧ q.2.2.1 ≤ 24 ∧ q.1.name = "<init>" ∧ q.2.2.2.1 = none := by
  obtain ⟨y, b, mL, rt, st, na, o, p1, p2, p3, p4⟩ := q
  dsimp only at hcd ⊢
  simp only [yMb, Bool.and_eq_true, decide_eq_true_eq] at h
  obtain ⟨⟨⟨⟨⟨⟨⟨⟨h0, h1⟩, h2⟩, h3⟩, h4⟩, h5⟩, h6⟩, h7⟩, h8⟩ := h
  subst h0
  exact ⟨zPk_in hcd, zPk_in h1, zPk_in h2, h3, h4, h5, h6, h7, rfl⟩
theorem ys_inv (hc : yC p s m args c cc mL o base L xs D dA ad0 adV Ts) (hR : d + 1 ≤ R.frames ∧ 64 * d + 64 ≤ R.locals) (hRc : n1 - n0 ≤ R.cells ∧ ySz n1 - ySz n0 ≤ R.slots) (h00 : 0 < n0)
    (hCall : ∀ M a v v' ad, C M a v = some v' → ∀ mi : zMI, yMi M = some mi → Met l mi.1 (zWm mi.1 mi.2.1 mi.2.2.1 mi.2.2.2.1) (yRm d v.2.2 (yMk M)) (yPc D dA ad adV base L xs a v) (yQc D dA ad base v v') (yMk M) (ySz (v.2.2 + yMk M) - ySz v.2.2) (fun q => base ≤ q))
    (hL : yLe n0 ad0 ad) (hP : va_P D zCl (yWs dA ad (gYw v)) H) (hD : va_D (fun a => base ≤ a) (yWs dA ad (gYw v))) (hS : va_S (fun a => base ≤ a) s.heap H locs) (hl : zLv ad ls lr mL) {idx : Nat} {au : List Nat} {cs : Int} (ho : yOp o mL pc (.invokespecial idx) au cs = true) (hne : Nat.beq (q2 au) 10 = false) (hdg : decode cc pc = .ok (.invokespecial idx, 3)) {v' : yw} (hC : C (q0 au) (st.take (q1 au)).reverse v = some v')
    (h : (q1 au ≤ st.length ∧ yFr (st.take (q1 au)).reverse = true ∧ qCat (st.drop (q1 au)) ≤ 8) ∧ yAll ls (st.drop (q1 au)) v = true ∧ n0 ≤ v.2.2 ∧ v'.2.2 = v.2.2 + yMk (q0 au) ∧ v'.2.2 ≤ n1)
    (kk : yX p l e R s m args below meth c Z mL n0 base D dA ad0 (pc + 3, ls, st.drop (q1 au), v')) : W p l e R s m args below meth c H locs (v.2.2 - n0) (ySz v.2.2 - ySz n0) Z (F0 m pc lr (st.map (zV ad))) := by
  obtain ⟨hx, hb, hml, hown, hts, hg, hE, hO, hAO⟩ := hc
  have W1 : ∀ w, w ∈ lw_tbl → goodWord w = true → w.before args s = true := fun w h1 h2 => hts w (hg w (zGw_in h1 h2))
  obtain ⟨⟨hle0, hfr, hcat⟩, hal, h2, h3, h4⟩ := h
  unfold yAll at hal
  simp only [Bool.and_eq_true] at hal
  obtain ⟨⟨a1, a2⟩, a3⟩ := hal
  unfold yOp at ho
  rw [hne] at ho
  dsimp only at ho
  split at ho
  · rename_i M nest pq hlk
    split at ho
    · rename_i y b2 mL2 rt2 stc na o2 pr hmi
      simp only [Bool.and_eq_true, decide_eq_true_eq] at ho
      obtain ⟨⟨⟨h5, h6⟩, h7⟩, h8⟩ := ho
      have hmem := zLk_mem hmi
      obtain ⟨k1, k2, k3, k4, k5, k6, k7, k8, k9⟩ := yMb_ok (List.all_eq_true.mp yMok _ hmem) (yMc _ hmem)
      dsimp only at k1 k2 k3 k4 k5 k6 k7 k8 k9
      subst k9
      obtain ⟨c0, tl, hrev⟩ : ∃ c0 tl, (st.take (q1 au)).reverse = Value.ref c0 :: tl := by
        unfold yFr at hfr
        split at hfr
        · exact ⟨_, _, by assumption⟩
        · cases hfr
      have hst : st.map (zV ad) = (tl.map (zV ad)).reverse ++ .ref (ad c0) :: (st.drop (q1 au)).map (zV ad) := by
        have e1 : st = st.take (q1 au) ++ st.drop (q1 au) := (List.take_append_drop _ _).symm
        have e2 : st.take (q1 au) = tl.reverse ++ [.ref c0] := by rw [← List.reverse_reverse (st.take (q1 au)), hrev]; simp
        rw [e2] at e1
        generalize hr : st.drop (q1 au) = r at e1
        rw [e1]
        simp [zV]
      have htl : tl.length = na := by
        have : (st.take (q1 au)).reverse.length = tl.length + 1 := by rw [hrev]; rfl
        rw [List.length_reverse, List.length_take, Nat.min_eq_left hle0] at this
        omega
      rw [h5] at hC h3
      have hMet := hCall _ _ _ _ ad hC _ hmi
      dsimp only at hMet
      have hcat8 : (((st.drop (q1 au)).map (zV ad)).map fun v => v.category).sum ≤ 8 := by rw [zCat]; exact hcat
      obtain ⟨r1, r2, r3, r4⟩ := ys_room hRc h2 (show v.2.2 ≤ v'.2.2 by omega) h4
      have e1 : v'.2.2 - v.2.2 = yMk M := by omega
      rw [e1] at r1 r3
      rw [h3] at r2 r4
      have hpre : PreS s H (yPc D dA ad adV base L xs (st.take (q1 au)).reverse v) (.ref (ad c0) :: tl.map (zV ad)) := ⟨yPc_blind, fun U hU hW => by
        refine ⟨?_, by rw [hU]; exact hP, hD, zEnv_le hL (zEnv_warm hW hE), zOld_le hL h00 (zOld_moved hW.alike (by rw [hU]; exact zOld_kept hO hS)), va_AO.moved hW.alike hAO⟩
        rw [hrev]; rfl⟩
      have hlrR : (yRm d v.2.2 (yMk M)).frames + 1 ≤ R.frames ∧ 8 + (mL2 + 11) + (yRm d v.2.2 (yMk M)).locals ≤ R.locals := ⟨hR.1, by show 8 + (mL2 + 11) + 64 * d ≤ R.locals; omega⟩
      have fin : va_Run p l e R s m args below meth c H locs (v.2.2 - n0) (ySz v.2.2 - ySz n0) (yMk M) (ySz (v.2.2 + yMk M) - ySz v.2.2) (F0 m pc lr (st.map (zV ad))) ((st.drop (q1 au)).map (zV ad)) (yQc D dA ad base v v' (Value.ref (ad c0) :: tl.map (zV ad)).toArray) (fun q => base ≤ q) → W p l e R s m args below meth c H locs (v.2.2 - n0) (ySz v.2.2 - ySz n0) Z (F0 m pc lr (st.map (zV ad))) := by
        intro hr T hT X
        obtain ⟨v0, st₀, t, T', L', g0, X', hL', g1, g2, ⟨⟨hv, ad', hle, p1, d1⟩, hz, hk⟩, stp⟩ := hr T hT X
        cases hv
        rw [g0] at hz hk
        have hS1 : va_S (fun a => base ≤ a) s.heap T'.heap (locs ++ L') := ⟨Nat.le_trans hS.1 (by rw [g1]; exact hz), fun q h1 h2 => by rw [g1, hk q (Nat.lt_of_lt_of_le h1 hS.1) h2]; exact hS.2.1 q h1 h2, fun q hq => by
            rcases List.mem_append.mp hq with h | h
            · exact hS.2.2 q h
            · exact hL' q h⟩
        rw [← g1] at p1
        have K := kk ad' T'.heap (locs ++ L') lr (hL.tr hle h2) p1 d1 hS1 (yLv_le hle a1 hl)
        rw [show ((pc + 3, ls, st.drop (q1 au), v') : gYs).2.2.1 = st.drop (q1 au) from rfl, ySt_le hle a2, show ((pc + 3, ls, st.drop (q1 au), v') : gYs).2.2.2 = v' from rfl] at K
        rw [← r3, h3, ← r4] at K
        obtain ⟨t2, q1', q2'⟩ := K T' rfl X'
        exact ⟨t2, stp t2 q1', q2'⟩
      rw [hst] at fin ⊢
      by_cases hn : nest = 0
      · rw [if_pos hn] at h7
        exact fin (va_runI (As := tl.map (zV ad)) (rest := (st.drop (q1 au)).map (zV ad)) ⟨hx, hb, hml, hown, hts⟩ hMet ⟨callB_of na hts (zWm_good hg k1) rfl rfl rfl (W1 _ k3 rfl) (W1 _ (zPk_in h7) rfl) k5 hlrR, k8, W1 _ k2 rfl⟩ hpre rfl (by simp [htl]) hl.1 rfl (lv_room hcat8) hdg ⟨r1, r2⟩)
      · rw [if_neg hn] at h7
        exact fin (va_runIN (As := tl.map (zV ad)) (rest := (st.drop (q1 au)).map (zV ad)) ⟨hx, hb, hml, hown, hts⟩ hMet ⟨va_cnB na hts (zWm_good hg k1) rfl rfl rfl (hE.2.1 _ (List.mem_filter.mpr ⟨zPk_in h7, rfl⟩)) (W1 _ k3 rfl) k5 hlrR, k8, W1 _ k2 rfl⟩ hpre rfl (by simp [htl]) hl.1 rfl (lv_room hcat8) hdg ⟨r1, r2⟩)
    · cases ho
  · cases ho
end YStep2
