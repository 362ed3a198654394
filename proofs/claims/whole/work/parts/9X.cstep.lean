/-! One instruction of a constructor, on the machine. -/
def yLn (c : Nat) : Nat := match zSo[qKd c - 1]? with
  | some l => l.length
  | none => qLn c
def ySz : Nat → Nat
  | 0 => 0
  | n + 1 => ySz n + yLn n
theorem ySz_le {a : Nat} : ∀ {b : Nat}, a ≤ b → ySz a ≤ ySz b
  | 0, h => by rw [Nat.le_zero.mp h]; exact Nat.le_refl _
  | b + 1, h => by
    rcases Nat.lt_or_ge a (b + 1) with g | g
    · exact Nat.le_trans (ySz_le (b := b) (by omega)) (Nat.le_add_right _ _)
    · rw [show a = b + 1 by omega]; exact Nat.le_refl _
def yLe (n : Nat) (ad ad' : Nat → Nat) : Prop := ∀ c, c < n ∨ 100 ≤ c → ad' c = ad c
theorem yLe.rf {n : Nat} {ad : Nat → Nat} : yLe n ad ad := fun _ _ => rfl
theorem yLe.tr {n n' : Nat} {ad ad' ad'' : Nat → Nat} (h : yLe n ad ad') (h' : yLe n' ad' ad'') (hn : n ≤ n') : yLe n ad ad'' := fun c hc => (h' c (by omega)).trans (h c hc)
theorem yRd_ref {n c : Nat} (h : yRd n (.ref c) = true) : c < n := Nat.le_of_ble_eq_true h
theorem yV_le {n : Nat} {ad ad' : Nat → Nat} (h : yLe n ad ad') {v : Value} (hv : yRd n v = true) : zV ad' v = zV ad v := by
  cases v
  case ref c => show Value.ref (ad' c) = Value.ref (ad c); rw [h c (Or.inl (yRd_ref hv))]
  all_goals rfl
theorem ySt_le {n : Nat} {ad ad' : Nat → Nat} (h : yLe n ad ad') {st : List Value} (hs : st.all (yRd n) = true) : st.map (zV ad') = st.map (zV ad) := List.map_congr_left (fun v hv => yV_le h (List.all_eq_true.mp hs v hv))
theorem qGet_mem : ∀ {ls : qL} {i : Nat} {v : Value}, qGet ls i = some v → some v ∈ ls
  | [], _, _, h => by cases h
  | a :: t, 0, v, h => by rw [show a = some v from h]; exact List.mem_cons_self
  | a :: t, i + 1, v, h => List.mem_cons_of_mem _ (qGet_mem (ls := t) (i := i) h)
theorem yLv_le {n mL : Nat} {ad ad' : Nat → Nat} (h : yLe n ad ad') {ls : qL} {lr : Array Slot} (hs : yLd n ls = true) (hl : zLv ad ls lr mL) : zLv ad' ls lr mL := by
  refine ⟨hl.1, hl.2.1, fun i v hv => ?_⟩
  have h1 := List.all_eq_true.mp hs _ (qGet_mem hv)
  rw [yV_le h h1]
  exact hl.2.2 i v hv
theorem yGr_mem : ∀ {l : List (Nat × Nat × Nat)} {c f d : Nat}, yGr l c f = some d → ∃ q ∈ l, q.1 = c ∧ q.2.2 = d
  | [], _, _, _, h => by cases h
  | q :: t, c, f, d, h => by
    unfold yGr at h
    split at h
    · rename_i g
      exact ⟨q, List.mem_cons_self, g.1.symm, Option.some.inj h⟩
    · obtain ⟨q', h1, h2⟩ := yGr_mem (l := t) h
      exact ⟨q', List.mem_cons_of_mem _ h1, h2⟩
theorem yGi_0 : ∀ {l : List (Nat × Nat × Int32)} {n c f : Nat}, (∀ q ∈ l, q.1 < n) → n ≤ c → yGi l c f = 0
  | [], _, _, _, _, _ => rfl
  | q :: t, n, c, f, h, hc => by
    unfold yGi
    have := h q List.mem_cons_self
    rw [if_neg (by omega)]
    exact yGi_0 (fun q' hq' => h q' (List.mem_cons_of_mem _ hq')) hc
theorem yOk_p {v : yw} (h : yOk v = true) : (∀ q ∈ v.1, q.1 < v.2.2) ∧ (∀ q ∈ v.2.1, q.1 < v.2.2 ∧ q.2.2 < v.2.2) ∧ 1 ≤ v.2.2 ∧ v.2.2 ≤ 100 := by
  unfold yOk at h
  simp only [Bool.and_eq_true] at h
  obtain ⟨⟨⟨h1, h2⟩, h3⟩, h4⟩ := h
  refine ⟨fun q hq => Nat.le_of_ble_eq_true (List.all_eq_true.mp h1 q hq), fun q hq => ?_, Nat.le_of_ble_eq_true h3, Nat.le_of_ble_eq_true h4⟩
  have h5 := List.all_eq_true.mp h2 q hq
  simp only [Bool.and_eq_true] at h5
  exact ⟨Nat.le_of_ble_eq_true h5.1, Nat.le_of_ble_eq_true h5.2⟩
theorem yOk_Z {v : yw} (h : yOk v = true) : yZ (gYw v) := by
  obtain ⟨h1, h2, -, -⟩ := yOk_p h
  intro c hc i
  refine ⟨yGi_0 h1 hc, rfl, ?_⟩
  show yGr v.2.1 c i = none
  cases e : yGr v.2.1 c i with
  | none => rfl
  | some d =>
    obtain ⟨q, hq, e1, -⟩ := yGr_mem e
    have := (h2 q hq).1
    have hc : v.2.2 ≤ c := hc
    omega
theorem yCe_le {dA : Nat → ClassId} {ad ad' : Nat → Nat} {v : yw} (h : yLe v.2.2 ad ad') (ho : yOk v = true) (c : Nat) : yCe dA ad' (gYw v) c = yCe dA ad (gYw v) c := by
  have key : ∀ c f, ((gYw v).2.2.1 c f).map ad' = ((gYw v).2.2.1 c f).map ad := by
    intro c f
    show (yGr v.2.1 c f).map ad' = (yGr v.2.1 c f).map ad
    cases e : yGr v.2.1 c f with
    | none => rfl
    | some d =>
      obtain ⟨q, hq, -, e2⟩ := yGr_mem e
      have := ((yOk_p ho).2.1 q hq).2
      show some (ad' d) = some (ad d)
      rw [h d (Or.inl (by omega))]
  unfold yCe yFs yFv
  simp only [key]
theorem yWs_le {dA : Nat → ClassId} {ad ad' : Nat → Nat} {v : yw} (h : yLe v.2.2 ad ad') (ho : yOk v = true) : yWs dA ad' (gYw v) = yWs dA ad (gYw v) := by
  unfold yWs
  apply List.map_congr_left
  intro c hc
  have hc : c < v.2.2 - 1 := List.mem_range.mp hc
  rw [yCe_le h ho, h (c + 1) (Or.inl (by omega))]
theorem yCe_33 {dA : Nat → ClassId} {ad : Nat → Nat} {w : qW} {c : Nat} (h : qKd c = 33) : yCe dA ad w c = .inl (dA 0, qLn c, .inl (fun j => w.1 c j)) := by unfold yCe; rw [h]; rfl
theorem yCe_34 {dA : Nat → ClassId} {ad : Nat → Nat} {w : qW} {c : Nat} (h : qKd c = 34) : yCe dA ad w c = .inl (dA 1, qLn c, .inl (fun j => w.1 c j)) := by unfold yCe; rw [h]; rfl
theorem yCe_35 {dA : Nat → ClassId} {ad : Nat → Nat} {w : qW} {c : Nat} (h : qKd c = 35) : yCe dA ad w c = .inl (dA 2, qLn c, .inr (.inl (fun j => w.2.1 c j))) := by unfold yCe; rw [h]; rfl
theorem yCe_36 {dA : Nat → ClassId} {ad : Nat → Nat} {w : qW} {c : Nat} (h : qKd c = 36) : yCe dA ad w c = .inl (dA 3, qLn c, .inr (.inr (.inr (.inr (fun j => (w.2.2.1 c j).map ad))))) := by unfold yCe; rw [h]; rfl
/-- the world with one more cell, at q -/
theorem yWs_more {dA : Nat → ClassId} {ad : Nat → Nat} {v : yw} {q : Nat} {x : va_E} (ho : yOk v = true) (h1 : v.2.2 < 100) (hx : yCe dA ad (gYw v) v.2.2 = x) : yLe v.2.2 ad (fun c => if c = v.2.2 then q else ad c) ∧ yWs dA (fun c => if c = v.2.2 then q else ad c) (gYw (v.1, v.2.1, v.2.2 + 1)) = yWs dA ad (gYw v) ++ [(q, x)] := by
  have hle : yLe v.2.2 ad (fun c => if c = v.2.2 then q else ad c) := fun c hc => by
    show (if c = v.2.2 then q else ad c) = ad c
    rw [if_neg (by omega)]
  refine ⟨hle, ?_⟩
  have e := yWs_new (dA := dA) (ad := fun c => if c = v.2.2 then q else ad c) (w := gYw v) (yOk_p ho).2.2.1
  rw [show gYw (v.1, v.2.1, v.2.2 + 1) = qNew (gYw v) from rfl, e, yWs_le hle ho]
  have e2 : qCnt (gYw v) = v.2.2 := rfl
  rw [e2, yCe_le hle ho, hx]
  simp
theorem zSoN {k : Nat} {q : vw_C} (h : zCl[k]? = some q) : (zSo.getD k []).length = q.2.2 ∧ k < 13 := by
  have hk : k < 13 := (List.getElem?_eq_some_iff.mp h).1
  have key : ∀ k : Fin 13, (zCl[k.val]?).map (fun q => q.2.2) = some (zSo.getD k.val []).length := by decide +kernel
  have h1 := key ⟨k, hk⟩
  rw [show zCl[(⟨k, hk⟩ : Fin 13).val]? = some q from h] at h1
  exact ⟨(Option.some.inj h1).symm, hk⟩
theorem yLn_o {c k : Nat} {q : vw_C} (hk : qKd c = k + 1) (h : zCl[k]? = some q) : yLn c = q.2.2 := by
  obtain ⟨h1, h2⟩ := zSoN h
  unfold yLn
  rw [hk, show k + 1 - 1 = k from rfl]
  rw [List.getD_eq_getElem?_getD] at h1
  cases e : zSo[k]? with
  | none =>
    have : zSo.length ≤ k := List.getElem?_eq_none_iff.mp e
    have e13 : zSo.length = 13 := rfl
    omega
  | some l =>
    rw [e] at h1
    exact h1
theorem yLn_a {c : Nat} (hk : 33 ≤ qKd c) : yLn c = qLn c := by
  unfold yLn
  have e13 : zSo.length = 13 := rfl
  rw [List.getElem?_eq_none (by omega)]
def yC (p : Program) (s : State) (m : MethodId) (args : Array Value) (c : Code) (cc : ByteArray) (mL o base L : Nat) (xs : Nat → Int32) (D : va_G) (dA : Nat → ClassId) (ad adV : Nat → Nat) (Ts : List Cond) : Prop :=
  p.tables.exec = Jvm.exec ∧ c.code = cc ∧ c.maxLocals = mL ∧ s.vm.findClass (zOwn o) = some m.cls ∧ (∀ w ∈ Ts, w.before args s = true) ∧ (∀ w ∈ zGw, w ∈ Ts) ∧ zEnv D dA ad s ∧ zOld ad adV base L xs s s.heap ∧ va_AO "NumberComes$Text" s
def yX (p : Program) (l : Launch) (e : Env) (R : Room) (s : State) (m : MethodId) (args : Array Value) (below : List Frame) (meth : Method) (c : Code) (Z : State → Prop) (mL n0 base : Nat) (D : va_G) (dA : Nat → ClassId) (ad0 : Nat → Nat) (q : gYs) : Prop :=
  ∀ (ad : Nat → Nat) (H : Heap) (locs : List Loc) (lr : Array Slot), yLe n0 ad0 ad → va_P D zCl (yWs dA ad (gYw q.2.2.2)) H → va_D (fun a => base ≤ a) (yWs dA ad (gYw q.2.2.2)) → va_S (fun a => base ≤ a) s.heap H locs → zLv ad q.2.1 lr mL → W p l e R s m args below meth c H locs (q.2.2.2.2.2 - n0) (ySz q.2.2.2.2.2 - ySz n0) Z (F0 m q.1 lr (q.2.2.1.map (zV ad)))
def yE (p : Program) (l : Launch) (e : Env) (R : Room) (s : State) (m : MethodId) (args : Array Value) (below : List Frame) (meth : Method) (c : Code) (Z : State → Prop) (cc : ByteArray) (n0 base : Nat) (D : va_G) (dA : Nat → ClassId) (ad0 : Nat → Nat) (v : yw) : Prop :=
  ∀ (ad : Nat → Nat) (H : Heap) (locs : List Loc) (lr : Array Slot) (pc : Nat), decode cc pc = .ok (.return_, 1) → yLe n0 ad0 ad → va_P D zCl (yWs dA ad (gYw v)) H → va_D (fun a => base ≤ a) (yWs dA ad (gYw v)) → va_S (fun a => base ≤ a) s.heap H locs → W p l e R s m args below meth c H locs (v.2.2 - n0) (ySz v.2.2 - ySz n0) Z (F0 m pc lr [])
def yPc (D : va_G) (dA : Nat → ClassId) (ad adV : Nat → Nat) (base L : Nat) (xs : Nat → Int32) (a : List Value) (v : yw) : Array Value → State → Prop := fun args U => args = (a.map (zV ad)).toArray ∧ va_P D zCl (yWs dA ad (gYw v)) U.heap ∧ va_D (fun q => base ≤ q) (yWs dA ad (gYw v)) ∧ zEnv D dA ad U ∧ zOld ad adV base L xs U U.heap ∧ va_AO "NumberComes$Text" U
def yQc (D : va_G) (dA : Nat → ClassId) (ad : Nat → Nat) (base : Nat) (v v' : yw) : Array Value → State → Outcome → State → Prop := fun _ st o t => (o = .returned none ∧ ∃ ad', yLe v.2.2 ad ad' ∧ va_P D zCl (yWs dA ad' (gYw v')) t.heap ∧ va_D (fun q => base ≤ q) (yWs dA ad' (gYw v'))) ∧ va_F (fun q => base ≤ q) st t
def yRm (d n k : Nat) : Room := { frames := d, cells := k, slots := ySz (n + k) - ySz n, locals := 64 * d }
theorem zEnv_le {D : va_G} {dA : Nat → ClassId} {ad ad' : Nat → Nat} {n : Nat} {s : State} (h : yLe n ad ad') (hE : zEnv D dA ad s) : zEnv D dA ad' s := by
  refine ⟨hE.1, hE.2.1, fun i idx hi => ?_⟩
  obtain ⟨tx, h1⟩ := hE.2.2 i idx hi
  rw [← h (1000 + i) (Or.inr (by omega))] at h1
  exact ⟨tx, h1⟩
theorem zOld_le {ad ad' adV : Nat → Nat} {base L n : Nat} {xs : Nat → Int32} {U : State} {H : Heap} (h : yLe n ad ad') (hn : 0 < n) (hO : zOld ad adV base L xs U H) : zOld ad' adV base L xs U H := by
  unfold zOld at hO ⊢
  rw [h 0 (Or.inl hn)]
  have e : (fun i => ad' (1000 + i)) = fun i => ad (1000 + i) := funext fun i => h (1000 + i) (Or.inr (by omega))
  rw [e]
  exact hO
theorem yPc_blind {D : va_G} {dA : Nat → ClassId} {ad adV : Nat → Nat} {base L : Nat} {xs : Nat → Int32} {a : List Value} {v : yw} : FrameBlind (yPc D dA ad adV base L xs a v) := fun args U g mk h =>
  ⟨h.1, h.2.1, h.2.2.1, zEnv_same (s := U) rfl h.2.2.2.1, zOld_moved (Vm.Alike.refl U.vm) h.2.2.2.2.1, va_AO.moved (Vm.Alike.refl U.vm) h.2.2.2.2.2⟩
section YStep
variable {p : Program} {l : Launch} {e : Env} {R : Room} {s : State} {m : MethodId} {args : Array Value} {below : List Frame} {meth : Method} {c : Code} {Z : State → Prop} {cc : ByteArray} {mL o base L d n0 n1 : Nat} {xs : Nat → Int32} {D : va_G} {dA : Nat → ClassId} {ad0 ad adV : Nat → Nat} {Ts : List Cond} {pc : Nat} {ls : qL} {st : List Value} {v : yw} {H : Heap} {locs : List Loc} {lr : Array Slot} {cells slots : Nat}
theorem ys_get (hc : yC p s m args c cc mL o base L xs D dA ad0 adV Ts) (hP : va_P D zCl (yWs dA ad (gYw v)) H) {idx c0 : Nat} {au : List Nat} {r : List Value} (hf : zFo o idx au false = true) (hk : qKd c0 = q0 au) (g1 : 0 < c0) (g2 : c0 < v.2.2) (hdg : decode cc pc = .ok (.getfield idx, 3))
    (kk : W p l e R s m args below meth c H locs cells slots Z (F0 m (pc + 3) lr (yFv ad (gYw v) c0 (q1 au) (q2 au) :: r))) : W p l e R s m args below meth c H locs cells slots Z (F0 m pc lr (.ref (ad c0) :: r)) := by
  obtain ⟨hx, hb, hml, hown, hts, hg, ⟨hK, -, -⟩, -, -⟩ := hc
  unfold zFo at hf
  split at hf
  · rename_i k f pq hlk
    split at hf
    · rename_i q hq
      simp only [Bool.and_eq_true, decide_eq_true_eq] at hf
      obtain ⟨⟨⟨⟨⟨h1, h2⟩, h3⟩, h4⟩, h5⟩, -⟩ := hf
      obtain ⟨i1, -, -⟩ := zCl_ok hq
      have hk13 : k < 13 := (List.getElem?_eq_some_iff.mp hq).1
      rw [h1] at hk
      have he := yWs_at (dA := dA) (ad := ad) (w := gYw v) g1 g2
      rw [yCe_o hk hk13] at he
      obtain ⟨hv, -⟩ := yFs_at (ad := ad) (w := gYw v) (c := c0) h5
      rw [h2] at kk
      exact va_get hx hb hts (fun w hw => hg w (zGw_in (i1 w hw) (u_ws_good hw))) hown hK hP (c0 - 1) he hq f h3 (hts _ (hg _ (zGw_pk h4 rfl))) (fun _ h => h) hv hdg kk
    · cases hf
  · cases hf
theorem ys_put (hc : yC p s m args c cc mL o base L xs D dA ad0 adV Ts) (hin : o = 13 ∨ meth.name = "<init>") (hP : va_P D zCl (yWs dA ad (gYw v)) H) (hD : va_D (fun a => base ≤ a) (yWs dA ad (gYw v))) (hS : va_S (fun a => base ≤ a) s.heap H locs) {idx c0 : Nat} {au : List Nat} {r : List Value} {x : Value} {v' : yw} {cs : Int} (ho : yOp o mL pc (.putfield idx) au cs = true) (hk : qKd c0 = q0 au) (g1 : 0 < c0) (g2 : c0 < v.2.2) (hdg : decode cc pc = .ok (.putfield idx, 3))
    (hn : v'.2.2 = v.2.2) (hv : yFv ad (gYw v') c0 (q1 au) (q2 au) = x) (hof : ∀ f' so', f' ≠ q1 au → yFv ad (gYw v') c0 f' so' = yFv ad (gYw v) c0 f' so') (hoc : ∀ c', c' ≠ c0 → yCe dA ad (gYw v') c' = yCe dA ad (gYw v) c') (hfit : ∀ k, q0 au = k + 1 → ((zSo[k]?).bind (fun l => l[q1 au]?)) = some (q2 au) → narrow (zY k (q1 au)) x = x ∧ fits (zY k (q1 au)) x = true)
    (kk : ∀ (H1 : Heap) (locs1 : List Loc), va_P D zCl (yWs dA ad (gYw v')) H1 → va_D (fun a => base ≤ a) (yWs dA ad (gYw v')) → va_S (fun a => base ≤ a) s.heap H1 locs1 → W p l e R s m args below meth c H1 locs1 cells slots Z (F0 m (pc + 3) lr r)) : W p l e R s m args below meth c H locs cells slots Z (F0 m pc lr (x :: .ref (ad c0) :: r)) := by
  obtain ⟨hx, hb, hml, hown, hts, hg, ⟨hK, -, -⟩, -, -⟩ := hc
  unfold yOp at ho
  dsimp only at ho
  rw [Bool.and_eq_true] at ho
  obtain ⟨hf, ho2⟩ := ho
  unfold zFo at hf
  split at hf
  · rename_i k f pq hlk
    rw [hlk] at ho2
    dsimp only at ho2
    split at hf
    · rename_i q hq
      rw [hq] at ho2
      dsimp only at ho2
      simp only [Bool.and_eq_true, decide_eq_true_eq] at hf
      obtain ⟨⟨⟨⟨⟨h1, h2⟩, h3⟩, h4⟩, h5⟩, -⟩ := hf
      obtain ⟨i1, i2, i3⟩ := zCl_ok hq
      have hk13 : k < 13 := (List.getElem?_eq_some_iff.mp hq).1
      rw [h1] at hk
      have he := yWs_at (dA := dA) (ad := ad) (w := gYw v) g1 g2
      rw [yCe_o hk hk13] at he
      obtain ⟨hv0, hl0⟩ := yFs_at (ad := ad) (w := gYw v) (c := c0) h5
      obtain ⟨n1, n2⟩ := hfit k h1 (by rw [h2]; exact h5)
      rw [h2] at n1 n2 hv hof
      have e1 : yWs dA ad (gYw v') = (yWs dA ad (gYw v)).set (c0 - 1) (ad c0, .inr (k, (yFs ad (gYw v) c0 k).set f x)) := by
        rw [yWs_set (w := gYw v) (w' := gYw v') hn g1 g2 hoc, yCe_o hk hk13, yFs_set h5 hv hof]
      have hnew : o ≠ 13 := fun e13 => by subst e13; cases hlk
      have hin2 : meth.name = "<init>" := hin.resolve_left hnew
      cases hfin : (q.2.1 f).2.2.2 with
      | false =>
        refine va_put hx hb hts (fun w hw => hg w (zGw_in (i1 w hw) (u_ws_good hw))) (zY k) i3 i2 hown hK hP hD hS (c0 - 1) he hq f h3 (hts _ (hg _ (zGw_pk h4 rfl))) (fun _ h => h) hfin (i3 f h3) n1 n2 hl0 hdg (fun H1 locs1 p1 d1 s1 => kk H1 locs1 ?_ ?_ s1)
        · rw [e1]; exact p1
        · rw [e1]; exact d1
      | true =>
        rw [hfin] at ho2
        have hdecl : (q.2.1 f).1 = zOwn o := by simpa using ho2
        refine va_putF hx hb hts (fun w hw => hg w (zGw_in (i1 w hw) (u_ws_good hw))) (zY k) i3 i2 hown hK hP hD hS (c0 - 1) he hq f h3 (hts _ (hg _ (zGw_pk h4 rfl))) (fun _ h => h) hfin hin2 hdecl (i3 f h3) n1 n2 hl0 hdg (fun H1 locs1 p1 d1 s1 => kk H1 locs1 ?_ ?_ s1)
        · rw [e1]; exact p1
        · rw [e1]; exact d1
    · cases hf
  · cases hf
theorem ys_room (hRc : n1 - n0 ≤ R.cells ∧ ySz n1 - ySz n0 ≤ R.slots) {k k' : Nat} (h0 : n0 ≤ k) (h1 : k ≤ k') (h2 : k' ≤ n1) : (k - n0) + (k' - k) ≤ R.cells ∧ (ySz k - ySz n0) + (ySz k' - ySz k) ≤ R.slots ∧ (k - n0) + (k' - k) = k' - n0 ∧ (ySz k - ySz n0) + (ySz k' - ySz k) = ySz k' - ySz n0 := by
  have a := ySz_le h0
  have b := ySz_le h1
  have c := ySz_le h2
  omega
theorem ys_new (hc : yC p s m args c cc mL o base L xs D dA ad0 adV Ts) (hRc : n1 - n0 ≤ R.cells ∧ ySz n1 - ySz n0 ≤ R.slots) (hL : yLe n0 ad0 ad) (hP : va_P D zCl (yWs dA ad (gYw v)) H) (hD : va_D (fun a => base ≤ a) (yWs dA ad (gYw v))) (hS : va_S (fun a => base ≤ a) s.heap H locs) (hl : zLv ad ls lr mL) {idx : Nat} {au : List Nat} {cs : Int} (ho : yOp o mL pc (.new idx) au cs = true) (hdg : decode cc pc = .ok (.new idx, 3)) (h : qKd v.2.2 = q0 au ∧ n0 ≤ v.2.2 ∧ v.2.2 < n1 ∧ yAll ls st v = true)
    (kk : yX p l e R s m args below meth c Z mL n0 base D dA ad0 (pc + 3, ls, .ref v.2.2 :: st, (v.1, v.2.1, v.2.2 + 1))) : W p l e R s m args below meth c H locs (v.2.2 - n0) (ySz v.2.2 - ySz n0) Z (F0 m pc lr (st.map (zV ad))) := by
  obtain ⟨hx, hb, hml, hown, hts, hg, ⟨hK, -, -⟩, hO, -⟩ := hc
  obtain ⟨h1, h2, h3, h4⟩ := h
  unfold yAll at h4
  simp only [Bool.and_eq_true] at h4
  obtain ⟨⟨a1, a2⟩, a3⟩ := h4
  unfold yOp at ho
  dsimp only at ho
  split at ho
  · rename_i k p1 p2 p3 hlk
    split at ho
    · rename_i q hq
      simp only [Bool.and_eq_true, decide_eq_true_eq] at ho
      obtain ⟨⟨⟨b1, b2⟩, b3⟩, b4⟩ := ho
      obtain ⟨i1, i2, i3⟩ := zCl_ok hq
      obtain ⟨hN, hk13⟩ := zSoN hq
      rw [b1] at h1
      have hlt : v.2.2 < 100 := zKd_lt (by rw [h1]; omega)
      obtain ⟨r1, r2, r3, r4⟩ := ys_room hRc h2 (Nat.le_succ v.2.2) h3
      have eN : ySz (v.2.2 + 1) - ySz v.2.2 = q.2.2 := by
        rw [← yLn_o h1 hq]; show ySz v.2.2 + yLn v.2.2 - ySz v.2.2 = _; omega
      have e1 : v.2.2 + 1 - v.2.2 = 1 := by omega
      rw [eN] at r2 r4
      rw [show v.2.2.succ = v.2.2 + 1 from rfl, e1] at r1 r3
      have hfs : ∀ j, j < q.2.2 → defaultValue (zY k j) = vp_V (yFs ad (gYw v) v.2.2 k) j := by
        intro j hj
        have hj2 : j < (zSo.getD k []).length := by rw [hN]; exact hj
        have hso : ((zSo[k]?).bind (fun l => l[j]?)) = some ((zSo.getD k [])[j]'hj2) := by
          have e13 : zSo.length = 13 := rfl
          have hk' : k < zSo.length := by omega
          rw [List.getElem?_eq_getElem hk']
          have e2 : zSo.getD k [] = zSo[k] := by rw [List.getD_eq_getElem?_getD, List.getElem?_eq_getElem hk']; rfl
          simp only [Option.bind_some]
          rw [← e2] at *
          exact List.getElem?_eq_getElem hj2
        exact yFs_blank (yOk_Z a3) j _ hso
      refine va_new hx hb hts (fun w hw => hg w (zGw_in (i1 w hw) (u_ws_good hw))) (zY k) i3 hown (hts _ (hg _ (zGw_pk b2 rfl))) (hts _ (hg _ (zGw_pk b3 rfl))) (hts _ (hg _ (zGw_pk b4 rfl))) hK hP hD hS (fun z hz => Nat.le_trans hO.2.2.1 hz) hq hfs r1 r2 hdg (fun z H1 P1 D1 S1 => ?_)
      obtain ⟨hle, hws⟩ := yWs_more (dA := dA) (ad := ad) (q := z) a3 hlt (yCe_o h1 hk13)
      rw [← hws] at P1 D1
      have := kk _ H1 locs lr (hL.tr hle h2) P1 D1 S1 (yLv_le hle a1 hl)
      rw [r3, r4]
      have e5 : (Value.ref v.2.2 :: st).map (zV fun c => if c = v.2.2 then z else ad c) = .ref z :: st.map (zV ad) := by
        rw [List.map_cons, ySt_le hle a2]; simp [zV]
      rw [show ((pc + 3, ls, Value.ref v.2.2 :: st, ((v.1, v.2.1, v.2.2 + 1) : yw)) : gYs).2.2.1 = Value.ref v.2.2 :: st from rfl, e5] at this
      exact this
    · cases ho
  · cases ho
end YStep
