/-! One step of the small machine is steps of the machine. -/
def zGw : List Cond := lw_tbl.filter goodWord
theorem zGw_in {w : Cond} (h : w ∈ lw_tbl) (hg : goodWord w = true) : w ∈ zGw := List.mem_filter.mpr ⟨h, hg⟩
theorem zGw_pk {q : Nat × Nat} {w : Cond} (h : zPk q = some w) (hg : goodWord w = true) : w ∈ zGw := zGw_in (zPk_in h) hg
def zWm (y : MethodName) (b : ByteArray) (mL : Nat) (rt : Option FieldType) : List Cond := .code y b mL rt :: zGw
/-- the nest's links -/
def zNw : List Cond := lw_tbl.filter (fun w => match w with | .methodLinkNest _ _ _ _ => true | _ => false)
def zStx (i : Nat) : String := String.ofList ((qSt i).map (fun n => Char.ofNat n))
def zEnv (D : va_G) (dA : Nat → ClassId) (ad : Nat → Nat) (U : State) : Prop := va_K D zCl (zTy dA) U ∧ (∀ w ∈ zNw, va_Nw w U) ∧ ∀ i idx, zSi[i]? = some idx → ∃ tx, vk_R "NumberComes$Reader" idx tx (ad (1000 + i)) U
def zOld (ad adV : Nat → Nat) (base L : Nat) (xs : Nat → Int32) (U : State) (H : Heap) : Prop := va_X (ad 0) L xs U H ∧ ad 0 < base ∧ base ≤ H.size ∧ vk_S 16 ((List.range 16).map fun i => (qSt i).length) ((List.range 16).map fun i => (qSt i).map fun n => Int32.ofNat n) (fun i => ad (1000 + i)) adV (fun q => base ≤ q) U H ∧ va_Z "java/lang/String" "COMPACT_STRINGS" "Z" (.int 1) (fun q => base ≤ q) U H ∧ va_Zq "jdk/internal/util/Preconditions" "SIOOBE_FORMATTER" "Ljava/util/function/BiFunction;" (fun q => base ≤ q) U H
def zX (p : Program) (l : Launch) (e : Env) (R : Room) (s : State) (m : MethodId) (args : Array Value) (below : List Frame) (meth : Method) (c : Code) (Z : State → Prop) (kc ks mL base : Nat) (D : va_G) (dA : Nat → ClassId) (ad : Nat → Nat) (q : qS) : Prop :=
  ∀ (H : Heap) (locs : List Loc) (lr : Array Slot), va_P D zCl (zWs dA ad q.2.2.2) H → va_S (fun a => base ≤ a) s.heap H locs → zLv ad q.2.1 lr mL → W p l e R s m args below meth c H locs kc ks Z (F0 m q.1 lr (q.2.2.1.map (zV ad)))
def zC (p : Program) (s : State) (m : MethodId) (args : Array Value) (c : Code) (cc : ByteArray) (mL o base L : Nat) (xs : Nat → Int32) (D : va_G) (dA : Nat → ClassId) (ad adV : Nat → Nat) (Ts : List Cond) : Prop :=
  p.tables.exec = Jvm.exec ∧ c.code = cc ∧ c.maxLocals = mL ∧ s.vm.findClass (zOwn o) = some m.cls ∧ (∀ w ∈ Ts, w.before args s = true) ∧ (∀ w ∈ zGw, w ∈ Ts) ∧ zEnv D dA ad s ∧ zOld ad adV base L xs s s.heap ∧ zAd ad base
def zSwi (i : Instr) : Bool := match i with
  | .tableswitch _ _ _ _ => true
  | .lookupswitch _ _ => true
  | _ => false
theorem zOk1 {o mL : Nat} {cc : ByteArray} {rt : Option FieldType} {pc nx : Nat} {ins : Instr} {au : List Nat} {cs : Int} (hs : zSwi ins = false) (h : zOkI o cc mL rt (pc, ins, nx, au, cs) = true) : decode cc pc = .ok (ins, zLn ins) ∧ nx = pc + zLn ins ∧ zOp o mL rt pc ins au cs = true := by
  have h' : (decide (decode cc pc = .ok (ins, zLn ins)) && decide (nx = pc + zLn ins) && zOp o mL rt pc ins au cs) = true := by
    cases ins <;> first | exact h | cases hs
  simp only [Bool.and_eq_true, decide_eq_true_eq] at h'
  exact ⟨h'.1.1, h'.1.2, h'.2⟩
theorem u_ws_good {C : String} {T : u_T} {N : Nat} {w : Cond} (h : w ∈ u_ws C T N) : goodWord w = true := by
  obtain ⟨k, -, rfl⟩ := List.mem_map.mp h
  unfold u_lay
  split <;> rfl
theorem zZb {v : Int32} (h : qZb v = true) : vp_nar .boolean v = v ∧ narrow .boolean (.int v) = .int v ∧ fits .boolean (.int v) = true ∧ (v = 0 ∨ v = 1) := by
  have h1 : v.toBitVec.toNat ≤ 1 := Nat.le_of_ble_eq_true h
  have h2 : v = 0 ∨ v = 1 := by
    rcases (show v.toBitVec.toNat = 0 ∨ v.toBitVec.toNat = 1 by omega) with e | e
    · exact Or.inl (Int32.toBitVec_inj.mp (BitVec.eq_of_toNat_eq (by rw [e]; rfl)))
    · exact Or.inr (Int32.toBitVec_inj.mp (BitVec.eq_of_toNat_eq (by rw [e]; rfl)))
  rcases h2 with rfl | rfl
  · exact ⟨by decide, by decide, by decide, Or.inl rfl⟩
  · exact ⟨by decide, by decide, by decide, Or.inr rfl⟩
section Step
variable {p : Program} {l : Launch} {e : Env} {R : Room} {s : State} {m : MethodId} {args : Array Value} {below : List Frame} {meth : Method} {c : Code} {Z : State → Prop} {kc ks : Nat} {cc : ByteArray} {mL o base L : Nat} {xs : Nat → Int32} {D : va_G} {dA : Nat → ClassId} {ad adV : Nat → Nat} {Ts : List Cond} {pc : Nat} {ls : qL} {st : List Value} {w : qW} {H : Heap} {locs : List Loc} {lr : Array Slot}
/-- a getfield -/
theorem zs_get (hc : zC p s m args c cc mL o base L xs D dA ad adV Ts) (hP : va_P D zCl (zWs dA ad w) H) {idx c0 : Nat} {au : List Nat} {r : List Value} (hf : zFo o idx au false = true) (hk : qKd c0 = q0 au) (hdg : decode cc pc = .ok (.getfield idx, 3))
    (kk : W p l e R s m args below meth c H locs kc ks Z (F0 m (pc + 3) lr (zFv ad w c0 (q1 au) (q2 au) :: r))) : W p l e R s m args below meth c H locs kc ks Z (F0 m pc lr (.ref (ad c0) :: r)) := by
  obtain ⟨hx, hb, hml, hown, hts, hg, ⟨hK, -, -⟩, -, -⟩ := hc
  unfold zFo at hf
  split at hf
  · rename_i k f pq hlk
    split at hf
    · rename_i q hq
      simp only [Bool.and_eq_true, decide_eq_true_eq] at hf
      obtain ⟨⟨⟨⟨⟨h1, h2⟩, h3⟩, h4⟩, h5⟩, -⟩ := hf
      obtain ⟨i1, -, -⟩ := zCl_ok hq
      have hk13 : k < 13 := (List.getElem?_eq_some_iff.mp hq).1
      rw [h1] at hk
      obtain ⟨g1, g2⟩ := zPos hk (by omega) (by omega)
      have he := zWs_at (dA := dA) (ad := ad) (w := w) g1 g2
      rw [zCe_o hk hk13] at he
      obtain ⟨hv, -⟩ := zFs_at (ad := ad) (w := w) (c := c0) h5
      rw [h2] at kk
      exact va_get hx hb hts (fun w hw => hg w (zGw_in (i1 w hw) (u_ws_good hw))) hown hK hP (c0 - 1) he hq f h3 (hts _ (hg _ (zGw_pk h4 rfl))) (fun _ h => h) hv hdg kk
    · cases hf
  · cases hf
theorem zFo_lt {idx : Nat} {au : List Nat} {put : Bool} (hf : zFo o idx au put = true) : q1 au < 64 := by
  unfold zFo at hf
  split at hf
  · split at hf
    · rename_i k f pq hlk _ q hq
      simp only [Bool.and_eq_true, decide_eq_true_eq] at hf
      obtain ⟨⟨⟨⟨⟨h1, h2⟩, h3⟩, h4⟩, h5⟩, h6⟩ := hf
      obtain ⟨l, hl, hlf⟩ := Option.bind_eq_some_iff.mp h5
      have h7 := zSo_len k
      have e : zSo.getD k [] = l := by rw [List.getD_eq_getElem?_getD, hl]; rfl
      rw [e] at h7
      have := (List.getElem?_eq_some_iff.mp hlf).1
      omega
    · cases hf
  · cases hf
/-- a putfield -/
theorem zs_put (hc : zC p s m args c cc mL o base L xs D dA ad adV Ts) (hP : va_P D zCl (zWs dA ad w) H) (hS : va_S (fun a => base ≤ a) s.heap H locs) {idx c0 : Nat} {au : List Nat} {r : List Value} {v : Value} {w' : qW} (hf : zFo o idx au true = true) (hk : qKd c0 = q0 au) (hdg : decode cc pc = .ok (.putfield idx, 3))
    (hv : zFv ad w' c0 (q1 au) (q2 au) = v) (hof : ∀ f' so', f' ≠ q1 au → zFv ad w' c0 f' so' = zFv ad w c0 f' so') (hoc : ∀ c', c' ≠ c0 → zCe dA ad w' c' = zCe dA ad w c') (hfit : ∀ k, q0 au = k + 1 → ((zSo[k]?).bind (fun l => l[q1 au]?)) = some (q2 au) → narrow (zY k (q1 au)) v = v ∧ fits (zY k (q1 au)) v = true)
    (kk : ∀ (H1 : Heap) (locs1 : List Loc), va_P D zCl (zWs dA ad w') H1 → va_S (fun a => base ≤ a) s.heap H1 locs1 → W p l e R s m args below meth c H1 locs1 kc ks Z (F0 m (pc + 3) lr r)) : W p l e R s m args below meth c H locs kc ks Z (F0 m pc lr (v :: .ref (ad c0) :: r)) := by
  obtain ⟨hx, hb, hml, hown, hts, hg, ⟨hK, -, -⟩, -, hA⟩ := hc
  unfold zFo at hf
  split at hf
  · rename_i k f pq hlk
    split at hf
    · rename_i q hq
      simp only [Bool.and_eq_true, decide_eq_true_eq] at hf
      obtain ⟨⟨⟨⟨⟨h1, h2⟩, h3⟩, h4⟩, h5⟩, h6⟩ := hf
      have h6 : (q.2.1 f).2.2.2 = false := by simpa using h6
      obtain ⟨i1, i2, i3⟩ := zCl_ok hq
      have hk13 : k < 13 := (List.getElem?_eq_some_iff.mp hq).1
      rw [h1] at hk
      obtain ⟨g1, g2⟩ := zPos hk (by omega) (by omega)
      have he := zWs_at (dA := dA) (ad := ad) (w := w) g1 g2
      rw [zCe_o hk hk13] at he
      obtain ⟨hv0, hl0⟩ := zFs_at (ad := ad) (w := w) (c := c0) h5
      obtain ⟨n1, n2⟩ := hfit k h1 (by rw [h2]; exact h5)
      rw [h2] at n1 n2 hv hof
      refine va_put hx hb hts (fun w hw => hg w (zGw_in (i1 w hw) (u_ws_good hw))) (zY k) i3 i2 hown hK hP (zWs_D hA) hS (c0 - 1) he hq f h3 (hts _ (hg _ (zGw_pk h4 rfl))) (fun _ h => h) h6 (i3 f h3) n1 n2 hl0 hdg (fun H1 locs1 p1 _ s1 => kk H1 locs1 ?_ s1)
      have e1 : zWs dA ad w' = (zWs dA ad w).set (c0 - 1) (ad c0, .inr (k, (zFs ad w c0 k).set f v)) := by
        rw [zWs_set g1 g2 hoc, zCe_o hk hk13, zFs_set h5 hv hof]
      rw [e1]
      exact p1
    · cases hf
  · cases hf
/-- an array of ints, of booleans, of longs is read -/
theorem zs_iald (hc : zC p s m args c cc mL o base L xs D dA ad adV Ts) (hP : va_P D zCl (zWs dA ad w) H) {c0 : Nat} {i : Int32} {r : List Value} (hk : qKd c0 = 33) (hi : qIn i (qLn c0)) (hdg : decode cc pc = .ok (.iaload, 1))
    (kk : W p l e R s m args below meth c H locs kc ks Z (F0 m (pc + 1) lr (.int (w.1 c0 (qIx i)) :: r))) : W p l e R s m args below meth c H locs kc ks Z (F0 m pc lr (.int i :: .ref (ad c0) :: r)) := by
  obtain ⟨hx, hb, hml, hown, hts, hg, ⟨hK, -, -⟩, -, hA⟩ := hc
  obtain ⟨g1, g2⟩ := zPos hk (by omega) (by omega)
  have he := zWs_at (dA := dA) (ad := ad) (w := w) g1 g2
  rw [zCe_33 hk] at he
  exact va_iald hx hb hK hP (c0 - 1) 0 he rfl hi hdg kk
theorem zs_zald (hc : zC p s m args c cc mL o base L xs D dA ad adV Ts) (hP : va_P D zCl (zWs dA ad w) H) {c0 : Nat} {i : Int32} {r : List Value} (hk : qKd c0 = 34) (hi : qIn i (qLn c0)) (hdg : decode cc pc = .ok (.baload, 1))
    (kk : W p l e R s m args below meth c H locs kc ks Z (F0 m (pc + 1) lr (.int (w.1 c0 (qIx i)) :: r))) : W p l e R s m args below meth c H locs kc ks Z (F0 m pc lr (.int i :: .ref (ad c0) :: r)) := by
  obtain ⟨hx, hb, hml, hown, hts, hg, ⟨hK, -, -⟩, -, hA⟩ := hc
  obtain ⟨g1, g2⟩ := zPos hk (by omega) (by omega)
  have he := zWs_at (dA := dA) (ad := ad) (w := w) g1 g2
  rw [zCe_34 hk] at he
  exact va_zald hx hb hK hP (c0 - 1) 1 he rfl hi hdg kk
theorem zs_lald (hc : zC p s m args c cc mL o base L xs D dA ad adV Ts) (hP : va_P D zCl (zWs dA ad w) H) {c0 : Nat} {i : Int32} {r : List Value} (hk : qKd c0 = 35) (hi : qIn i (qLn c0)) (hdg : decode cc pc = .ok (.laload, 1))
    (kk : W p l e R s m args below meth c H locs kc ks Z (F0 m (pc + 1) lr (.long (w.2.1 c0 (qIx i)) :: r))) : W p l e R s m args below meth c H locs kc ks Z (F0 m pc lr (.int i :: .ref (ad c0) :: r)) := by
  obtain ⟨hx, hb, hml, hown, hts, hg, ⟨hK, -, -⟩, -, hA⟩ := hc
  obtain ⟨g1, g2⟩ := zPos hk (by omega) (by omega)
  have he := zWs_at (dA := dA) (ad := ad) (w := w) g1 g2
  rw [zCe_35 hk] at he
  exact va_lald hx hb hK hP (c0 - 1) 2 he rfl hi hdg kk
theorem zs_aald (hc : zC p s m args c cc mL o base L xs D dA ad adV Ts) (hP : va_P D zCl (zWs dA ad w) H) {c0 t : Nat} {i : Int32} {r : List Value} (hk : qKd c0 = 36) (hi : qIn i (qLn c0)) (ht : qR0 c0 (qIx i) = some t) (hdg : decode cc pc = .ok (.aaload, 1))
    (kk : W p l e R s m args below meth c H locs kc ks Z (F0 m (pc + 1) lr (.ref (ad t) :: r))) : W p l e R s m args below meth c H locs kc ks Z (F0 m pc lr (.int i :: .ref (ad c0) :: r)) := by
  obtain ⟨hx, hb, hml, hown, hts, hg, ⟨hK, -, -⟩, -, hA⟩ := hc
  obtain ⟨g1, g2⟩ := zPos hk (by omega) (by omega)
  have he := zWs_at (dA := dA) (ad := ad) (w := w) g1 g2
  rw [zCe_36 hk] at he
  refine va_aldq hx hb hK hP (c0 - 1) 3 he rfl hi hdg ?_
  show W p l e R s m args below meth c H locs kc ks Z (F0 m (pc + 1) lr (va_rf ((qR0 c0 (qIx i)).map ad) :: r))
  rw [ht]
  exact kk
/-- .. and written -/
theorem zs_iast (hc : zC p s m args c cc mL o base L xs D dA ad adV Ts) (hP : va_P D zCl (zWs dA ad w) H) (hS : va_S (fun a => base ≤ a) s.heap H locs) {c0 : Nat} {i v : Int32} {r : List Value} (hk : qKd c0 = 33) (hi : qIn i (qLn c0)) (hdg : decode cc pc = .ok (.iastore, 1))
    (kk : ∀ (H1 : Heap) (locs1 : List Loc), va_P D zCl (zWs dA ad (qPutI w c0 (qIx i) v)) H1 → va_S (fun a => base ≤ a) s.heap H1 locs1 → W p l e R s m args below meth c H1 locs1 kc ks Z (F0 m (pc + 1) lr r)) : W p l e R s m args below meth c H locs kc ks Z (F0 m pc lr (.int v :: .int i :: .ref (ad c0) :: r)) := by
  obtain ⟨hx, hb, hml, hown, hts, hg, ⟨hK, -, -⟩, -, hA⟩ := hc
  obtain ⟨g1, g2⟩ := zPos hk (by omega) (by omega)
  have he := zWs_at (dA := dA) (ad := ad) (w := w) g1 g2
  rw [zCe_33 hk] at he
  refine va_iast hx hb hK hP (zWs_D hA) hS (c0 - 1) 0 he rfl hi hdg (fun H1 locs1 p1 _ s1 => kk H1 locs1 ?_ s1)
  rw [zWs_set g1 g2 (fun c' h => zCe_I h), zCe_33 hk]
  have e1 : (fun j => (qPutI w c0 (qIx i) v).1 c0 j) = upd (fun j => w.1 c0 j) i.toNatClampNeg v := by
    funext j; simp [qPutI, upd, qIx]
  rw [e1]
  exact p1
theorem zs_zast (hc : zC p s m args c cc mL o base L xs D dA ad adV Ts) (hP : va_P D zCl (zWs dA ad w) H) (hS : va_S (fun a => base ≤ a) s.heap H locs) {c0 : Nat} {i v : Int32} {r : List Value} (hk : qKd c0 = 34) (hi : qIn i (qLn c0)) (hv : qZb v = true) (hdg : decode cc pc = .ok (.bastore, 1))
    (kk : ∀ (H1 : Heap) (locs1 : List Loc), va_P D zCl (zWs dA ad (qPutI w c0 (qIx i) v)) H1 → va_S (fun a => base ≤ a) s.heap H1 locs1 → W p l e R s m args below meth c H1 locs1 kc ks Z (F0 m (pc + 1) lr r)) : W p l e R s m args below meth c H locs kc ks Z (F0 m pc lr (.int v :: .int i :: .ref (ad c0) :: r)) := by
  obtain ⟨hx, hb, hml, hown, hts, hg, ⟨hK, -, -⟩, -, hA⟩ := hc
  obtain ⟨g1, g2⟩ := zPos hk (by omega) (by omega)
  have he := zWs_at (dA := dA) (ad := ad) (w := w) g1 g2
  rw [zCe_34 hk] at he
  refine va_zast hx hb hK hP (zWs_D hA) hS (c0 - 1) 1 he rfl hi hdg (fun H1 locs1 p1 _ s1 => kk H1 locs1 ?_ s1)
  rw [zWs_set g1 g2 (fun c' h => zCe_I h), zCe_34 hk]
  have e1 : (fun j => (qPutI w c0 (qIx i) v).1 c0 j) = upd (fun j => w.1 c0 j) i.toNatClampNeg (vp_nar .boolean v) := by
    rw [(zZb hv).1]
    funext j; simp [qPutI, upd, qIx]
  rw [e1]
  exact p1
theorem zs_last (hc : zC p s m args c cc mL o base L xs D dA ad adV Ts) (hP : va_P D zCl (zWs dA ad w) H) (hS : va_S (fun a => base ≤ a) s.heap H locs) {c0 : Nat} {i : Int32} {v : Int64} {r : List Value} (hk : qKd c0 = 35) (hi : qIn i (qLn c0)) (hdg : decode cc pc = .ok (.lastore, 1))
    (kk : ∀ (H1 : Heap) (locs1 : List Loc), va_P D zCl (zWs dA ad (qPutL w c0 (qIx i) v)) H1 → va_S (fun a => base ≤ a) s.heap H1 locs1 → W p l e R s m args below meth c H1 locs1 kc ks Z (F0 m (pc + 1) lr r)) : W p l e R s m args below meth c H locs kc ks Z (F0 m pc lr (.long v :: .int i :: .ref (ad c0) :: r)) := by
  obtain ⟨hx, hb, hml, hown, hts, hg, ⟨hK, -, -⟩, -, hA⟩ := hc
  obtain ⟨g1, g2⟩ := zPos hk (by omega) (by omega)
  have he := zWs_at (dA := dA) (ad := ad) (w := w) g1 g2
  rw [zCe_35 hk] at he
  refine va_last hx hb hK hP (zWs_D hA) hS (c0 - 1) 2 he rfl hi hdg (fun H1 locs1 p1 _ s1 => kk H1 locs1 ?_ s1)
  rw [zWs_set g1 g2 (fun c' h => zCe_L h), zCe_35 hk]
  have e1 : (fun j => (qPutL w c0 (qIx i) v).2.1 c0 j) = vp_updL (fun j => w.2.1 c0 j) i.toNatClampNeg v := by
    funext j; simp [qPutL, vp_updL, qIx]
  rw [e1]
  exact p1
/-- its length -/
theorem zs_alen (hc : zC p s m args c cc mL o base L xs D dA ad adV Ts) (hP : va_P D zCl (zWs dA ad w) H) {c0 : Nat} {r : List Value} (h0 : c0 ≠ 0) (hk : 33 ≤ qKd c0) (hdg : decode cc pc = .ok (.arraylength, 1))
    (kk : W p l e R s m args below meth c H locs kc ks Z (F0 m (pc + 1) lr (.int (Int32.ofNat (qLn c0)) :: r))) : W p l e R s m args below meth c H locs kc ks Z (F0 m pc lr (.ref (ad c0) :: r)) := by
  obtain ⟨hx, hb, hml, hown, hts, hg, ⟨hK, -, -⟩, -, hA⟩ := hc
  have g2 : c0 < 100 := zKd_lt (by omega)
  have he := zWs_at (dA := dA) (ad := ad) (w := w) (Nat.pos_of_ne_zero h0) g2
  have hk' : qKd c0 = 33 ∨ qKd c0 = 34 ∨ qKd c0 = 35 ∨ qKd c0 = 36 := by
    have key : ∀ k : Fin 100, k.val ≠ 0 → 33 ≤ qKd k.val → qKd k.val = 33 ∨ qKd k.val = 34 ∨ qKd k.val = 35 ∨ qKd k.val = 36 := by decide +kernel
    exact key ⟨c0, g2⟩ h0 hk
  rcases hk' with h | h | h | h
  · rw [zCe_33 h] at he; exact va_alen hx hb hK hP (c0 - 1) 0 he rfl rfl hdg kk
  · rw [zCe_34 h] at he; exact va_alen hx hb hK hP (c0 - 1) 1 he rfl rfl hdg kk
  · rw [zCe_35 h] at he; exact va_alen hx hb hK hP (c0 - 1) 2 he rfl rfl hdg kk
  · rw [zCe_36 h] at he; exact va_alen hx hb hK hP (c0 - 1) 3 he rfl rfl hdg kk
end Step
